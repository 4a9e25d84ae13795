def f_X10_placeOf (o : Nat) (a0 : Int32) (I : Nat → Nat → Int32) (L : Nat → Nat → Int64) : Option (Int32 × bf_St) :=
  (if (99 : Int32) ≤ ((I o 6) + a0) then (some ((((I o 6) + a0) - (99 : Int32)), I, L)) else (some (((I o 6) + a0), I, L)))
set_option maxRecDepth 100000 in
set_option maxHeartbeats 4000000 in
theorem ok_X10_placeOf {Γ : bf_Gm} {ad : Nat → Nat} {o : Nat} {a0 : Int32} {I : Nat → Nat → Int32} {L : Nat → Nat → Int64} (hk : bf_kd o = 10) {r : Int32 × bf_St} (hf : f_X10_placeOf o a0 I L = some r) : bf_Cn Γ 0 mu_X10_placeOf 0 0 [.ref (ad o), .int a0] (bf_S ad I L) (fun q h => q = some (.int r.1) ∧ h = bf_S ad r.2.1 r.2.2) := by
  refine bf_met rfl (Nat.le_of_ble_eq_true rfl) ?_
  unfold f_X10_placeOf at hf
  refine bf_aload_n 0 dX10_placeOf_0 rfl rfl ?_
  refine fg_X10_38 dX10_placeOf_1 rfl hk ?_
  refine bf_iload_n 1 dX10_placeOf_4 rfl rfl ?_
  refine bf_iadd dX10_placeOf_5 ?_
  refine bf_istore_n (lv2 := [(2, .int _), (0, .ref _), (1, .int _)]) dX10_placeOf_6 rfl (by decide) rfl ?_
  refine bf_iload_n 0 dX10_placeOf_7 rfl rfl ?_
  refine bf_bipush (v := 99) dX10_placeOf_8 (by decide) ?_
  refine bf_icmp_ge 17 dX10_placeOf_10 (by decide) (fun c1 => ?_) (fun c1 => ?_)
  · have hf := (if_pos c1).symm.trans hf
    refine bf_iload_n 0 dX10_placeOf_17 rfl rfl ?_
    refine bf_bipush (v := 99) dX10_placeOf_18 (by decide) ?_
    refine bf_isub dX10_placeOf_20 ?_
    obtain rfl := Option.some.inj hf
    exact bf_iret dX10_placeOf_21 rfl (Nat.le_refl _) (Nat.le_refl _) ⟨rfl, rfl⟩
  · have hf := (if_neg c1).symm.trans hf
    refine bf_iload_n 0 dX10_placeOf_13 rfl rfl ?_
    refine bf_goto 21 dX10_placeOf_14 (by decide) ?_
    obtain rfl := Option.some.inj hf
    exact bf_iret dX10_placeOf_21 rfl (Nat.le_refl _) (Nat.le_refl _) ⟨rfl, rfl⟩
def f_X10_takeEarliest (o : Nat) (I : Nat → Nat → Int32) (L : Nat → Nat → Int64) : Option (Int32 × bf_St) :=
  (if (I o 5) = 0 then (some ((0 : Int32), I, L)) else (if bf_ok (I o 6) 99 then ((f_X10_placeOf o (1 : Int32) I L).bind (fun r4 => (some ((I (o + 1) (I o 6).toNatClampNeg), (bf_u (bf_u r4.2.1 o 6 r4.1) o 5 (((bf_u r4.2.1 o 6 r4.1) o 5) - (1 : Int32))), r4.2.2)))) else none))
set_option maxRecDepth 100000 in
set_option maxHeartbeats 4000000 in
theorem ok_X10_takeEarliest {Γ : bf_Gm} {ad : Nat → Nat} {o : Nat} {I : Nat → Nat → Int32} {L : Nat → Nat → Int64} (hk : bf_kd o = 10) {r : Int32 × bf_St} (hf : f_X10_takeEarliest o I L = some r) : bf_Cn Γ 1 mu_X10_takeEarliest 0 0 [.ref (ad o)] (bf_S ad I L) (fun q h => q = some (.int r.1) ∧ h = bf_S ad r.2.1 r.2.2) := by
  refine bf_met rfl (Nat.le_of_ble_eq_true rfl) ?_
  unfold f_X10_takeEarliest at hf
  refine bf_aload_n 0 dX10_takeEarliest_0 rfl rfl ?_
  refine fg_X10_35 dX10_takeEarliest_1 rfl hk ?_
  refine bf_if_ne 9 dX10_takeEarliest_4 (by decide) (fun c1 => ?_) (fun c1 => ?_)
  · have hf := (if_neg c1).symm.trans hf
    refine bf_aload_n 0 dX10_takeEarliest_9 rfl rfl ?_
    refine fg_X10_9 dX10_takeEarliest_10 rfl hk ?_
    refine bf_aload_n 0 dX10_takeEarliest_13 rfl rfl ?_
    refine fg_X10_38 dX10_takeEarliest_14 rfl hk ?_
    rcases Decidable.em (bf_ok (I o 6) 99) with c2 | c2
    · have hf := (if_pos c2).symm.trans hf
      refine bf_iald dX10_takeEarliest_17 (kr_10_7 hk) (by rw [(kl_10_7 hk)]; exact c2) ?_
      refine bf_istore_n (lv2 := [(1, .int _), (0, .ref _)]) dX10_takeEarliest_18 rfl (by decide) rfl ?_
      refine bf_aload_n 1 dX10_takeEarliest_19 rfl rfl ?_
      refine bf_aload_n 1 dX10_takeEarliest_20 rfl rfl ?_
      refine bf_iconst (v := 1) dX10_takeEarliest_21 (by decide) ?_
      obtain ⟨r4, e3, hf⟩ := bf_bind hf
      have hCe3 := ok_X10_placeOf (Γ := Γ) (ad := ad) hk e3
      refine cv_X10_57 0 dX10_takeEarliest_22 rfl ⟨Nat.le_of_ble_eq_true rfl, Nat.le_of_ble_eq_true rfl⟩ (Nat.le_of_ble_eq_true rfl) hk hCe3 ?_
      refine fp_X10_38 dX10_takeEarliest_25 rfl hk ?_
      refine bf_aload_n 1 dX10_takeEarliest_28 rfl rfl ?_
      refine bf_dup dX10_takeEarliest_29 rfl ?_
      refine fg_X10_35 dX10_takeEarliest_30 rfl hk ?_
      refine bf_iconst (v := 1) dX10_takeEarliest_33 (by decide) ?_
      refine bf_isub dX10_takeEarliest_34 ?_
      refine fp_X10_35 dX10_takeEarliest_35 rfl hk ?_
      refine bf_iload_n 0 dX10_takeEarliest_38 rfl rfl ?_
      obtain rfl := Option.some.inj hf
      exact bf_iret dX10_takeEarliest_39 rfl (Nat.le_refl _) (Nat.le_refl _) ⟨rfl, rfl⟩
    · exact absurd ((if_neg c2).symm.trans hf) (by simp)
  · have hf := (if_pos c1).symm.trans hf
    refine bf_iconst (v := 0) dX10_takeEarliest_7 (by decide) ?_
    obtain rfl := Option.some.inj hf
    exact bf_iret dX10_takeEarliest_8 rfl (Nat.le_refl _) (Nat.le_refl _) ⟨rfl, rfl⟩
def f_X3_takeAll_47 (v0 : Nat) (v1 : Int32) (v2 : Nat) (v4 : Int32) (v5 : Nat) (v6 : Int32) (K : Int32 → (Nat → Nat → Int32) → (Nat → Nat → Int64) → Option (Int32 × bf_St)) : Nat → Int32 → Int32 → (Nat → Nat → Int32) → (Nat → Nat → Int64) → Option (Int32 × bf_St)
  | 0, _, _, _, _ => none
  | n + 1, v3, v7, I, L =>
    (if v6 ≤ v7 then (K v3 I L) else ((f_X10_takeEarliest v5 I L).bind (fun r10 => ((f_X0_madeWith v2 v3 r10.1 r10.2.1 r10.2.2).bind (fun r12 => (f_X3_takeAll_47 v0 v1 v2 v4 v5 v6 K n r12.1 (v7 + (1 : Int32)) r12.2.1 r12.2.2))))))
set_option maxRecDepth 100000 in
set_option maxHeartbeats 4000000 in
theorem ok_X3_takeAll_47 {Γ : bf_Gm} {ad : Nat → Nat} {v0 : Nat} {v1 : Int32} {v2 : Nat} {v4 : Int32} {v5 : Nat} {v6 : Int32} (hv0 : bf_kd v0 = 3) (hv2 : bf_kd v2 = 0) (hv5 : bf_kd v5 = 10) {r : Int32 × bf_St} {K : Int32 → (Nat → Nat → Int32) → (Nat → Nat → Int64) → Option (Int32 × bf_St)} (hK : ∀ (v3 : Int32) (I : Nat → Nat → Int32) (L : Nat → Nat → Int64), K v3 I L = some r → bf_Go Γ (bf_rm 2 0 0) mu_X3_takeAll bf_E0 (bf_Z Γ (fun q h => q = some (.int r.1) ∧ h = bf_S ad r.2.1 r.2.2) 0 0) (0, 0) 71 [(0, .ref (ad v0)), (1, .int v1), (2, .ref (ad v2)), (3, .int v3), (4, .int v4)] [] (bf_S ad I L)) : ∀ (n : Nat) (v3 : Int32) (v7 : Int32) (I : Nat → Nat → Int32) (L : Nat → Nat → Int64), f_X3_takeAll_47 v0 v1 v2 v4 v5 v6 K n v3 v7 I L = some r → bf_Go Γ (bf_rm 2 0 0) mu_X3_takeAll bf_E0 (bf_Z Γ (fun q h => q = some (.int r.1) ∧ h = bf_S ad r.2.1 r.2.2) 0 0) (0, 0) 47 [(0, .ref (ad v0)), (1, .int v1), (2, .ref (ad v2)), (3, .int v3), (4, .int v4), (5, .ref (ad v5)), (6, .int v6), (7, .int v7)] [] (bf_S ad I L) := by
  intro n
  induction n with
  | zero => intro v3 v7 I L hf; exact absurd (show none = some r from hf) (by simp)
  | succ n ih =>
    intro v3 v7 I L hf
    rw [f_X3_takeAll_47] at hf
    refine bf_iload 7 dX3_takeAll_47 rfl ?_
    refine bf_iload 6 dX3_takeAll_49 rfl ?_
    refine bf_icmp_ge 71 dX3_takeAll_51 (by decide) (fun c8 => ?_) (fun c8 => ?_)
    · have hf := (if_pos c8).symm.trans hf
      refine bf_perm [0, 1, 2, 3, 4] rfl ?_
      exact hK _ _ _ hf
    · have hf := (if_neg c8).symm.trans hf
      refine bf_aload_n 2 dX3_takeAll_54 rfl rfl ?_
      refine bf_iload_n 3 dX3_takeAll_55 rfl rfl ?_
      refine bf_aload 5 dX3_takeAll_56 rfl ?_
      obtain ⟨r10, e9, hf⟩ := bf_bind hf
      have hCe9 := ok_X10_takeEarliest (Γ := Γ) (ad := ad) hv5 e9
      refine cv_X3_78 1 dX3_takeAll_58 rfl ⟨Nat.le_of_ble_eq_true rfl, Nat.le_of_ble_eq_true rfl⟩ (Nat.le_of_ble_eq_true rfl) hv5 hCe9 ?_
      obtain ⟨r12, e11, hf⟩ := bf_bind hf
      have hCe11 := ok_X0_madeWith (Γ := Γ) (ad := ad) hv2 e11
      refine cv_X3_81 1 dX3_takeAll_61 rfl ⟨Nat.le_of_ble_eq_true rfl, Nat.le_of_ble_eq_true rfl⟩ (Nat.le_of_ble_eq_true rfl) hv2 hCe11 ?_
      refine bf_istore_n (lv2 := [(3, .int _), (0, .ref _), (1, .int _), (2, .ref _), (4, .int _), (5, .ref _), (6, .int _), (7, .int _)]) dX3_takeAll_64 rfl (by decide) rfl ?_
      refine bf_iinc 7 (v := _ + (1 : Int32)) (lv2 := [(7, .int _), (3, .int _), (0, .ref _), (1, .int _), (2, .ref _), (4, .int _), (5, .ref _), (6, .int _)]) dX3_takeAll_65 rfl (by rfl) (by decide) rfl ?_
      refine bf_goto 47 dX3_takeAll_68 (by decide) ?_
      refine bf_perm [2, 3, 4, 1, 5, 6, 7, 0] rfl ?_
      exact ih _ _ _ _ hf
def f_X3_takeAll_8 (v0 : Nat) (v1 : Int32) (v2 : Nat) (K : Int32 → (Nat → Nat → Int32) → (Nat → Nat → Int64) → Option (Int32 × bf_St)) : Nat → Int32 → Int32 → (Nat → Nat → Int32) → (Nat → Nat → Int64) → Option (Int32 × bf_St)
  | 0, _, _, _, _ => none
  | n + 1, v3, v4, I, L =>
    (if (8 : Int32) ≤ v4 then (K v3 I L) else (if bf_ok v4 8 then ((f_X10_goesTo ((v0 + 8) + 1 + 2 * v4.toNatClampNeg) v1 I L).bind (fun r6 => (if r6.1 = 0 then (f_X3_takeAll_47 v0 v1 v2 v4 ((v0 + 8) + 1 + 2 * v4.toNatClampNeg) (0 : Int32) (fun k3_13 I13 L13 => (f_X3_takeAll_8 v0 v1 v2 K n k3_13 (v4 + (1 : Int32)) I13 L13)) 400 v3 (0 : Int32) r6.2.1 r6.2.2) else (f_X3_takeAll_47 v0 v1 v2 v4 ((v0 + 8) + 1 + 2 * v4.toNatClampNeg) (r6.2.1 ((v0 + 8) + 1 + 2 * v4.toNatClampNeg) 3) (fun k3_14 I14 L14 => (f_X3_takeAll_8 v0 v1 v2 K n k3_14 (v4 + (1 : Int32)) I14 L14)) 400 v3 (0 : Int32) r6.2.1 r6.2.2)))) else none))
set_option maxRecDepth 100000 in
set_option maxHeartbeats 4000000 in
theorem ok_X3_takeAll_8 {Γ : bf_Gm} {ad : Nat → Nat} {v0 : Nat} {v1 : Int32} {v2 : Nat} (hv0 : bf_kd v0 = 3) (hv2 : bf_kd v2 = 0) {r : Int32 × bf_St} {K : Int32 → (Nat → Nat → Int32) → (Nat → Nat → Int64) → Option (Int32 × bf_St)} (hK : ∀ (v3 : Int32) (I : Nat → Nat → Int32) (L : Nat → Nat → Int64), K v3 I L = some r → bf_Go Γ (bf_rm 2 0 0) mu_X3_takeAll bf_E0 (bf_Z Γ (fun q h => q = some (.int r.1) ∧ h = bf_S ad r.2.1 r.2.2) 0 0) (0, 0) 77 [(3, .int v3)] [] (bf_S ad I L)) : ∀ (n : Nat) (v3 : Int32) (v4 : Int32) (I : Nat → Nat → Int32) (L : Nat → Nat → Int64), f_X3_takeAll_8 v0 v1 v2 K n v3 v4 I L = some r → bf_Go Γ (bf_rm 2 0 0) mu_X3_takeAll bf_E0 (bf_Z Γ (fun q h => q = some (.int r.1) ∧ h = bf_S ad r.2.1 r.2.2) 0 0) (0, 0) 8 [(0, .ref (ad v0)), (1, .int v1), (2, .ref (ad v2)), (3, .int v3), (4, .int v4)] [] (bf_S ad I L) := by
  intro n
  induction n with
  | zero => intro v3 v4 I L hf; exact absurd (show none = some r from hf) (by simp)
  | succ n ih =>
    intro v3 v4 I L hf
    rw [f_X3_takeAll_8] at hf
    refine bf_iload 4 dX3_takeAll_8 rfl ?_
    refine bf_bipush (v := 8) dX3_takeAll_10 (by decide) ?_
    refine bf_icmp_ge 77 dX3_takeAll_12 (by decide) (fun c3 => ?_) (fun c3 => ?_)
    · have hf := (if_pos c3).symm.trans hf
      refine bf_perm [3] rfl ?_
      exact hK _ _ _ hf
    · have hf := (if_neg c3).symm.trans hf
      refine bf_aload_n 0 dX3_takeAll_15 rfl rfl ?_
      refine fg_X3_20 dX3_takeAll_16 rfl hv0 ?_
      refine bf_iload 4 dX3_takeAll_19 rfl ?_
      rcases Decidable.em (bf_ok v4 8) with c4 | c4
      · have hf := (if_pos c4).symm.trans hf
        refine al_19 dX3_takeAll_21 (kr_3_1 hv0) (by rw [(la_19 (kr_3_1 hv0))]; exact c4) ?_
        refine bf_astore (lv2 := [(5, .ref _), (0, .ref _), (1, .int _), (2, .ref _), (3, .int _), (4, .int _)]) dX3_takeAll_22 (by decide) rfl ?_
        refine bf_aload 0 dX3_takeAll_24 rfl ?_
        refine bf_iload_n 2 dX3_takeAll_26 rfl rfl ?_
        obtain ⟨r6, e5, hf⟩ := bf_bind hf
        have hCe5 := ok_X10_goesTo (Γ := Γ) (ad := ad) (ka_19 (kr_3_1 hv0) ((by rw [(la_19 (kr_3_1 hv0))]; exact c4) : bf_ok _ _).2) e5
        refine cv_X3_72 0 dX3_takeAll_27 rfl ⟨Nat.le_of_ble_eq_true rfl, Nat.le_of_ble_eq_true rfl⟩ (Nat.le_of_ble_eq_true rfl) (ka_19 (kr_3_1 hv0) ((by rw [(la_19 (kr_3_1 hv0))]; exact c4) : bf_ok _ _).2) hCe5 ?_
        refine bf_if_eq 41 dX3_takeAll_30 (by decide) (fun c7 => ?_) (fun c7 => ?_)
        · have hf := (if_pos c7).symm.trans hf
          refine bf_iconst (v := 0) dX3_takeAll_41 (by decide) ?_
          refine bf_istore (lv2 := [(6, .int _), (5, .ref _), (0, .ref _), (1, .int _), (2, .ref _), (3, .int _), (4, .int _)]) dX3_takeAll_42 (by decide) rfl ?_
          refine bf_iconst (v := 0) dX3_takeAll_44 (by decide) ?_
          refine bf_istore (lv2 := [(7, .int _), (6, .int _), (5, .ref _), (0, .ref _), (1, .int _), (2, .ref _), (3, .int _), (4, .int _)]) dX3_takeAll_45 (by decide) rfl ?_
          refine bf_perm [3, 4, 5, 6, 7, 2, 1, 0] rfl ?_
          refine ok_X3_takeAll_47 hv0 hv2 (ka_19 (kr_3_1 hv0) ((by rw [(la_19 (kr_3_1 hv0))]; exact c4) : bf_ok _ _).2) (fun k3_13 I13 L13 hf => ?_) _ _ _ _ _  hf
          refine bf_iinc 4 (v := _ + (1 : Int32)) (lv2 := [(4, .int _), (0, .ref _), (1, .int _), (2, .ref _), (3, .int _)]) dX3_takeAll_71 rfl (by rfl) (by decide) rfl ?_
          refine bf_goto 8 dX3_takeAll_74 (by decide) ?_
          refine bf_perm [1, 2, 3, 4, 0] rfl ?_
          exact ih _ _ _ _ hf
        · have hf := (if_neg c7).symm.trans hf
          refine bf_aload 0 dX3_takeAll_33 rfl ?_
          refine fg_X3_75 dX3_takeAll_35 rfl (ka_19 (kr_3_1 hv0) ((by rw [(la_19 (kr_3_1 hv0))]; exact c4) : bf_ok _ _).2) ?_
          refine bf_goto 42 dX3_takeAll_38 (by decide) ?_
          refine bf_istore (lv2 := [(6, .int _), (5, .ref _), (0, .ref _), (1, .int _), (2, .ref _), (3, .int _), (4, .int _)]) dX3_takeAll_42 (by decide) rfl ?_
          refine bf_iconst (v := 0) dX3_takeAll_44 (by decide) ?_
          refine bf_istore (lv2 := [(7, .int _), (6, .int _), (5, .ref _), (0, .ref _), (1, .int _), (2, .ref _), (3, .int _), (4, .int _)]) dX3_takeAll_45 (by decide) rfl ?_
          refine bf_perm [3, 4, 5, 6, 7, 2, 1, 0] rfl ?_
          refine ok_X3_takeAll_47 hv0 hv2 (ka_19 (kr_3_1 hv0) ((by rw [(la_19 (kr_3_1 hv0))]; exact c4) : bf_ok _ _).2) (fun k3_14 I14 L14 hf => ?_) _ _ _ _ _  hf
          refine bf_iinc 4 (v := _ + (1 : Int32)) (lv2 := [(4, .int _), (0, .ref _), (1, .int _), (2, .ref _), (3, .int _)]) dX3_takeAll_71 rfl (by rfl) (by decide) rfl ?_
          refine bf_goto 8 dX3_takeAll_74 (by decide) ?_
          refine bf_perm [1, 2, 3, 4, 0] rfl ?_
          exact ih _ _ _ _ hf
      · exact absurd ((if_neg c4).symm.trans hf) (by simp)
def f_X3_takeAll (o : Nat) (a0 : Int32) (a1 : Nat) (I : Nat → Nat → Int32) (L : Nat → Nat → Int64) : Option (Int32 × bf_St) :=
  ((f_X0_madeOfNothing a1 I L).bind (fun r2 => (f_X3_takeAll_8 o a0 a1 (fun k3_15 I15 L15 => (some (k3_15, I15, L15))) 400 r2.1 (0 : Int32) r2.2.1 r2.2.2)))
set_option maxRecDepth 100000 in
set_option maxHeartbeats 4000000 in
theorem ok_X3_takeAll {Γ : bf_Gm} {ad : Nat → Nat} {o : Nat} {a0 : Int32} {a1 : Nat} {I : Nat → Nat → Int32} {L : Nat → Nat → Int64} (hk : bf_kd o = 3) (hk1 : bf_kd a1 = 0) {r : Int32 × bf_St} (hf : f_X3_takeAll o a0 a1 I L = some r) : bf_Cn Γ 2 mu_X3_takeAll 0 0 [.ref (ad o), .int a0, .ref (ad a1)] (bf_S ad I L) (fun q h => q = some (.int r.1) ∧ h = bf_S ad r.2.1 r.2.2) := by
  refine bf_met rfl (Nat.le_of_ble_eq_true rfl) ?_
  unfold f_X3_takeAll at hf
  refine bf_aload_n 2 dX3_takeAll_0 rfl rfl ?_
  obtain ⟨r2, e1, hf⟩ := bf_bind hf
  have hCe1 := ok_X0_madeOfNothing (Γ := Γ) (ad := ad) hk1 e1
  refine cv_X3_68 0 dX3_takeAll_1 rfl ⟨Nat.le_of_ble_eq_true rfl, Nat.le_of_ble_eq_true rfl⟩ (Nat.le_of_ble_eq_true rfl) hk1 hCe1 ?_
  refine bf_istore_n (lv2 := [(3, .int _), (0, .ref _), (1, .int _), (2, .ref _)]) dX3_takeAll_4 rfl (by decide) rfl ?_
  refine bf_iconst (v := 0) dX3_takeAll_5 (by decide) ?_
  refine bf_istore (lv2 := [(4, .int _), (3, .int _), (0, .ref _), (1, .int _), (2, .ref _)]) dX3_takeAll_6 (by decide) rfl ?_
  refine bf_perm [2, 3, 4, 1, 0] rfl ?_
  refine ok_X3_takeAll_8 hk hk1 (fun k3_15 I15 L15 hf => ?_) _ _ _ _ _  hf
  refine bf_iload_n 0 dX3_takeAll_77 rfl rfl ?_
  obtain rfl := Option.some.inj hf
  exact bf_iret dX3_takeAll_78 rfl (Nat.le_refl _) (Nat.le_refl _) ⟨rfl, rfl⟩
def f_X10_append (o : Nat) (a0 : Int32) (I : Nat → Nat → Int32) (L : Nat → Nat → Int64) : Option (bf_St) :=
  (if (99 : Int32) ≤ (I o 5) then (some (I, L)) else ((f_X10_placeOf o (I o 5) I L).bind (fun r3 => (if bf_ok r3.1 99 then (some ((bf_u (bf_u r3.2.1 (o + 1) r3.1.toNatClampNeg a0) o 5 (((bf_u r3.2.1 (o + 1) r3.1.toNatClampNeg a0) o 5) + (1 : Int32))), r3.2.2)) else none))))
set_option maxRecDepth 100000 in
set_option maxHeartbeats 4000000 in
theorem ok_X10_append {Γ : bf_Gm} {ad : Nat → Nat} {o : Nat} {a0 : Int32} {I : Nat → Nat → Int32} {L : Nat → Nat → Int64} (hk : bf_kd o = 10) {r : bf_St} (hf : f_X10_append o a0 I L = some r) : bf_Cn Γ 1 mu_X10_append 0 0 [.ref (ad o), .int a0] (bf_S ad I L) (fun q h => q = none ∧ h = bf_S ad r.1 r.2) := by
  refine bf_met rfl (Nat.le_of_ble_eq_true rfl) ?_
  unfold f_X10_append at hf
  refine bf_aload_n 0 dX10_append_0 rfl rfl ?_
  refine fg_X10_35 dX10_append_1 rfl hk ?_
  refine bf_bipush (v := 99) dX10_append_4 (by decide) ?_
  refine bf_icmp_ge 33 dX10_append_6 (by decide) (fun c1 => ?_) (fun c1 => ?_)
  · have hf := (if_pos c1).symm.trans hf
    obtain rfl := Option.some.inj hf
    exact bf_vret dX10_append_33 rfl (Nat.le_refl _) (Nat.le_refl _) ⟨rfl, rfl⟩
  · have hf := (if_neg c1).symm.trans hf
    refine bf_aload_n 0 dX10_append_9 rfl rfl ?_
    refine fg_X10_9 dX10_append_10 rfl hk ?_
    refine bf_aload_n 0 dX10_append_13 rfl rfl ?_
    refine bf_aload_n 0 dX10_append_14 rfl rfl ?_
    refine fg_X10_35 dX10_append_15 rfl hk ?_
    obtain ⟨r3, e2, hf⟩ := bf_bind hf
    have hCe2 := ok_X10_placeOf (Γ := Γ) (ad := ad) hk e2
    refine cv_X10_57 0 dX10_append_18 rfl ⟨Nat.le_of_ble_eq_true rfl, Nat.le_of_ble_eq_true rfl⟩ (Nat.le_of_ble_eq_true rfl) hk hCe2 ?_
    refine bf_iload_n 1 dX10_append_21 rfl rfl ?_
    rcases Decidable.em (bf_ok r3.1 99) with c4 | c4
    · have hf := (if_pos c4).symm.trans hf
      refine bf_iast dX10_append_22 (kr_10_7 hk) (by rw [(kl_10_7 hk)]; exact c4) ?_
      refine bf_aload_n 0 dX10_append_23 rfl rfl ?_
      refine bf_dup dX10_append_24 rfl ?_
      refine fg_X10_35 dX10_append_25 rfl hk ?_
      refine bf_iconst (v := 1) dX10_append_28 (by decide) ?_
      refine bf_iadd dX10_append_29 ?_
      refine fp_X10_35 dX10_append_30 rfl hk ?_
      obtain rfl := Option.some.inj hf
      exact bf_vret dX10_append_33 rfl (Nat.le_refl _) (Nat.le_refl _) ⟨rfl, rfl⟩
    · exact absurd ((if_neg c4).symm.trans hf) (by simp)
def f_X3_putOn_2 (v0 : Nat) (v1 : Nat) (v2 : Int32) (K : (Nat → Nat → Int32) → (Nat → Nat → Int64) → Option (bf_St)) : Nat → Int32 → (Nat → Nat → Int32) → (Nat → Nat → Int64) → Option (bf_St)
  | 0, _, _, _ => none
  | n + 1, v3, I, L =>
    (if (I v0 2) ≤ v3 then (K I L) else ((f_X0_tokenOf v1 v2 v3 I L).bind (fun r3 => ((f_X10_append v0 r3.1 r3.2.1 r3.2.2).bind (fun r5 => (f_X3_putOn_2 v0 v1 v2 K n (v3 + (1 : Int32)) r5.1 r5.2))))))
set_option maxRecDepth 100000 in
set_option maxHeartbeats 4000000 in
theorem ok_X3_putOn_2 {Γ : bf_Gm} {ad : Nat → Nat} {v0 : Nat} {v1 : Nat} {v2 : Int32} (hv0 : bf_kd v0 = 10) (hv1 : bf_kd v1 = 0) {r : bf_St} {K : (Nat → Nat → Int32) → (Nat → Nat → Int64) → Option (bf_St)} (hK : ∀ (I : Nat → Nat → Int32) (L : Nat → Nat → Int64), K  I L = some r → bf_Go Γ (bf_rm 2 0 0) mu_X3_putOn bf_E0 (bf_Z Γ (fun q h => q = none ∧ h = bf_S ad r.1 r.2) 0 0) (0, 0) 26 [] [] (bf_S ad I L)) : ∀ (n : Nat) (v3 : Int32) (I : Nat → Nat → Int32) (L : Nat → Nat → Int64), f_X3_putOn_2 v0 v1 v2 K n v3 I L = some r → bf_Go Γ (bf_rm 2 0 0) mu_X3_putOn bf_E0 (bf_Z Γ (fun q h => q = none ∧ h = bf_S ad r.1 r.2) 0 0) (0, 0) 2 [(0, .ref (ad v0)), (1, .ref (ad v1)), (2, .int v2), (3, .int v3)] [] (bf_S ad I L) := by
  intro n
  induction n with
  | zero => intro v3 I L hf; exact absurd (show none = some r from hf) (by simp)
  | succ n ih =>
    intro v3 I L hf
    rw [f_X3_putOn_2] at hf
    refine bf_iload_n 3 dX3_putOn_2 rfl rfl ?_
    refine bf_aload_n 0 dX3_putOn_3 rfl rfl ?_
    refine fg_X3_85 dX3_putOn_4 rfl hv0 ?_
    refine bf_icmp_ge 26 dX3_putOn_7 (by decide) (fun c1 => ?_) (fun c1 => ?_)
    · have hf := (if_pos c1).symm.trans hf
      refine bf_perm [] rfl ?_
      exact hK _ _ hf
    · have hf := (if_neg c1).symm.trans hf
      refine bf_aload_n 0 dX3_putOn_10 rfl rfl ?_
      refine bf_aload_n 1 dX3_putOn_11 rfl rfl ?_
      refine bf_iload_n 2 dX3_putOn_12 rfl rfl ?_
      refine bf_iload_n 3 dX3_putOn_13 rfl rfl ?_
      obtain ⟨r3, e2, hf⟩ := bf_bind hf
      have hCe2 := ok_X0_tokenOf (Γ := Γ) (ad := ad) hv1 e2
      refine cv_X3_88 0 dX3_putOn_14 rfl ⟨Nat.le_of_ble_eq_true rfl, Nat.le_of_ble_eq_true rfl⟩ (Nat.le_of_ble_eq_true rfl) hv1 hCe2 ?_
      obtain ⟨r5, e4, hf⟩ := bf_bind hf
      have hCe4 := ok_X10_append (Γ := Γ) (ad := ad) hv0 e4
      refine cv_X3_91 1 dX3_putOn_17 rfl ⟨Nat.le_of_ble_eq_true rfl, Nat.le_of_ble_eq_true rfl⟩ (Nat.le_of_ble_eq_true rfl) hv0 hCe4 ?_
      refine bf_iinc 3 (v := _ + (1 : Int32)) (lv2 := [(3, .int _), (0, .ref _), (1, .ref _), (2, .int _)]) dX3_putOn_20 rfl (by rfl) (by decide) rfl ?_
      refine bf_goto 2 dX3_putOn_23 (by decide) ?_
      refine bf_perm [1, 2, 3, 0] rfl ?_
      exact ih _ _ _ hf
def f_X3_putOn (a0 : Nat) (a1 : Nat) (a2 : Int32) (I : Nat → Nat → Int32) (L : Nat → Nat → Int64) : Option (bf_St) :=
  (f_X3_putOn_2 a0 a1 a2 (fun I6 L6 => (some (I6, L6))) 400 (0 : Int32) I L)
set_option maxRecDepth 100000 in
set_option maxHeartbeats 4000000 in
theorem ok_X3_putOn {Γ : bf_Gm} {ad : Nat → Nat} {a0 : Nat} {a1 : Nat} {a2 : Int32} {I : Nat → Nat → Int32} {L : Nat → Nat → Int64} (hk0 : bf_kd a0 = 10) (hk1 : bf_kd a1 = 0) {r : bf_St} (hf : f_X3_putOn a0 a1 a2 I L = some r) : bf_Cn Γ 2 mu_X3_putOn 0 0 [.ref (ad a0), .ref (ad a1), .int a2] (bf_S ad I L) (fun q h => q = none ∧ h = bf_S ad r.1 r.2) := by
  refine bf_met rfl (Nat.le_of_ble_eq_true rfl) ?_
  unfold f_X3_putOn at hf
  refine bf_iconst (v := 0) dX3_putOn_0 (by decide) ?_
  refine bf_istore_n (lv2 := [(3, .int _), (0, .ref _), (1, .ref _), (2, .int _)]) dX3_putOn_1 rfl (by decide) rfl ?_
  refine bf_perm [1, 2, 3, 0] rfl ?_
  refine ok_X3_putOn_2 hk0 hk1 (fun I6 L6 hf => ?_) _ _ _ _  hf
  obtain rfl := Option.some.inj hf
  exact bf_vret dX3_putOn_26 rfl (Nat.le_refl _) (Nat.le_refl _) ⟨rfl, rfl⟩
def f_X3_fireBox_27 (v0 : Nat) (v1 : Int32) (v2 : Nat) (v3 : Int32) (K : (Nat → Nat → Int32) → (Nat → Nat → Int64) → Option (Int32 × bf_St)) : Nat → Int32 → (Nat → Nat → Int32) → (Nat → Nat → Int64) → Option (Int32 × bf_St)
  | 0, _, _, _ => none
  | n + 1, v4, I, L =>
    (if (8 : Int32) ≤ v4 then (K I L) else (if bf_ok v4 8 then ((f_X10_comesFrom ((v0 + 8) + 1 + 2 * v4.toNatClampNeg) v1 I L).bind (fun r10 => (if r10.1 = 0 then (f_X3_fireBox_27 v0 v1 v2 v3 K n (v4 + (1 : Int32)) r10.2.1 r10.2.2) else (if bf_ok v4 8 then ((f_X3_putOn ((v0 + 8) + 1 + 2 * v4.toNatClampNeg) v2 v3 r10.2.1 r10.2.2).bind (fun r14 => (f_X3_fireBox_27 v0 v1 v2 v3 K n (v4 + (1 : Int32)) r14.1 r14.2))) else none)))) else none))
set_option maxRecDepth 100000 in
set_option maxHeartbeats 4000000 in
theorem ok_X3_fireBox_27 {Γ : bf_Gm} {ad : Nat → Nat} {v0 : Nat} {v1 : Int32} {v2 : Nat} {v3 : Int32} (hv0 : bf_kd v0 = 3) (hv2 : bf_kd v2 = 0) {r : Int32 × bf_St} {K : (Nat → Nat → Int32) → (Nat → Nat → Int64) → Option (Int32 × bf_St)} (hK : ∀ (I : Nat → Nat → Int32) (L : Nat → Nat → Int64), K  I L = some r → bf_Go Γ (bf_rm 3 0 0) mu_X3_fireBox bf_E0 (bf_Z Γ (fun q h => q = some (.int r.1) ∧ h = bf_S ad r.2.1 r.2.2) 0 0) (0, 0) 66 [(2, .ref (ad v2)), (3, .int v3)] [] (bf_S ad I L)) : ∀ (n : Nat) (v4 : Int32) (I : Nat → Nat → Int32) (L : Nat → Nat → Int64), f_X3_fireBox_27 v0 v1 v2 v3 K n v4 I L = some r → bf_Go Γ (bf_rm 3 0 0) mu_X3_fireBox bf_E0 (bf_Z Γ (fun q h => q = some (.int r.1) ∧ h = bf_S ad r.2.1 r.2.2) 0 0) (0, 0) 27 [(0, .ref (ad v0)), (1, .int v1), (2, .ref (ad v2)), (3, .int v3), (4, .int v4)] [] (bf_S ad I L) := by
  intro n
  induction n with
  | zero => intro v4 I L hf; exact absurd (show none = some r from hf) (by simp)
  | succ n ih =>
    intro v4 I L hf
    rw [f_X3_fireBox_27] at hf
    refine bf_iload 4 dX3_fireBox_27 rfl ?_
    refine bf_bipush (v := 8) dX3_fireBox_29 (by decide) ?_
    refine bf_icmp_ge 66 dX3_fireBox_31 (by decide) (fun c7 => ?_) (fun c7 => ?_)
    · have hf := (if_pos c7).symm.trans hf
      refine bf_perm [2, 3] rfl ?_
      exact hK _ _ hf
    · have hf := (if_neg c7).symm.trans hf
      refine bf_aload_n 0 dX3_fireBox_34 rfl rfl ?_
      refine fg_X3_20 dX3_fireBox_35 rfl hv0 ?_
      refine bf_iload 4 dX3_fireBox_38 rfl ?_
      rcases Decidable.em (bf_ok v4 8) with c8 | c8
      · have hf := (if_pos c8).symm.trans hf
        refine al_19 dX3_fireBox_40 (kr_3_1 hv0) (by rw [(la_19 (kr_3_1 hv0))]; exact c8) ?_
        refine bf_iload_n 1 dX3_fireBox_41 rfl rfl ?_
        obtain ⟨r10, e9, hf⟩ := bf_bind hf
        have hCe9 := ok_X10_comesFrom (Γ := Γ) (ad := ad) (ka_19 (kr_3_1 hv0) ((by rw [(la_19 (kr_3_1 hv0))]; exact c8) : bf_ok _ _).2) e9
        refine cv_X3_58 0 dX3_fireBox_42 rfl ⟨Nat.le_of_ble_eq_true rfl, Nat.le_of_ble_eq_true rfl⟩ (Nat.le_of_ble_eq_true rfl) (ka_19 (kr_3_1 hv0) ((by rw [(la_19 (kr_3_1 hv0))]; exact c8) : bf_ok _ _).2) hCe9 ?_
        refine bf_if_eq 60 dX3_fireBox_45 (by decide) (fun c11 => ?_) (fun c11 => ?_)
        · have hf := (if_pos c11).symm.trans hf
          refine bf_iinc 4 (v := _ + (1 : Int32)) (lv2 := [(4, .int _), (0, .ref _), (1, .int _), (2, .ref _), (3, .int _)]) dX3_fireBox_60 rfl (by rfl) (by decide) rfl ?_
          refine bf_goto 27 dX3_fireBox_63 (by decide) ?_
          refine bf_perm [1, 2, 3, 4, 0] rfl ?_
          exact ih _ _ _ hf
        · have hf := (if_neg c11).symm.trans hf
          refine bf_aload_n 0 dX3_fireBox_48 rfl rfl ?_
          refine fg_X3_20 dX3_fireBox_49 rfl hv0 ?_
          refine bf_iload 4 dX3_fireBox_52 rfl ?_
          rcases Decidable.em (bf_ok v4 8) with c12 | c12
          · have hf := (if_pos c12).symm.trans hf
            refine al_19 dX3_fireBox_54 (kr_3_1 hv0) (by rw [(la_19 (kr_3_1 hv0))]; exact c12) ?_
            refine bf_aload_n 2 dX3_fireBox_55 rfl rfl ?_
            refine bf_iload_n 3 dX3_fireBox_56 rfl rfl ?_
            obtain ⟨r14, e13, hf⟩ := bf_bind hf
            have hCe13 := ok_X3_putOn (Γ := Γ) (ad := ad) (ka_19 (kr_3_1 hv0) ((by rw [(la_19 (kr_3_1 hv0))]; exact c12) : bf_ok _ _).2) hv2 e13
            refine cv_X3_61 2 dX3_fireBox_57 rfl ⟨Nat.le_of_ble_eq_true rfl, Nat.le_of_ble_eq_true rfl⟩ (Nat.le_of_ble_eq_true rfl) hCe13 ?_
            refine bf_iinc 4 (v := _ + (1 : Int32)) (lv2 := [(4, .int _), (0, .ref _), (1, .int _), (2, .ref _), (3, .int _)]) dX3_fireBox_60 rfl (by rfl) (by decide) rfl ?_
            refine bf_goto 27 dX3_fireBox_63 (by decide) ?_
            refine bf_perm [1, 2, 3, 4, 0] rfl ?_
            exact ih _ _ _ hf
          · exact absurd ((if_neg c12).symm.trans hf) (by simp)
      · exact absurd ((if_neg c8).symm.trans hf) (by simp)
def f_X3_fireBox (o : Nat) (a0 : Int32) (I : Nat → Nat → Int32) (L : Nat → Nat → Int64) : Option (Int32 × bf_St) :=
  ((f_X3_hasBox o a0 I L).bind (fun r2 => (if r2.1 = 0 then (some ((0 : Int32), r2.2.1, r2.2.2)) else (if bf_ok a0 6 then ((f_X3_takeAll o a0 ((o + 1) + 1 + a0.toNatClampNeg) r2.2.1 r2.2.2).bind (fun r6 => (f_X3_fireBox_27 o a0 ((o + 1) + 1 + a0.toNatClampNeg) r6.1 (fun I15 L15 => ((f_X0_noteFiring ((o + 1) + 1 + a0.toNatClampNeg) I15 L15).bind (fun r17 => (some (r6.1, r17.1, r17.2))))) 400 (0 : Int32) r6.2.1 r6.2.2))) else none))))
set_option maxRecDepth 100000 in
set_option maxHeartbeats 4000000 in
theorem ok_X3_fireBox {Γ : bf_Gm} {ad : Nat → Nat} {o : Nat} {a0 : Int32} {I : Nat → Nat → Int32} {L : Nat → Nat → Int64} (hk : bf_kd o = 3) {r : Int32 × bf_St} (hf : f_X3_fireBox o a0 I L = some r) : bf_Cn Γ 3 mu_X3_fireBox 0 0 [.ref (ad o), .int a0] (bf_S ad I L) (fun q h => q = some (.int r.1) ∧ h = bf_S ad r.2.1 r.2.2) := by
  refine bf_met rfl (Nat.le_of_ble_eq_true rfl) ?_
  unfold f_X3_fireBox at hf
  refine bf_aload_n 0 dX3_fireBox_0 rfl rfl ?_
  refine bf_iload_n 1 dX3_fireBox_1 rfl rfl ?_
  obtain ⟨r2, e1, hf⟩ := bf_bind hf
  have hCe1 := ok_X3_hasBox (Γ := Γ) (ad := ad) hk e1
  refine cv_X3_47 0 dX3_fireBox_2 rfl ⟨Nat.le_of_ble_eq_true rfl, Nat.le_of_ble_eq_true rfl⟩ (Nat.le_of_ble_eq_true rfl) hk hCe1 ?_
  refine bf_if_ne 10 dX3_fireBox_5 (by decide) (fun c3 => ?_) (fun c3 => ?_)
  · have hf := (if_neg c3).symm.trans hf
    refine bf_aload_n 0 dX3_fireBox_10 rfl rfl ?_
    refine fg_X3_11 dX3_fireBox_11 rfl hk ?_
    refine bf_iload_n 1 dX3_fireBox_14 rfl rfl ?_
    rcases Decidable.em (bf_ok a0 6) with c4 | c4
    · have hf := (if_pos c4).symm.trans hf
      refine al_16 dX3_fireBox_15 (kr_3_0 hk) (by rw [(la_16 (kr_3_0 hk))]; exact c4) ?_
      refine bf_astore_n (lv2 := [(2, .ref _), (0, .ref _), (1, .int _)]) dX3_fireBox_16 rfl (by decide) rfl ?_
      refine bf_aload_n 1 dX3_fireBox_17 rfl rfl ?_
      refine bf_iload_n 2 dX3_fireBox_18 rfl rfl ?_
      refine bf_aload_n 0 dX3_fireBox_19 rfl rfl ?_
      obtain ⟨r6, e5, hf⟩ := bf_bind hf
      have hCe5 := ok_X3_takeAll (Γ := Γ) (ad := ad) hk (ka_16 (kr_3_0 hk) ((by rw [(la_16 (kr_3_0 hk))]; exact c4) : bf_ok _ _).2) e5
      refine cv_X3_54 2 dX3_fireBox_20 rfl ⟨Nat.le_of_ble_eq_true rfl, Nat.le_of_ble_eq_true rfl⟩ (Nat.le_of_ble_eq_true rfl) hk hCe5 ?_
      refine bf_istore_n (lv2 := [(3, .int _), (2, .ref _), (0, .ref _), (1, .int _)]) dX3_fireBox_23 rfl (by decide) rfl ?_
      refine bf_iconst (v := 0) dX3_fireBox_24 (by decide) ?_
      refine bf_istore (lv2 := [(4, .int _), (3, .int _), (2, .ref _), (0, .ref _), (1, .int _)]) dX3_fireBox_25 (by decide) rfl ?_
      refine bf_perm [3, 4, 2, 1, 0] rfl ?_
      refine ok_X3_fireBox_27 hk (ka_16 (kr_3_0 hk) ((by rw [(la_16 (kr_3_0 hk))]; exact c4) : bf_ok _ _).2) (fun I15 L15 hf => ?_) _ _ _ _  hf
      refine bf_aload_n 0 dX3_fireBox_66 rfl rfl ?_
      obtain ⟨r17, e16, hf⟩ := bf_bind hf
      have hCe16 := ok_X0_noteFiring (Γ := Γ) (ad := ad) (ka_16 (kr_3_0 hk) ((by rw [(la_16 (kr_3_0 hk))]; exact c4) : bf_ok _ _).2) e16
      refine cv_X3_65 1 dX3_fireBox_67 rfl ⟨Nat.le_of_ble_eq_true rfl, Nat.le_of_ble_eq_true rfl⟩ (Nat.le_of_ble_eq_true rfl) (ka_16 (kr_3_0 hk) ((by rw [(la_16 (kr_3_0 hk))]; exact c4) : bf_ok _ _).2) hCe16 ?_
      refine bf_iload_n 1 dX3_fireBox_70 rfl rfl ?_
      obtain rfl := Option.some.inj hf
      exact bf_iret dX3_fireBox_71 rfl (Nat.le_refl _) (Nat.le_refl _) ⟨rfl, rfl⟩
    · exact absurd ((if_neg c4).symm.trans hf) (by simp)
  · have hf := (if_pos c3).symm.trans hf
    refine bf_iconst (v := 0) dX3_fireBox_8 (by decide) ?_
    obtain rfl := Option.some.inj hf
    exact bf_iret dX3_fireBox_9 rfl (Nat.le_refl _) (Nat.le_refl _) ⟨rfl, rfl⟩
def f_X3_wiresTo_4 (v0 : Nat) (v1 : Int32) (K : Int32 → (Nat → Nat → Int32) → (Nat → Nat → Int64) → Option (Int32 × bf_St)) : Nat → Int32 → Int32 → (Nat → Nat → Int32) → (Nat → Nat → Int64) → Option (Int32 × bf_St)
  | 0, _, _, _, _ => none
  | n + 1, v2, v3, I, L =>
    (if (8 : Int32) ≤ v3 then (K v2 I L) else (if bf_ok v3 8 then ((f_X10_goesTo ((v0 + 8) + 1 + 2 * v3.toNatClampNeg) v1 I L).bind (fun r4 => (if r4.1 = 0 then (f_X3_wiresTo_4 v0 v1 K n (v2 ||| (0 : Int32)) (v3 + (1 : Int32)) r4.2.1 r4.2.2) else (f_X3_wiresTo_4 v0 v1 K n (v2 ||| ((1 : Int32) <<< (v3 &&& 31))) (v3 + (1 : Int32)) r4.2.1 r4.2.2)))) else none))
set_option maxRecDepth 100000 in
set_option maxHeartbeats 4000000 in
theorem ok_X3_wiresTo_4 {Γ : bf_Gm} {ad : Nat → Nat} {v0 : Nat} {v1 : Int32} (hv0 : bf_kd v0 = 3) {r : Int32 × bf_St} {K : Int32 → (Nat → Nat → Int32) → (Nat → Nat → Int64) → Option (Int32 × bf_St)} (hK : ∀ (v2 : Int32) (I : Nat → Nat → Int32) (L : Nat → Nat → Int64), K v2 I L = some r → bf_Go Γ (bf_rm 1 0 0) mu_X3_wiresTo bf_E0 (bf_Z Γ (fun q h => q = some (.int r.1) ∧ h = bf_S ad r.2.1 r.2.2) 0 0) (0, 0) 39 [(2, .int v2)] [] (bf_S ad I L)) : ∀ (n : Nat) (v2 : Int32) (v3 : Int32) (I : Nat → Nat → Int32) (L : Nat → Nat → Int64), f_X3_wiresTo_4 v0 v1 K n v2 v3 I L = some r → bf_Go Γ (bf_rm 1 0 0) mu_X3_wiresTo bf_E0 (bf_Z Γ (fun q h => q = some (.int r.1) ∧ h = bf_S ad r.2.1 r.2.2) 0 0) (0, 0) 4 [(0, .ref (ad v0)), (1, .int v1), (2, .int v2), (3, .int v3)] [] (bf_S ad I L) := by
  intro n
  induction n with
  | zero => intro v2 v3 I L hf; exact absurd (show none = some r from hf) (by simp)
  | succ n ih =>
    intro v2 v3 I L hf
    rw [f_X3_wiresTo_4] at hf
    refine bf_iload_n 3 dX3_wiresTo_4 rfl rfl ?_
    refine bf_bipush (v := 8) dX3_wiresTo_5 (by decide) ?_
    refine bf_icmp_ge 39 dX3_wiresTo_7 (by decide) (fun c1 => ?_) (fun c1 => ?_)
    · have hf := (if_pos c1).symm.trans hf
      refine bf_perm [2] rfl ?_
      exact hK _ _ _ hf
    · have hf := (if_neg c1).symm.trans hf
      refine bf_iload_n 2 dX3_wiresTo_10 rfl rfl ?_
      refine bf_aload_n 0 dX3_wiresTo_11 rfl rfl ?_
      refine fg_X3_20 dX3_wiresTo_12 rfl hv0 ?_
      refine bf_iload_n 3 dX3_wiresTo_15 rfl rfl ?_
      rcases Decidable.em (bf_ok v3 8) with c2 | c2
      · have hf := (if_pos c2).symm.trans hf
        refine al_19 dX3_wiresTo_16 (kr_3_1 hv0) (by rw [(la_19 (kr_3_1 hv0))]; exact c2) ?_
        refine bf_iload_n 1 dX3_wiresTo_17 rfl rfl ?_
        obtain ⟨r4, e3, hf⟩ := bf_bind hf
        have hCe3 := ok_X10_goesTo (Γ := Γ) (ad := ad) (ka_19 (kr_3_1 hv0) ((by rw [(la_19 (kr_3_1 hv0))]; exact c2) : bf_ok _ _).2) e3
        refine cv_X3_72 0 dX3_wiresTo_18 rfl ⟨Nat.le_of_ble_eq_true rfl, Nat.le_of_ble_eq_true rfl⟩ (Nat.le_of_ble_eq_true rfl) (ka_19 (kr_3_1 hv0) ((by rw [(la_19 (kr_3_1 hv0))]; exact c2) : bf_ok _ _).2) hCe3 ?_
        refine bf_if_eq 30 dX3_wiresTo_21 (by decide) (fun c5 => ?_) (fun c5 => ?_)
        · have hf := (if_pos c5).symm.trans hf
          refine bf_iconst (v := 0) dX3_wiresTo_30 (by decide) ?_
          refine bf_ior dX3_wiresTo_31 ?_
          refine bf_istore_n (lv2 := [(2, .int _), (0, .ref _), (1, .int _), (3, .int _)]) dX3_wiresTo_32 rfl (by decide) rfl ?_
          refine bf_iinc 3 (v := _ + (1 : Int32)) (lv2 := [(3, .int _), (2, .int _), (0, .ref _), (1, .int _)]) dX3_wiresTo_33 rfl (by rfl) (by decide) rfl ?_
          refine bf_goto 4 dX3_wiresTo_36 (by decide) ?_
          refine bf_perm [2, 3, 1, 0] rfl ?_
          exact ih _ _ _ _ hf
        · have hf := (if_neg c5).symm.trans hf
          refine bf_iconst (v := 1) dX3_wiresTo_24 (by decide) ?_
          refine bf_iload_n 3 dX3_wiresTo_25 rfl rfl ?_
          refine bf_ishl dX3_wiresTo_26 ?_
          refine bf_goto 31 dX3_wiresTo_27 (by decide) ?_
          refine bf_ior dX3_wiresTo_31 ?_
          refine bf_istore_n (lv2 := [(2, .int _), (0, .ref _), (1, .int _), (3, .int _)]) dX3_wiresTo_32 rfl (by decide) rfl ?_
          refine bf_iinc 3 (v := _ + (1 : Int32)) (lv2 := [(3, .int _), (2, .int _), (0, .ref _), (1, .int _)]) dX3_wiresTo_33 rfl (by rfl) (by decide) rfl ?_
          refine bf_goto 4 dX3_wiresTo_36 (by decide) ?_
          refine bf_perm [2, 3, 1, 0] rfl ?_
          exact ih _ _ _ _ hf
      · exact absurd ((if_neg c2).symm.trans hf) (by simp)
def f_X3_wiresTo (o : Nat) (a0 : Int32) (I : Nat → Nat → Int32) (L : Nat → Nat → Int64) : Option (Int32 × bf_St) :=
  (f_X3_wiresTo_4 o a0 (fun k2_6 I6 L6 => (some (k2_6, I6, L6))) 400 (0 : Int32) (0 : Int32) I L)
set_option maxRecDepth 100000 in
set_option maxHeartbeats 4000000 in
theorem ok_X3_wiresTo {Γ : bf_Gm} {ad : Nat → Nat} {o : Nat} {a0 : Int32} {I : Nat → Nat → Int32} {L : Nat → Nat → Int64} (hk : bf_kd o = 3) {r : Int32 × bf_St} (hf : f_X3_wiresTo o a0 I L = some r) : bf_Cn Γ 1 mu_X3_wiresTo 0 0 [.ref (ad o), .int a0] (bf_S ad I L) (fun q h => q = some (.int r.1) ∧ h = bf_S ad r.2.1 r.2.2) := by
  refine bf_met rfl (Nat.le_of_ble_eq_true rfl) ?_
  unfold f_X3_wiresTo at hf
  refine bf_iconst (v := 0) dX3_wiresTo_0 (by decide) ?_
  refine bf_istore_n (lv2 := [(2, .int _), (0, .ref _), (1, .int _)]) dX3_wiresTo_1 rfl (by decide) rfl ?_
  refine bf_iconst (v := 0) dX3_wiresTo_2 (by decide) ?_
  refine bf_istore_n (lv2 := [(3, .int _), (2, .int _), (0, .ref _), (1, .int _)]) dX3_wiresTo_3 rfl (by decide) rfl ?_
  refine bf_perm [2, 3, 1, 0] rfl ?_
  refine ok_X3_wiresTo_4 hk (fun k2_6 I6 L6 hf => ?_) _ _ _ _ _  hf
  refine bf_iload_n 0 dX3_wiresTo_39 rfl rfl ?_
  obtain rfl := Option.some.inj hf
  exact bf_iret dX3_wiresTo_40 rfl (Nat.le_refl _) (Nat.le_refl _) ⟨rfl, rfl⟩
def f_X3_wiresFrom_4 (v0 : Nat) (v1 : Int32) (K : Int32 → (Nat → Nat → Int32) → (Nat → Nat → Int64) → Option (Int32 × bf_St)) : Nat → Int32 → Int32 → (Nat → Nat → Int32) → (Nat → Nat → Int64) → Option (Int32 × bf_St)
  | 0, _, _, _, _ => none
  | n + 1, v2, v3, I, L =>
    (if (8 : Int32) ≤ v3 then (K v2 I L) else (if bf_ok v3 8 then ((f_X10_comesFrom ((v0 + 8) + 1 + 2 * v3.toNatClampNeg) v1 I L).bind (fun r4 => (if r4.1 = 0 then (f_X3_wiresFrom_4 v0 v1 K n (v2 ||| (0 : Int32)) (v3 + (1 : Int32)) r4.2.1 r4.2.2) else (f_X3_wiresFrom_4 v0 v1 K n (v2 ||| ((1 : Int32) <<< (v3 &&& 31))) (v3 + (1 : Int32)) r4.2.1 r4.2.2)))) else none))
set_option maxRecDepth 100000 in
set_option maxHeartbeats 4000000 in
theorem ok_X3_wiresFrom_4 {Γ : bf_Gm} {ad : Nat → Nat} {v0 : Nat} {v1 : Int32} (hv0 : bf_kd v0 = 3) {r : Int32 × bf_St} {K : Int32 → (Nat → Nat → Int32) → (Nat → Nat → Int64) → Option (Int32 × bf_St)} (hK : ∀ (v2 : Int32) (I : Nat → Nat → Int32) (L : Nat → Nat → Int64), K v2 I L = some r → bf_Go Γ (bf_rm 1 0 0) mu_X3_wiresFrom bf_E0 (bf_Z Γ (fun q h => q = some (.int r.1) ∧ h = bf_S ad r.2.1 r.2.2) 0 0) (0, 0) 39 [(2, .int v2)] [] (bf_S ad I L)) : ∀ (n : Nat) (v2 : Int32) (v3 : Int32) (I : Nat → Nat → Int32) (L : Nat → Nat → Int64), f_X3_wiresFrom_4 v0 v1 K n v2 v3 I L = some r → bf_Go Γ (bf_rm 1 0 0) mu_X3_wiresFrom bf_E0 (bf_Z Γ (fun q h => q = some (.int r.1) ∧ h = bf_S ad r.2.1 r.2.2) 0 0) (0, 0) 4 [(0, .ref (ad v0)), (1, .int v1), (2, .int v2), (3, .int v3)] [] (bf_S ad I L) := by
  intro n
  induction n with
  | zero => intro v2 v3 I L hf; exact absurd (show none = some r from hf) (by simp)
  | succ n ih =>
    intro v2 v3 I L hf
    rw [f_X3_wiresFrom_4] at hf
    refine bf_iload_n 3 dX3_wiresFrom_4 rfl rfl ?_
    refine bf_bipush (v := 8) dX3_wiresFrom_5 (by decide) ?_
    refine bf_icmp_ge 39 dX3_wiresFrom_7 (by decide) (fun c1 => ?_) (fun c1 => ?_)
    · have hf := (if_pos c1).symm.trans hf
      refine bf_perm [2] rfl ?_
      exact hK _ _ _ hf
    · have hf := (if_neg c1).symm.trans hf
      refine bf_iload_n 2 dX3_wiresFrom_10 rfl rfl ?_
      refine bf_aload_n 0 dX3_wiresFrom_11 rfl rfl ?_
      refine fg_X3_20 dX3_wiresFrom_12 rfl hv0 ?_
      refine bf_iload_n 3 dX3_wiresFrom_15 rfl rfl ?_
      rcases Decidable.em (bf_ok v3 8) with c2 | c2
      · have hf := (if_pos c2).symm.trans hf
        refine al_19 dX3_wiresFrom_16 (kr_3_1 hv0) (by rw [(la_19 (kr_3_1 hv0))]; exact c2) ?_
        refine bf_iload_n 1 dX3_wiresFrom_17 rfl rfl ?_
        obtain ⟨r4, e3, hf⟩ := bf_bind hf
        have hCe3 := ok_X10_comesFrom (Γ := Γ) (ad := ad) (ka_19 (kr_3_1 hv0) ((by rw [(la_19 (kr_3_1 hv0))]; exact c2) : bf_ok _ _).2) e3
        refine cv_X3_58 0 dX3_wiresFrom_18 rfl ⟨Nat.le_of_ble_eq_true rfl, Nat.le_of_ble_eq_true rfl⟩ (Nat.le_of_ble_eq_true rfl) (ka_19 (kr_3_1 hv0) ((by rw [(la_19 (kr_3_1 hv0))]; exact c2) : bf_ok _ _).2) hCe3 ?_
        refine bf_if_eq 30 dX3_wiresFrom_21 (by decide) (fun c5 => ?_) (fun c5 => ?_)
        · have hf := (if_pos c5).symm.trans hf
          refine bf_iconst (v := 0) dX3_wiresFrom_30 (by decide) ?_
          refine bf_ior dX3_wiresFrom_31 ?_
          refine bf_istore_n (lv2 := [(2, .int _), (0, .ref _), (1, .int _), (3, .int _)]) dX3_wiresFrom_32 rfl (by decide) rfl ?_
          refine bf_iinc 3 (v := _ + (1 : Int32)) (lv2 := [(3, .int _), (2, .int _), (0, .ref _), (1, .int _)]) dX3_wiresFrom_33 rfl (by rfl) (by decide) rfl ?_
          refine bf_goto 4 dX3_wiresFrom_36 (by decide) ?_
          refine bf_perm [2, 3, 1, 0] rfl ?_
          exact ih _ _ _ _ hf
        · have hf := (if_neg c5).symm.trans hf
          refine bf_iconst (v := 1) dX3_wiresFrom_24 (by decide) ?_
          refine bf_iload_n 3 dX3_wiresFrom_25 rfl rfl ?_
          refine bf_ishl dX3_wiresFrom_26 ?_
          refine bf_goto 31 dX3_wiresFrom_27 (by decide) ?_
          refine bf_ior dX3_wiresFrom_31 ?_
          refine bf_istore_n (lv2 := [(2, .int _), (0, .ref _), (1, .int _), (3, .int _)]) dX3_wiresFrom_32 rfl (by decide) rfl ?_
          refine bf_iinc 3 (v := _ + (1 : Int32)) (lv2 := [(3, .int _), (2, .int _), (0, .ref _), (1, .int _)]) dX3_wiresFrom_33 rfl (by rfl) (by decide) rfl ?_
          refine bf_goto 4 dX3_wiresFrom_36 (by decide) ?_
          refine bf_perm [2, 3, 1, 0] rfl ?_
          exact ih _ _ _ _ hf
      · exact absurd ((if_neg c2).symm.trans hf) (by simp)
def f_X3_wiresFrom (o : Nat) (a0 : Int32) (I : Nat → Nat → Int32) (L : Nat → Nat → Int64) : Option (Int32 × bf_St) :=
  (f_X3_wiresFrom_4 o a0 (fun k2_6 I6 L6 => (some (k2_6, I6, L6))) 400 (0 : Int32) (0 : Int32) I L)
set_option maxRecDepth 100000 in
set_option maxHeartbeats 4000000 in
theorem ok_X3_wiresFrom {Γ : bf_Gm} {ad : Nat → Nat} {o : Nat} {a0 : Int32} {I : Nat → Nat → Int32} {L : Nat → Nat → Int64} (hk : bf_kd o = 3) {r : Int32 × bf_St} (hf : f_X3_wiresFrom o a0 I L = some r) : bf_Cn Γ 1 mu_X3_wiresFrom 0 0 [.ref (ad o), .int a0] (bf_S ad I L) (fun q h => q = some (.int r.1) ∧ h = bf_S ad r.2.1 r.2.2) := by
  refine bf_met rfl (Nat.le_of_ble_eq_true rfl) ?_
  unfold f_X3_wiresFrom at hf
  refine bf_iconst (v := 0) dX3_wiresFrom_0 (by decide) ?_
  refine bf_istore_n (lv2 := [(2, .int _), (0, .ref _), (1, .int _)]) dX3_wiresFrom_1 rfl (by decide) rfl ?_
  refine bf_iconst (v := 0) dX3_wiresFrom_2 (by decide) ?_
  refine bf_istore_n (lv2 := [(3, .int _), (2, .int _), (0, .ref _), (1, .int _)]) dX3_wiresFrom_3 rfl (by decide) rfl ?_
  refine bf_perm [2, 3, 1, 0] rfl ?_
  refine ok_X3_wiresFrom_4 hk (fun k2_6 I6 L6 hf => ?_) _ _ _ _ _  hf
  refine bf_iload_n 0 dX3_wiresFrom_39 rfl rfl ?_
  obtain rfl := Option.some.inj hf
  exact bf_iret dX3_wiresFrom_40 rfl (Nat.le_refl _) (Nat.le_refl _) ⟨rfl, rfl⟩
def f_X3_wiresThere_4 (v0 : Nat) (K : Int32 → (Nat → Nat → Int32) → (Nat → Nat → Int64) → Option (Int32 × bf_St)) : Nat → Int32 → Int32 → (Nat → Nat → Int32) → (Nat → Nat → Int64) → Option (Int32 × bf_St)
  | 0, _, _, _, _ => none
  | n + 1, v1, v2, I, L =>
    (if (8 : Int32) ≤ v2 then (K v1 I L) else (if bf_ok v2 8 then (if (I ((v0 + 8) + 1 + 2 * v2.toNatClampNeg) 4) = 0 then (f_X3_wiresThere_4 v0 K n (v1 + (0 : Int32)) (v2 + (1 : Int32)) I L) else (f_X3_wiresThere_4 v0 K n (v1 + (1 : Int32)) (v2 + (1 : Int32)) I L)) else none))
set_option maxRecDepth 100000 in
set_option maxHeartbeats 4000000 in
theorem ok_X3_wiresThere_4 {Γ : bf_Gm} {ad : Nat → Nat} {v0 : Nat} (hv0 : bf_kd v0 = 3) {r : Int32 × bf_St} {K : Int32 → (Nat → Nat → Int32) → (Nat → Nat → Int64) → Option (Int32 × bf_St)} (hK : ∀ (v1 : Int32) (I : Nat → Nat → Int32) (L : Nat → Nat → Int64), K v1 I L = some r → bf_Go Γ (bf_rm 0 0 0) mu_X3_wiresThere bf_E0 (bf_Z Γ (fun q h => q = some (.int r.1) ∧ h = bf_S ad r.2.1 r.2.2) 0 0) (0, 0) 36 [(1, .int v1)] [] (bf_S ad I L)) : ∀ (n : Nat) (v1 : Int32) (v2 : Int32) (I : Nat → Nat → Int32) (L : Nat → Nat → Int64), f_X3_wiresThere_4 v0 K n v1 v2 I L = some r → bf_Go Γ (bf_rm 0 0 0) mu_X3_wiresThere bf_E0 (bf_Z Γ (fun q h => q = some (.int r.1) ∧ h = bf_S ad r.2.1 r.2.2) 0 0) (0, 0) 4 [(0, .ref (ad v0)), (1, .int v1), (2, .int v2)] [] (bf_S ad I L) := by
  intro n
  induction n with
  | zero => intro v1 v2 I L hf; exact absurd (show none = some r from hf) (by simp)
  | succ n ih =>
    intro v1 v2 I L hf
    rw [f_X3_wiresThere_4] at hf
    refine bf_iload_n 2 dX3_wiresThere_4 rfl rfl ?_
    refine bf_bipush (v := 8) dX3_wiresThere_5 (by decide) ?_
    refine bf_icmp_ge 36 dX3_wiresThere_7 (by decide) (fun c1 => ?_) (fun c1 => ?_)
    · have hf := (if_pos c1).symm.trans hf
      refine bf_perm [1] rfl ?_
      exact hK _ _ _ hf
    · have hf := (if_neg c1).symm.trans hf
      refine bf_iload_n 1 dX3_wiresThere_10 rfl rfl ?_
      refine bf_aload_n 0 dX3_wiresThere_11 rfl rfl ?_
      refine fg_X3_20 dX3_wiresThere_12 rfl hv0 ?_
      refine bf_iload_n 2 dX3_wiresThere_15 rfl rfl ?_
      rcases Decidable.em (bf_ok v2 8) with c2 | c2
      · have hf := (if_pos c2).symm.trans hf
        refine al_19 dX3_wiresThere_16 (kr_3_1 hv0) (by rw [(la_19 (kr_3_1 hv0))]; exact c2) ?_
        refine fg_X3_39 dX3_wiresThere_17 rfl (ka_19 (kr_3_1 hv0) ((by rw [(la_19 (kr_3_1 hv0))]; exact c2) : bf_ok _ _).2) ?_
        refine bf_if_eq 27 dX3_wiresThere_20 (by decide) (fun c3 => ?_) (fun c3 => ?_)
        · have hf := (if_pos c3).symm.trans hf
          refine bf_iconst (v := 0) dX3_wiresThere_27 (by decide) ?_
          refine bf_iadd dX3_wiresThere_28 ?_
          refine bf_istore_n (lv2 := [(1, .int _), (0, .ref _), (2, .int _)]) dX3_wiresThere_29 rfl (by decide) rfl ?_
          refine bf_iinc 2 (v := _ + (1 : Int32)) (lv2 := [(2, .int _), (1, .int _), (0, .ref _)]) dX3_wiresThere_30 rfl (by rfl) (by decide) rfl ?_
          refine bf_goto 4 dX3_wiresThere_33 (by decide) ?_
          refine bf_perm [2, 1, 0] rfl ?_
          exact ih _ _ _ _ hf
        · have hf := (if_neg c3).symm.trans hf
          refine bf_iconst (v := 1) dX3_wiresThere_23 (by decide) ?_
          refine bf_goto 28 dX3_wiresThere_24 (by decide) ?_
          refine bf_iadd dX3_wiresThere_28 ?_
          refine bf_istore_n (lv2 := [(1, .int _), (0, .ref _), (2, .int _)]) dX3_wiresThere_29 rfl (by decide) rfl ?_
          refine bf_iinc 2 (v := _ + (1 : Int32)) (lv2 := [(2, .int _), (1, .int _), (0, .ref _)]) dX3_wiresThere_30 rfl (by rfl) (by decide) rfl ?_
          refine bf_goto 4 dX3_wiresThere_33 (by decide) ?_
          refine bf_perm [2, 1, 0] rfl ?_
          exact ih _ _ _ _ hf
      · exact absurd ((if_neg c2).symm.trans hf) (by simp)
def f_X3_wiresThere (o : Nat) (I : Nat → Nat → Int32) (L : Nat → Nat → Int64) : Option (Int32 × bf_St) :=
  (f_X3_wiresThere_4 o (fun k1_4 I4 L4 => (some (k1_4, I4, L4))) 400 (0 : Int32) (0 : Int32) I L)
set_option maxRecDepth 100000 in
set_option maxHeartbeats 4000000 in
theorem ok_X3_wiresThere {Γ : bf_Gm} {ad : Nat → Nat} {o : Nat} {I : Nat → Nat → Int32} {L : Nat → Nat → Int64} (hk : bf_kd o = 3) {r : Int32 × bf_St} (hf : f_X3_wiresThere o I L = some r) : bf_Cn Γ 0 mu_X3_wiresThere 0 0 [.ref (ad o)] (bf_S ad I L) (fun q h => q = some (.int r.1) ∧ h = bf_S ad r.2.1 r.2.2) := by
  refine bf_met rfl (Nat.le_of_ble_eq_true rfl) ?_
  unfold f_X3_wiresThere at hf
  refine bf_iconst (v := 0) dX3_wiresThere_0 (by decide) ?_
  refine bf_istore_n (lv2 := [(1, .int _), (0, .ref _)]) dX3_wiresThere_1 rfl (by decide) rfl ?_
  refine bf_iconst (v := 0) dX3_wiresThere_2 (by decide) ?_
  refine bf_istore_n (lv2 := [(2, .int _), (1, .int _), (0, .ref _)]) dX3_wiresThere_3 rfl (by decide) rfl ?_
  refine bf_perm [2, 1, 0] rfl ?_
  refine ok_X3_wiresThere_4 hk (fun k1_4 I4 L4 hf => ?_) _ _ _ _ _  hf
  refine bf_iload_n 0 dX3_wiresThere_36 rfl rfl ?_
  obtain rfl := Option.some.inj hf
  exact bf_iret dX3_wiresThere_37 rfl (Nat.le_refl _) (Nat.le_refl _) ⟨rfl, rfl⟩
def f_X3_onwardFrom_4 (v0 : Nat) (v1 : Int32) (K : Int32 → (Nat → Nat → Int32) → (Nat → Nat → Int64) → Option (Int32 × bf_St)) : Nat → Int32 → Int32 → (Nat → Nat → Int32) → (Nat → Nat → Int64) → Option (Int32 × bf_St)
  | 0, _, _, _, _ => none
  | n + 1, v2, v3, I, L =>
    (if (8 : Int32) ≤ v3 then (K v2 I L) else (if bf_ok v3 8 then (if (I ((v0 + 8) + 1 + 2 * v3.toNatClampNeg) 4) = 0 then (f_X3_onwardFrom_4 v0 v1 K n v2 (v3 + (1 : Int32)) I L) else (if ((v1 >>> ((I ((v0 + 8) + 1 + 2 * v3.toNatClampNeg) 0) &&& 31)) &&& (1 : Int32)) = (1 : Int32) then (f_X3_onwardFrom_4 v0 v1 K n (v2 ||| ((1 : Int32) <<< ((I ((v0 + 8) + 1 + 2 * v3.toNatClampNeg) 1) &&& 31))) (v3 + (1 : Int32)) I L) else (f_X3_onwardFrom_4 v0 v1 K n v2 (v3 + (1 : Int32)) I L))) else none))
set_option maxRecDepth 100000 in
set_option maxHeartbeats 4000000 in
theorem ok_X3_onwardFrom_4 {Γ : bf_Gm} {ad : Nat → Nat} {v0 : Nat} {v1 : Int32} (hv0 : bf_kd v0 = 3) {r : Int32 × bf_St} {K : Int32 → (Nat → Nat → Int32) → (Nat → Nat → Int64) → Option (Int32 × bf_St)} (hK : ∀ (v2 : Int32) (I : Nat → Nat → Int32) (L : Nat → Nat → Int64), K v2 I L = some r → bf_Go Γ (bf_rm 0 0 0) mu_X3_onwardFrom bf_E0 (bf_Z Γ (fun q h => q = some (.int r.1) ∧ h = bf_S ad r.2.1 r.2.2) 0 0) (0, 0) 55 [(2, .int v2)] [] (bf_S ad I L)) : ∀ (n : Nat) (v2 : Int32) (v3 : Int32) (I : Nat → Nat → Int32) (L : Nat → Nat → Int64), f_X3_onwardFrom_4 v0 v1 K n v2 v3 I L = some r → bf_Go Γ (bf_rm 0 0 0) mu_X3_onwardFrom bf_E0 (bf_Z Γ (fun q h => q = some (.int r.1) ∧ h = bf_S ad r.2.1 r.2.2) 0 0) (0, 0) 4 [(0, .ref (ad v0)), (1, .int v1), (2, .int v2), (3, .int v3)] [] (bf_S ad I L) := by
  intro n
  induction n with
  | zero => intro v2 v3 I L hf; exact absurd (show none = some r from hf) (by simp)
  | succ n ih =>
    intro v2 v3 I L hf
    rw [f_X3_onwardFrom_4] at hf
    refine bf_iload_n 3 dX3_onwardFrom_4 rfl rfl ?_
    refine bf_bipush (v := 8) dX3_onwardFrom_5 (by decide) ?_
    refine bf_icmp_ge 55 dX3_onwardFrom_7 (by decide) (fun c1 => ?_) (fun c1 => ?_)
    · have hf := (if_pos c1).symm.trans hf
      refine bf_perm [2] rfl ?_
      exact hK _ _ _ hf
    · have hf := (if_neg c1).symm.trans hf
      refine bf_aload_n 0 dX3_onwardFrom_10 rfl rfl ?_
      refine fg_X3_20 dX3_onwardFrom_11 rfl hv0 ?_
      refine bf_iload_n 3 dX3_onwardFrom_14 rfl rfl ?_
      rcases Decidable.em (bf_ok v3 8) with c2 | c2
      · have hf := (if_pos c2).symm.trans hf
        refine al_19 dX3_onwardFrom_15 (kr_3_1 hv0) (by rw [(la_19 (kr_3_1 hv0))]; exact c2) ?_
        refine bf_astore (lv2 := [(4, .ref _), (0, .ref _), (1, .int _), (2, .int _), (3, .int _)]) dX3_onwardFrom_16 (by decide) rfl ?_
        refine bf_aload 0 dX3_onwardFrom_18 rfl ?_
        refine fg_X3_39 dX3_onwardFrom_20 rfl (ka_19 (kr_3_1 hv0) ((by rw [(la_19 (kr_3_1 hv0))]; exact c2) : bf_ok _ _).2) ?_
        refine bf_if_eq 49 dX3_onwardFrom_23 (by decide) (fun c3 => ?_) (fun c3 => ?_)
        · have hf := (if_pos c3).symm.trans hf
          refine bf_iinc 4 (v := _ + (1 : Int32)) (lv2 := [(3, .int _), (4, .ref _), (0, .ref _), (1, .int _), (2, .int _)]) dX3_onwardFrom_49 rfl (by rfl) (by decide) rfl ?_
          refine bf_goto 4 dX3_onwardFrom_52 (by decide) ?_
          refine bf_perm [2, 3, 4, 0] rfl ?_
          exact ih _ _ _ _ hf
        · have hf := (if_neg c3).symm.trans hf
          refine bf_iload_n 2 dX3_onwardFrom_26 rfl rfl ?_
          refine bf_aload 0 dX3_onwardFrom_27 rfl ?_
          refine fg_X3_102 dX3_onwardFrom_29 rfl (ka_19 (kr_3_1 hv0) ((by rw [(la_19 (kr_3_1 hv0))]; exact c2) : bf_ok _ _).2) ?_
          refine bf_ishr dX3_onwardFrom_32 ?_
          refine bf_iconst (v := 1) dX3_onwardFrom_33 (by decide) ?_
          refine bf_iand dX3_onwardFrom_34 ?_
          refine bf_iconst (v := 1) dX3_onwardFrom_35 (by decide) ?_
          refine bf_icmp_ne 49 dX3_onwardFrom_36 (by decide) (fun c4 => ?_) (fun c4 => ?_)
          · have hf := (if_neg c4).symm.trans hf
            refine bf_iinc 4 (v := _ + (1 : Int32)) (lv2 := [(3, .int _), (4, .ref _), (0, .ref _), (1, .int _), (2, .int _)]) dX3_onwardFrom_49 rfl (by rfl) (by decide) rfl ?_
            refine bf_goto 4 dX3_onwardFrom_52 (by decide) ?_
            refine bf_perm [2, 3, 4, 0] rfl ?_
            exact ih _ _ _ _ hf
          · have hf := (if_pos c4).symm.trans hf
            refine bf_iload_n 3 dX3_onwardFrom_39 rfl rfl ?_
            refine bf_iconst (v := 1) dX3_onwardFrom_40 (by decide) ?_
            refine bf_aload 0 dX3_onwardFrom_41 rfl ?_
            refine fg_X3_105 dX3_onwardFrom_43 rfl (ka_19 (kr_3_1 hv0) ((by rw [(la_19 (kr_3_1 hv0))]; exact c2) : bf_ok _ _).2) ?_
            refine bf_ishl dX3_onwardFrom_46 ?_
            refine bf_ior dX3_onwardFrom_47 ?_
            refine bf_istore_n (lv2 := [(2, .int _), (4, .ref _), (0, .ref _), (1, .int _), (3, .int _)]) dX3_onwardFrom_48 rfl (by decide) rfl ?_
            refine bf_iinc 4 (v := _ + (1 : Int32)) (lv2 := [(3, .int _), (2, .int _), (4, .ref _), (0, .ref _), (1, .int _)]) dX3_onwardFrom_49 rfl (by rfl) (by decide) rfl ?_
            refine bf_goto 4 dX3_onwardFrom_52 (by decide) ?_
            refine bf_perm [3, 4, 1, 0] rfl ?_
            exact ih _ _ _ _ hf
      · exact absurd ((if_neg c2).symm.trans hf) (by simp)
def f_X3_onwardFrom (o : Nat) (a0 : Int32) (I : Nat → Nat → Int32) (L : Nat → Nat → Int64) : Option (Int32 × bf_St) :=
  (f_X3_onwardFrom_4 o a0 (fun k2_5 I5 L5 => (some (k2_5, I5, L5))) 400 (0 : Int32) (0 : Int32) I L)
set_option maxRecDepth 100000 in
set_option maxHeartbeats 4000000 in
theorem ok_X3_onwardFrom {Γ : bf_Gm} {ad : Nat → Nat} {o : Nat} {a0 : Int32} {I : Nat → Nat → Int32} {L : Nat → Nat → Int64} (hk : bf_kd o = 3) {r : Int32 × bf_St} (hf : f_X3_onwardFrom o a0 I L = some r) : bf_Cn Γ 0 mu_X3_onwardFrom 0 0 [.ref (ad o), .int a0] (bf_S ad I L) (fun q h => q = some (.int r.1) ∧ h = bf_S ad r.2.1 r.2.2) := by
  refine bf_met rfl (Nat.le_of_ble_eq_true rfl) ?_
  unfold f_X3_onwardFrom at hf
  refine bf_iconst (v := 0) dX3_onwardFrom_0 (by decide) ?_
  refine bf_istore_n (lv2 := [(2, .int _), (0, .ref _), (1, .int _)]) dX3_onwardFrom_1 rfl (by decide) rfl ?_
  refine bf_iconst (v := 0) dX3_onwardFrom_2 (by decide) ?_
  refine bf_istore_n (lv2 := [(3, .int _), (2, .int _), (0, .ref _), (1, .int _)]) dX3_onwardFrom_3 rfl (by decide) rfl ?_
  refine bf_perm [2, 3, 1, 0] rfl ?_
  refine ok_X3_onwardFrom_4 hk (fun k2_5 I5 L5 hf => ?_) _ _ _ _ _  hf
  refine bf_iload_n 0 dX3_onwardFrom_55 rfl rfl ?_
  obtain rfl := Option.some.inj hf
  exact bf_iret dX3_onwardFrom_56 rfl (Nat.le_refl _) (Nat.le_refl _) ⟨rfl, rfl⟩
def f_X3_reachedFrom_10 (v0 : Nat) (K : Int32 → (Nat → Nat → Int32) → (Nat → Nat → Int64) → Option (Int32 × bf_St)) : Nat → Int32 → Int32 → (Nat → Nat → Int32) → (Nat → Nat → Int64) → Option (Int32 × bf_St)
  | 0, _, _, _, _ => none
  | n + 1, v2, v3, I, L =>
    (if (6 : Int32) ≤ v3 then (K v2 I L) else ((f_X3_onwardFrom v0 v2 I L).bind (fun r5 => (f_X3_reachedFrom_10 v0 K n (v2 ||| r5.1) (v3 + (1 : Int32)) r5.2.1 r5.2.2))))
set_option maxRecDepth 100000 in
set_option maxHeartbeats 4000000 in
theorem ok_X3_reachedFrom_10 {Γ : bf_Gm} {ad : Nat → Nat} {v0 : Nat} (hv0 : bf_kd v0 = 3) {r : Int32 × bf_St} {K : Int32 → (Nat → Nat → Int32) → (Nat → Nat → Int64) → Option (Int32 × bf_St)} (hK : ∀ (v2 : Int32) (I : Nat → Nat → Int32) (L : Nat → Nat → Int64), K v2 I L = some r → bf_Go Γ (bf_rm 1 0 0) mu_X3_reachedFrom bf_E0 (bf_Z Γ (fun q h => q = some (.int r.1) ∧ h = bf_S ad r.2.1 r.2.2) 0 0) (0, 0) 30 [(2, .int v2)] [] (bf_S ad I L)) : ∀ (n : Nat) (v2 : Int32) (v3 : Int32) (I : Nat → Nat → Int32) (L : Nat → Nat → Int64), f_X3_reachedFrom_10 v0 K n v2 v3 I L = some r → bf_Go Γ (bf_rm 1 0 0) mu_X3_reachedFrom bf_E0 (bf_Z Γ (fun q h => q = some (.int r.1) ∧ h = bf_S ad r.2.1 r.2.2) 0 0) (0, 0) 10 [(0, .ref (ad v0)), (2, .int v2), (3, .int v3)] [] (bf_S ad I L) := by
  intro n
  induction n with
  | zero => intro v2 v3 I L hf; exact absurd (show none = some r from hf) (by simp)
  | succ n ih =>
    intro v2 v3 I L hf
    rw [f_X3_reachedFrom_10] at hf
    refine bf_iload_n 2 dX3_reachedFrom_10 rfl rfl ?_
    refine bf_bipush (v := 6) dX3_reachedFrom_11 (by decide) ?_
    refine bf_icmp_ge 30 dX3_reachedFrom_13 (by decide) (fun c3 => ?_) (fun c3 => ?_)
    · have hf := (if_pos c3).symm.trans hf
      refine bf_perm [1] rfl ?_
      exact hK _ _ _ hf
    · have hf := (if_neg c3).symm.trans hf
      refine bf_iload_n 1 dX3_reachedFrom_16 rfl rfl ?_
      refine bf_aload_n 0 dX3_reachedFrom_17 rfl rfl ?_
      refine bf_iload_n 1 dX3_reachedFrom_18 rfl rfl ?_
      obtain ⟨r5, e4, hf⟩ := bf_bind hf
      have hCe4 := ok_X3_onwardFrom (Γ := Γ) (ad := ad) hv0 e4
      refine cv_X3_99 0 dX3_reachedFrom_19 rfl ⟨Nat.le_of_ble_eq_true rfl, Nat.le_of_ble_eq_true rfl⟩ (Nat.le_of_ble_eq_true rfl) hv0 hCe4 ?_
      refine bf_ior dX3_reachedFrom_22 ?_
      refine bf_istore_n (lv2 := [(2, .int _), (0, .ref _), (3, .int _)]) dX3_reachedFrom_23 rfl (by decide) rfl ?_
      refine bf_iinc 2 (v := _ + (1 : Int32)) (lv2 := [(3, .int _), (2, .int _), (0, .ref _)]) dX3_reachedFrom_24 rfl (by rfl) (by decide) rfl ?_
      refine bf_goto 10 dX3_reachedFrom_27 (by decide) ?_
      refine bf_perm [2, 1, 0] rfl ?_
      exact ih _ _ _ _ hf
def f_X3_reachedFrom (o : Nat) (a0 : Int32) (I : Nat → Nat → Int32) (L : Nat → Nat → Int64) : Option (Int32 × bf_St) :=
  ((f_X3_onwardFrom o ((1 : Int32) <<< (a0 &&& 31)) I L).bind (fun r2 => (f_X3_reachedFrom_10 o (fun k2_6 I6 L6 => (some (k2_6, I6, L6))) 400 r2.1 (1 : Int32) r2.2.1 r2.2.2)))
set_option maxRecDepth 100000 in
set_option maxHeartbeats 4000000 in
theorem ok_X3_reachedFrom {Γ : bf_Gm} {ad : Nat → Nat} {o : Nat} {a0 : Int32} {I : Nat → Nat → Int32} {L : Nat → Nat → Int64} (hk : bf_kd o = 3) {r : Int32 × bf_St} (hf : f_X3_reachedFrom o a0 I L = some r) : bf_Cn Γ 1 mu_X3_reachedFrom 0 0 [.ref (ad o), .int a0] (bf_S ad I L) (fun q h => q = some (.int r.1) ∧ h = bf_S ad r.2.1 r.2.2) := by
  refine bf_met rfl (Nat.le_of_ble_eq_true rfl) ?_
  unfold f_X3_reachedFrom at hf
  refine bf_aload_n 0 dX3_reachedFrom_0 rfl rfl ?_
  refine bf_iconst (v := 1) dX3_reachedFrom_1 (by decide) ?_
  refine bf_iload_n 1 dX3_reachedFrom_2 rfl rfl ?_
  refine bf_ishl dX3_reachedFrom_3 ?_
  obtain ⟨r2, e1, hf⟩ := bf_bind hf
  have hCe1 := ok_X3_onwardFrom (Γ := Γ) (ad := ad) hk e1
  refine cv_X3_99 0 dX3_reachedFrom_4 rfl ⟨Nat.le_of_ble_eq_true rfl, Nat.le_of_ble_eq_true rfl⟩ (Nat.le_of_ble_eq_true rfl) hk hCe1 ?_
  refine bf_istore_n (lv2 := [(2, .int _), (0, .ref _), (1, .int _)]) dX3_reachedFrom_7 rfl (by decide) rfl ?_
  refine bf_iconst (v := 1) dX3_reachedFrom_8 (by decide) ?_
  refine bf_istore_n (lv2 := [(3, .int _), (2, .int _), (0, .ref _), (1, .int _)]) dX3_reachedFrom_9 rfl (by decide) rfl ?_
  refine bf_perm [2, 1, 0] rfl ?_
  refine ok_X3_reachedFrom_10 hk (fun k2_6 I6 L6 hf => ?_) _ _ _ _ _  hf
  refine bf_iload_n 0 dX3_reachedFrom_30 rfl rfl ?_
  obtain rfl := Option.some.inj hf
  exact bf_iret dX3_reachedFrom_31 rfl (Nat.le_refl _) (Nat.le_refl _) ⟨rfl, rfl⟩
def f_X3_feedback_11 (v0 : Nat) (v1 : Int32) (v2 : Int32) (K : Int32 → (Nat → Nat → Int32) → (Nat → Nat → Int64) → Option (Int32 × bf_St)) : Nat → Int32 → Int32 → (Nat → Nat → Int32) → (Nat → Nat → Int64) → Option (Int32 × bf_St)
  | 0, _, _, _, _ => none
  | n + 1, v3, v4, I, L =>
    (if (6 : Int32) ≤ v4 then (K v3 I L) else (if ((v2 >>> (v4 &&& 31)) &&& (1 : Int32)) = (1 : Int32) then ((f_X3_reachedFrom v0 v4 I L).bind (fun r6 => (if ((r6.1 >>> (v1 &&& 31)) &&& (1 : Int32)) = (1 : Int32) then (f_X3_feedback_11 v0 v1 v2 K n (v3 ||| ((1 : Int32) <<< (v4 &&& 31))) (v4 + (1 : Int32)) r6.2.1 r6.2.2) else (f_X3_feedback_11 v0 v1 v2 K n (v3 ||| (0 : Int32)) (v4 + (1 : Int32)) r6.2.1 r6.2.2)))) else (f_X3_feedback_11 v0 v1 v2 K n (v3 ||| (0 : Int32)) (v4 + (1 : Int32)) I L)))
set_option maxRecDepth 100000 in
set_option maxHeartbeats 4000000 in
theorem ok_X3_feedback_11 {Γ : bf_Gm} {ad : Nat → Nat} {v0 : Nat} {v1 : Int32} {v2 : Int32} (hv0 : bf_kd v0 = 3) {r : Int32 × bf_St} {K : Int32 → (Nat → Nat → Int32) → (Nat → Nat → Int64) → Option (Int32 × bf_St)} (hK : ∀ (v3 : Int32) (I : Nat → Nat → Int32) (L : Nat → Nat → Int64), K v3 I L = some r → bf_Go Γ (bf_rm 2 0 0) mu_X3_feedback bf_E0 (bf_Z Γ (fun q h => q = some (.int r.1) ∧ h = bf_S ad r.2.1 r.2.2) 0 0) (0, 0) 71 [(3, .int v3)] [] (bf_S ad I L)) : ∀ (n : Nat) (v3 : Int32) (v4 : Int32) (I : Nat → Nat → Int32) (L : Nat → Nat → Int64), f_X3_feedback_11 v0 v1 v2 K n v3 v4 I L = some r → bf_Go Γ (bf_rm 2 0 0) mu_X3_feedback bf_E0 (bf_Z Γ (fun q h => q = some (.int r.1) ∧ h = bf_S ad r.2.1 r.2.2) 0 0) (0, 0) 11 [(0, .ref (ad v0)), (1, .int v1), (2, .int v2), (3, .int v3), (4, .int v4)] [] (bf_S ad I L) := by
  intro n
  induction n with
  | zero => intro v3 v4 I L hf; exact absurd (show none = some r from hf) (by simp)
  | succ n ih =>
    intro v3 v4 I L hf
    rw [f_X3_feedback_11] at hf
    refine bf_iload 4 dX3_feedback_11 rfl ?_
    refine bf_bipush (v := 6) dX3_feedback_13 (by decide) ?_
    refine bf_icmp_ge 71 dX3_feedback_15 (by decide) (fun c3 => ?_) (fun c3 => ?_)
    · have hf := (if_pos c3).symm.trans hf
      refine bf_perm [3] rfl ?_
      exact hK _ _ _ hf
    · have hf := (if_neg c3).symm.trans hf
      refine bf_iload_n 2 dX3_feedback_18 rfl rfl ?_
      refine bf_iload 4 dX3_feedback_19 rfl ?_
      refine bf_ishr dX3_feedback_21 ?_
      refine bf_iconst (v := 1) dX3_feedback_22 (by decide) ?_
      refine bf_iand dX3_feedback_23 ?_
      refine bf_iconst (v := 1) dX3_feedback_24 (by decide) ?_
      refine bf_icmp_ne 46 dX3_feedback_25 (by decide) (fun c4 => ?_) (fun c4 => ?_)
      · have hf := (if_neg c4).symm.trans hf
        refine bf_iconst (v := 0) dX3_feedback_46 (by decide) ?_
        refine bf_istore (lv2 := [(5, .int _), (0, .ref _), (1, .int _), (2, .int _), (3, .int _), (4, .int _)]) dX3_feedback_47 (by decide) rfl ?_
        refine bf_iload_n 4 dX3_feedback_49 rfl rfl ?_
        refine bf_iload 0 dX3_feedback_50 rfl ?_
        refine bf_if_eq 62 dX3_feedback_52 (by decide) (fun _ => ?_) (fun q => absurd q (by decide))
        refine bf_iconst (v := 0) dX3_feedback_62 (by decide) ?_
        refine bf_ior dX3_feedback_63 ?_
        refine bf_istore_n (lv2 := [(3, .int _), (5, .int _), (0, .ref _), (1, .int _), (2, .int _), (4, .int _)]) dX3_feedback_64 rfl (by decide) rfl ?_
        refine bf_iinc 5 (v := _ + (1 : Int32)) (lv2 := [(4, .int _), (3, .int _), (5, .int _), (0, .ref _), (1, .int _), (2, .int _)]) dX3_feedback_65 rfl (by rfl) (by decide) rfl ?_
        refine bf_goto 11 dX3_feedback_68 (by decide) ?_
        refine bf_perm [3, 4, 5, 1, 0] rfl ?_
        exact ih _ _ _ _ hf
      · have hf := (if_pos c4).symm.trans hf
        refine bf_aload_n 0 dX3_feedback_28 rfl rfl ?_
        refine bf_iload 4 dX3_feedback_29 rfl ?_
        obtain ⟨r6, e5, hf⟩ := bf_bind hf
        have hCe5 := ok_X3_reachedFrom (Γ := Γ) (ad := ad) hv0 e5
        refine cv_X3_95 1 dX3_feedback_31 rfl ⟨Nat.le_of_ble_eq_true rfl, Nat.le_of_ble_eq_true rfl⟩ (Nat.le_of_ble_eq_true rfl) hv0 hCe5 ?_
        refine bf_iload_n 1 dX3_feedback_34 rfl rfl ?_
        refine bf_ishr dX3_feedback_35 ?_
        refine bf_iconst (v := 1) dX3_feedback_36 (by decide) ?_
        refine bf_iand dX3_feedback_37 ?_
        refine bf_iconst (v := 1) dX3_feedback_38 (by decide) ?_
        refine bf_icmp_ne 46 dX3_feedback_39 (by decide) (fun c7 => ?_) (fun c7 => ?_)
        · have hf := (if_neg c7).symm.trans hf
          refine bf_iconst (v := 0) dX3_feedback_46 (by decide) ?_
          refine bf_istore (lv2 := [(5, .int _), (0, .ref _), (1, .int _), (2, .int _), (3, .int _), (4, .int _)]) dX3_feedback_47 (by decide) rfl ?_
          refine bf_iload_n 4 dX3_feedback_49 rfl rfl ?_
          refine bf_iload 0 dX3_feedback_50 rfl ?_
          refine bf_if_eq 62 dX3_feedback_52 (by decide) (fun _ => ?_) (fun q => absurd q (by decide))
          refine bf_iconst (v := 0) dX3_feedback_62 (by decide) ?_
          refine bf_ior dX3_feedback_63 ?_
          refine bf_istore_n (lv2 := [(3, .int _), (5, .int _), (0, .ref _), (1, .int _), (2, .int _), (4, .int _)]) dX3_feedback_64 rfl (by decide) rfl ?_
          refine bf_iinc 5 (v := _ + (1 : Int32)) (lv2 := [(4, .int _), (3, .int _), (5, .int _), (0, .ref _), (1, .int _), (2, .int _)]) dX3_feedback_65 rfl (by rfl) (by decide) rfl ?_
          refine bf_goto 11 dX3_feedback_68 (by decide) ?_
          refine bf_perm [3, 4, 5, 1, 0] rfl ?_
          exact ih _ _ _ _ hf
        · have hf := (if_pos c7).symm.trans hf
          refine bf_iconst (v := 1) dX3_feedback_42 (by decide) ?_
          refine bf_goto 47 dX3_feedback_43 (by decide) ?_
          refine bf_istore (lv2 := [(5, .int _), (0, .ref _), (1, .int _), (2, .int _), (3, .int _), (4, .int _)]) dX3_feedback_47 (by decide) rfl ?_
          refine bf_iload_n 4 dX3_feedback_49 rfl rfl ?_
          refine bf_iload 0 dX3_feedback_50 rfl ?_
          refine bf_if_eq 62 dX3_feedback_52 (by decide) (fun q => absurd q (by decide)) (fun _ => ?_)
          refine bf_iconst (v := 1) dX3_feedback_55 (by decide) ?_
          refine bf_iload 5 dX3_feedback_56 rfl ?_
          refine bf_ishl dX3_feedback_58 ?_
          refine bf_goto 63 dX3_feedback_59 (by decide) ?_
          refine bf_ior dX3_feedback_63 ?_
          refine bf_istore_n (lv2 := [(3, .int _), (5, .int _), (0, .ref _), (1, .int _), (2, .int _), (4, .int _)]) dX3_feedback_64 rfl (by decide) rfl ?_
          refine bf_iinc 5 (v := _ + (1 : Int32)) (lv2 := [(4, .int _), (3, .int _), (5, .int _), (0, .ref _), (1, .int _), (2, .int _)]) dX3_feedback_65 rfl (by rfl) (by decide) rfl ?_
          refine bf_goto 11 dX3_feedback_68 (by decide) ?_
          refine bf_perm [3, 4, 5, 1, 0] rfl ?_
          exact ih _ _ _ _ hf
def f_X3_feedback (o : Nat) (a0 : Int32) (I : Nat → Nat → Int32) (L : Nat → Nat → Int64) : Option (Int32 × bf_St) :=
  ((f_X3_reachedFrom o a0 I L).bind (fun r2 => (f_X3_feedback_11 o a0 r2.1 (fun k3_8 I8 L8 => (some (k3_8, I8, L8))) 400 (0 : Int32) (0 : Int32) r2.2.1 r2.2.2)))
set_option maxRecDepth 100000 in
set_option maxHeartbeats 4000000 in
theorem ok_X3_feedback {Γ : bf_Gm} {ad : Nat → Nat} {o : Nat} {a0 : Int32} {I : Nat → Nat → Int32} {L : Nat → Nat → Int64} (hk : bf_kd o = 3) {r : Int32 × bf_St} (hf : f_X3_feedback o a0 I L = some r) : bf_Cn Γ 2 mu_X3_feedback 0 0 [.ref (ad o), .int a0] (bf_S ad I L) (fun q h => q = some (.int r.1) ∧ h = bf_S ad r.2.1 r.2.2) := by
  refine bf_met rfl (Nat.le_of_ble_eq_true rfl) ?_
  unfold f_X3_feedback at hf
  refine bf_aload_n 0 dX3_feedback_0 rfl rfl ?_
  refine bf_iload_n 1 dX3_feedback_1 rfl rfl ?_
  obtain ⟨r2, e1, hf⟩ := bf_bind hf
  have hCe1 := ok_X3_reachedFrom (Γ := Γ) (ad := ad) hk e1
  refine cv_X3_95 1 dX3_feedback_2 rfl ⟨Nat.le_of_ble_eq_true rfl, Nat.le_of_ble_eq_true rfl⟩ (Nat.le_of_ble_eq_true rfl) hk hCe1 ?_
  refine bf_istore_n (lv2 := [(2, .int _), (0, .ref _), (1, .int _)]) dX3_feedback_5 rfl (by decide) rfl ?_
  refine bf_iconst (v := 0) dX3_feedback_6 (by decide) ?_
  refine bf_istore_n (lv2 := [(3, .int _), (2, .int _), (0, .ref _), (1, .int _)]) dX3_feedback_7 rfl (by decide) rfl ?_
  refine bf_iconst (v := 0) dX3_feedback_8 (by decide) ?_
  refine bf_istore (lv2 := [(4, .int _), (3, .int _), (2, .int _), (0, .ref _), (1, .int _)]) dX3_feedback_9 (by decide) rfl ?_
  refine bf_perm [3, 4, 2, 1, 0] rfl ?_
  refine ok_X3_feedback_11 hk (fun k3_8 I8 L8 hf => ?_) _ _ _ _ _  hf
  refine bf_iload_n 0 dX3_feedback_71 rfl rfl ?_
  obtain rfl := Option.some.inj hf
  exact bf_iret dX3_feedback_72 rfl (Nat.le_refl _) (Nat.le_refl _) ⟨rfl, rfl⟩
def f_X3_tokenCount_4 (v0 : Nat) (K : Int32 → (Nat → Nat → Int32) → (Nat → Nat → Int64) → Option (Int32 × bf_St)) : Nat → Int32 → Int32 → (Nat → Nat → Int32) → (Nat → Nat → Int64) → Option (Int32 × bf_St)
  | 0, _, _, _, _ => none
  | n + 1, v1, v2, I, L =>
    (if (8 : Int32) ≤ v2 then (K v1 I L) else (if bf_ok v2 8 then (if (I ((v0 + 8) + 1 + 2 * v2.toNatClampNeg) 4) = 0 then (f_X3_tokenCount_4 v0 K n (v1 + (0 : Int32)) (v2 + (1 : Int32)) I L) else (if bf_ok v2 8 then (f_X3_tokenCount_4 v0 K n (v1 + (I ((v0 + 8) + 1 + 2 * v2.toNatClampNeg) 5)) (v2 + (1 : Int32)) I L) else none)) else none))
set_option maxRecDepth 100000 in
set_option maxHeartbeats 4000000 in
theorem ok_X3_tokenCount_4 {Γ : bf_Gm} {ad : Nat → Nat} {v0 : Nat} (hv0 : bf_kd v0 = 3) {r : Int32 × bf_St} {K : Int32 → (Nat → Nat → Int32) → (Nat → Nat → Int64) → Option (Int32 × bf_St)} (hK : ∀ (v1 : Int32) (I : Nat → Nat → Int32) (L : Nat → Nat → Int64), K v1 I L = some r → bf_Go Γ (bf_rm 0 0 0) mu_X3_tokenCount bf_E0 (bf_Z Γ (fun q h => q = some (.int r.1) ∧ h = bf_S ad r.2.1 r.2.2) 0 0) (0, 0) 44 [(1, .int v1)] [] (bf_S ad I L)) : ∀ (n : Nat) (v1 : Int32) (v2 : Int32) (I : Nat → Nat → Int32) (L : Nat → Nat → Int64), f_X3_tokenCount_4 v0 K n v1 v2 I L = some r → bf_Go Γ (bf_rm 0 0 0) mu_X3_tokenCount bf_E0 (bf_Z Γ (fun q h => q = some (.int r.1) ∧ h = bf_S ad r.2.1 r.2.2) 0 0) (0, 0) 4 [(0, .ref (ad v0)), (1, .int v1), (2, .int v2)] [] (bf_S ad I L) := by
  intro n
  induction n with
  | zero => intro v1 v2 I L hf; exact absurd (show none = some r from hf) (by simp)
  | succ n ih =>
    intro v1 v2 I L hf
    rw [f_X3_tokenCount_4] at hf
    refine bf_iload_n 2 dX3_tokenCount_4 rfl rfl ?_
    refine bf_bipush (v := 8) dX3_tokenCount_5 (by decide) ?_
    refine bf_icmp_ge 44 dX3_tokenCount_7 (by decide) (fun c1 => ?_) (fun c1 => ?_)
    · have hf := (if_pos c1).symm.trans hf
      refine bf_perm [1] rfl ?_
      exact hK _ _ _ hf
    · have hf := (if_neg c1).symm.trans hf
      refine bf_iload_n 1 dX3_tokenCount_10 rfl rfl ?_
      refine bf_aload_n 0 dX3_tokenCount_11 rfl rfl ?_
      refine fg_X3_20 dX3_tokenCount_12 rfl hv0 ?_
      refine bf_iload_n 2 dX3_tokenCount_15 rfl rfl ?_
      rcases Decidable.em (bf_ok v2 8) with c2 | c2
      · have hf := (if_pos c2).symm.trans hf
        refine al_19 dX3_tokenCount_16 (kr_3_1 hv0) (by rw [(la_19 (kr_3_1 hv0))]; exact c2) ?_
        refine fg_X3_39 dX3_tokenCount_17 rfl (ka_19 (kr_3_1 hv0) ((by rw [(la_19 (kr_3_1 hv0))]; exact c2) : bf_ok _ _).2) ?_
        refine bf_if_eq 35 dX3_tokenCount_20 (by decide) (fun c3 => ?_) (fun c3 => ?_)
        · have hf := (if_pos c3).symm.trans hf
          refine bf_iconst (v := 0) dX3_tokenCount_35 (by decide) ?_
          refine bf_iadd dX3_tokenCount_36 ?_
          refine bf_istore_n (lv2 := [(1, .int _), (0, .ref _), (2, .int _)]) dX3_tokenCount_37 rfl (by decide) rfl ?_
          refine bf_iinc 2 (v := _ + (1 : Int32)) (lv2 := [(2, .int _), (1, .int _), (0, .ref _)]) dX3_tokenCount_38 rfl (by rfl) (by decide) rfl ?_
          refine bf_goto 4 dX3_tokenCount_41 (by decide) ?_
          refine bf_perm [2, 1, 0] rfl ?_
          exact ih _ _ _ _ hf
        · have hf := (if_neg c3).symm.trans hf
          refine bf_aload_n 0 dX3_tokenCount_23 rfl rfl ?_
          refine fg_X3_20 dX3_tokenCount_24 rfl hv0 ?_
          refine bf_iload_n 2 dX3_tokenCount_27 rfl rfl ?_
          rcases Decidable.em (bf_ok v2 8) with c4 | c4
          · have hf := (if_pos c4).symm.trans hf
            refine al_19 dX3_tokenCount_28 (kr_3_1 hv0) (by rw [(la_19 (kr_3_1 hv0))]; exact c4) ?_
            refine fg_X3_108 dX3_tokenCount_29 rfl (ka_19 (kr_3_1 hv0) ((by rw [(la_19 (kr_3_1 hv0))]; exact c4) : bf_ok _ _).2) ?_
            refine bf_goto 36 dX3_tokenCount_32 (by decide) ?_
            refine bf_iadd dX3_tokenCount_36 ?_
            refine bf_istore_n (lv2 := [(1, .int _), (0, .ref _), (2, .int _)]) dX3_tokenCount_37 rfl (by decide) rfl ?_
            refine bf_iinc 2 (v := _ + (1 : Int32)) (lv2 := [(2, .int _), (1, .int _), (0, .ref _)]) dX3_tokenCount_38 rfl (by rfl) (by decide) rfl ?_
            refine bf_goto 4 dX3_tokenCount_41 (by decide) ?_
            refine bf_perm [2, 1, 0] rfl ?_
            exact ih _ _ _ _ hf
          · exact absurd ((if_neg c4).symm.trans hf) (by simp)
      · exact absurd ((if_neg c2).symm.trans hf) (by simp)
def f_X3_tokenCount (o : Nat) (I : Nat → Nat → Int32) (L : Nat → Nat → Int64) : Option (Int32 × bf_St) :=
  (f_X3_tokenCount_4 o (fun k1_5 I5 L5 => (some (k1_5, I5, L5))) 400 (0 : Int32) (0 : Int32) I L)
set_option maxRecDepth 100000 in
set_option maxHeartbeats 4000000 in
theorem ok_X3_tokenCount {Γ : bf_Gm} {ad : Nat → Nat} {o : Nat} {I : Nat → Nat → Int32} {L : Nat → Nat → Int64} (hk : bf_kd o = 3) {r : Int32 × bf_St} (hf : f_X3_tokenCount o I L = some r) : bf_Cn Γ 0 mu_X3_tokenCount 0 0 [.ref (ad o)] (bf_S ad I L) (fun q h => q = some (.int r.1) ∧ h = bf_S ad r.2.1 r.2.2) := by
  refine bf_met rfl (Nat.le_of_ble_eq_true rfl) ?_
  unfold f_X3_tokenCount at hf
  refine bf_iconst (v := 0) dX3_tokenCount_0 (by decide) ?_
  refine bf_istore_n (lv2 := [(1, .int _), (0, .ref _)]) dX3_tokenCount_1 rfl (by decide) rfl ?_
  refine bf_iconst (v := 0) dX3_tokenCount_2 (by decide) ?_
  refine bf_istore_n (lv2 := [(2, .int _), (1, .int _), (0, .ref _)]) dX3_tokenCount_3 rfl (by decide) rfl ?_
  refine bf_perm [2, 1, 0] rfl ?_
  refine ok_X3_tokenCount_4 hk (fun k1_5 I5 L5 hf => ?_) _ _ _ _ _  hf
  refine bf_iload_n 0 dX3_tokenCount_44 rfl rfl ?_
  obtain rfl := Option.some.inj hf
  exact bf_iret dX3_tokenCount_45 rfl (Nat.le_refl _) (Nat.le_refl _) ⟨rfl, rfl⟩
def f_X10_holds (o : Nat) (a0 : Int32) (I : Nat → Nat → Int32) (L : Nat → Nat → Int64) : Option (Int32 × bf_St) :=
  (if a0 < 0 then (some ((0 : Int32), I, L)) else (if (I o 5) ≤ a0 then (some ((0 : Int32), I, L)) else (some ((1 : Int32), I, L))))
set_option maxRecDepth 100000 in
set_option maxHeartbeats 4000000 in
theorem ok_X10_holds {Γ : bf_Gm} {ad : Nat → Nat} {o : Nat} {a0 : Int32} {I : Nat → Nat → Int32} {L : Nat → Nat → Int64} (hk : bf_kd o = 10) {r : Int32 × bf_St} (hf : f_X10_holds o a0 I L = some r) : bf_Cn Γ 0 mu_X10_holds 0 0 [.ref (ad o), .int a0] (bf_S ad I L) (fun q h => q = some (.int r.1) ∧ h = bf_S ad r.2.1 r.2.2) := by
  refine bf_met rfl (Nat.le_of_ble_eq_true rfl) ?_
  unfold f_X10_holds at hf
  refine bf_iload_n 1 dX10_holds_0 rfl rfl ?_
  refine bf_if_lt 16 dX10_holds_1 (by decide) (fun c1 => ?_) (fun c1 => ?_)
  · have hf := (if_pos c1).symm.trans hf
    refine bf_iconst (v := 0) dX10_holds_16 (by decide) ?_
    obtain rfl := Option.some.inj hf
    exact bf_zret dX10_holds_17 rfl rfl (Nat.le_refl _) (Nat.le_refl _) ⟨rfl, rfl⟩
  · have hf := (if_neg c1).symm.trans hf
    refine bf_iload_n 1 dX10_holds_4 rfl rfl ?_
    refine bf_aload_n 0 dX10_holds_5 rfl rfl ?_
    refine fg_X10_35 dX10_holds_6 rfl hk ?_
    refine bf_icmp_ge 16 dX10_holds_9 (by decide) (fun c2 => ?_) (fun c2 => ?_)
    · have hf := (if_pos c2).symm.trans hf
      refine bf_iconst (v := 0) dX10_holds_16 (by decide) ?_
      obtain rfl := Option.some.inj hf
      exact bf_zret dX10_holds_17 rfl rfl (Nat.le_refl _) (Nat.le_refl _) ⟨rfl, rfl⟩
    · have hf := (if_neg c2).symm.trans hf
      refine bf_iconst (v := 1) dX10_holds_12 (by decide) ?_
      refine bf_goto 17 dX10_holds_13 (by decide) ?_
      obtain rfl := Option.some.inj hf
      exact bf_zret dX10_holds_17 rfl rfl (Nat.le_refl _) (Nat.le_refl _) ⟨rfl, rfl⟩
def f_X10_tokenAt (o : Nat) (a0 : Int32) (I : Nat → Nat → Int32) (L : Nat → Nat → Int64) : Option (Int32 × bf_St) :=
  ((f_X10_holds o a0 I L).bind (fun r2 => (if r2.1 = 0 then (some ((0 : Int32), r2.2.1, r2.2.2)) else ((f_X10_placeOf o a0 r2.2.1 r2.2.2).bind (fun r5 => (if bf_ok r5.1 99 then (some ((r5.2.1 (o + 1) r5.1.toNatClampNeg), r5.2.1, r5.2.2)) else none))))))
set_option maxRecDepth 100000 in
set_option maxHeartbeats 4000000 in
theorem ok_X10_tokenAt {Γ : bf_Gm} {ad : Nat → Nat} {o : Nat} {a0 : Int32} {I : Nat → Nat → Int32} {L : Nat → Nat → Int64} (hk : bf_kd o = 10) {r : Int32 × bf_St} (hf : f_X10_tokenAt o a0 I L = some r) : bf_Cn Γ 1 mu_X10_tokenAt 0 0 [.ref (ad o), .int a0] (bf_S ad I L) (fun q h => q = some (.int r.1) ∧ h = bf_S ad r.2.1 r.2.2) := by
  refine bf_met rfl (Nat.le_of_ble_eq_true rfl) ?_
  unfold f_X10_tokenAt at hf
  refine bf_aload_n 0 dX10_tokenAt_0 rfl rfl ?_
  refine bf_iload_n 1 dX10_tokenAt_1 rfl rfl ?_
  obtain ⟨r2, e1, hf⟩ := bf_bind hf
  have hCe1 := ok_X10_holds (Γ := Γ) (ad := ad) hk e1
  refine cv_X10_54 0 dX10_tokenAt_2 rfl ⟨Nat.le_of_ble_eq_true rfl, Nat.le_of_ble_eq_true rfl⟩ (Nat.le_of_ble_eq_true rfl) hk hCe1 ?_
  refine bf_if_eq 21 dX10_tokenAt_5 (by decide) (fun c3 => ?_) (fun c3 => ?_)
  · have hf := (if_pos c3).symm.trans hf
    refine bf_iconst (v := 0) dX10_tokenAt_21 (by decide) ?_
    obtain rfl := Option.some.inj hf
    exact bf_iret dX10_tokenAt_22 rfl (Nat.le_refl _) (Nat.le_refl _) ⟨rfl, rfl⟩
  · have hf := (if_neg c3).symm.trans hf
    refine bf_aload_n 0 dX10_tokenAt_8 rfl rfl ?_
    refine fg_X10_9 dX10_tokenAt_9 rfl hk ?_
    refine bf_aload_n 0 dX10_tokenAt_12 rfl rfl ?_
    refine bf_iload_n 1 dX10_tokenAt_13 rfl rfl ?_
    obtain ⟨r5, e4, hf⟩ := bf_bind hf
    have hCe4 := ok_X10_placeOf (Γ := Γ) (ad := ad) hk e4
    refine cv_X10_57 0 dX10_tokenAt_14 rfl ⟨Nat.le_of_ble_eq_true rfl, Nat.le_of_ble_eq_true rfl⟩ (Nat.le_of_ble_eq_true rfl) hk hCe4 ?_
    rcases Decidable.em (bf_ok r5.1 99) with c6 | c6
    · have hf := (if_pos c6).symm.trans hf
      refine bf_iald dX10_tokenAt_17 (kr_10_7 hk) (by rw [(kl_10_7 hk)]; exact c6) ?_
      refine bf_goto 22 dX10_tokenAt_18 (by decide) ?_
      obtain rfl := Option.some.inj hf
      exact bf_iret dX10_tokenAt_22 rfl (Nat.le_refl _) (Nat.le_refl _) ⟨rfl, rfl⟩
    · exact absurd ((if_neg c6).symm.trans hf) (by simp)
def f_X3_valuesTogether_40 (v0 : Nat) (v3 : Int32) (v4 : Nat) (v5 : Int32) (K : Int64 → (Nat → Nat → Int32) → (Nat → Nat → Int64) → Option (Int64 × bf_St)) : Nat → Int64 → Int32 → (Nat → Nat → Int32) → (Nat → Nat → Int64) → Option (Int64 × bf_St)
  | 0, _, _, _, _ => none
  | n + 1, v1, v6, I, L =>
    (if v5 ≤ v6 then (K v1 I L) else ((f_X10_tokenAt v4 v6 I L).bind (fun r6 => (f_X3_valuesTogether_40 v0 v3 v4 v5 K n (v1 + (r6.1).toInt64) (v6 + (1 : Int32)) r6.2.1 r6.2.2))))
set_option maxRecDepth 100000 in
set_option maxHeartbeats 4000000 in
theorem ok_X3_valuesTogether_40 {Γ : bf_Gm} {ad : Nat → Nat} {v0 : Nat} {v3 : Int32} {v4 : Nat} {v5 : Int32} (hv0 : bf_kd v0 = 3) (hv4 : bf_kd v4 = 10) {r : Int64 × bf_St} {K : Int64 → (Nat → Nat → Int32) → (Nat → Nat → Int64) → Option (Int64 × bf_St)} (hK : ∀ (v1 : Int64) (I : Nat → Nat → Int32) (L : Nat → Nat → Int64), K v1 I L = some r → bf_Go Γ (bf_rm 2 0 0) mu_X3_valuesTogether bf_E0 (bf_Z Γ (fun q h => q = some (.long r.1) ∧ h = bf_S ad r.2.1 r.2.2) 0 0) (0, 0) 64 [(0, .ref (ad v0)), (1, .long v1), (3, .int v3)] [] (bf_S ad I L)) : ∀ (n : Nat) (v1 : Int64) (v6 : Int32) (I : Nat → Nat → Int32) (L : Nat → Nat → Int64), f_X3_valuesTogether_40 v0 v3 v4 v5 K n v1 v6 I L = some r → bf_Go Γ (bf_rm 2 0 0) mu_X3_valuesTogether bf_E0 (bf_Z Γ (fun q h => q = some (.long r.1) ∧ h = bf_S ad r.2.1 r.2.2) 0 0) (0, 0) 40 [(0, .ref (ad v0)), (1, .long v1), (3, .int v3), (4, .ref (ad v4)), (5, .int v5), (6, .int v6)] [] (bf_S ad I L) := by
  intro n
  induction n with
  | zero => intro v1 v6 I L hf; exact absurd (show none = some r from hf) (by simp)
  | succ n ih =>
    intro v1 v6 I L hf
    rw [f_X3_valuesTogether_40] at hf
    refine bf_iload 5 dX3_valuesTogether_40 rfl ?_
    refine bf_iload 4 dX3_valuesTogether_42 rfl ?_
    refine bf_icmp_ge 64 dX3_valuesTogether_44 (by decide) (fun c4 => ?_) (fun c4 => ?_)
    · have hf := (if_pos c4).symm.trans hf
      refine bf_perm [0, 1, 2] rfl ?_
      exact hK _ _ _ hf
    · have hf := (if_neg c4).symm.trans hf
      refine bf_lload_n 1 dX3_valuesTogether_47 rfl rfl ?_
      refine bf_aload 3 dX3_valuesTogether_48 rfl ?_
      refine bf_iload 5 dX3_valuesTogether_50 rfl ?_
      obtain ⟨r6, e5, hf⟩ := bf_bind hf
      have hCe5 := ok_X10_tokenAt (Γ := Γ) (ad := ad) hv4 e5
      refine cv_X3_111 1 dX3_valuesTogether_52 rfl ⟨Nat.le_of_ble_eq_true rfl, Nat.le_of_ble_eq_true rfl⟩ (Nat.le_of_ble_eq_true rfl) hv4 hCe5 ?_
      refine bf_i2l dX3_valuesTogether_55 ?_
      refine bf_ladd dX3_valuesTogether_56 ?_
      refine bf_lstore_n (lv2 := [(1, .long _), (0, .ref _), (3, .int _), (4, .ref _), (5, .int _), (6, .int _)]) dX3_valuesTogether_57 rfl (by decide) rfl ?_
      refine bf_iinc 5 (v := _ + (1 : Int32)) (lv2 := [(6, .int _), (1, .long _), (0, .ref _), (3, .int _), (4, .ref _), (5, .int _)]) dX3_valuesTogether_58 rfl (by rfl) (by decide) rfl ?_
      refine bf_goto 40 dX3_valuesTogether_61 (by decide) ?_
      refine bf_perm [2, 1, 3, 4, 5, 0] rfl ?_
      exact ih _ _ _ _ hf
def f_X3_valuesTogether_4 (v0 : Nat) (K : Int64 → (Nat → Nat → Int32) → (Nat → Nat → Int64) → Option (Int64 × bf_St)) : Nat → Int64 → Int32 → (Nat → Nat → Int32) → (Nat → Nat → Int64) → Option (Int64 × bf_St)
  | 0, _, _, _, _ => none
  | n + 1, v1, v3, I, L =>
    (if (8 : Int32) ≤ v3 then (K v1 I L) else (if bf_ok v3 8 then (if (I ((v0 + 8) + 1 + 2 * v3.toNatClampNeg) 4) = 0 then (f_X3_valuesTogether_40 v0 v3 ((v0 + 8) + 1 + 2 * v3.toNatClampNeg) (0 : Int32) (fun k1_7 I7 L7 => (f_X3_valuesTogether_4 v0 K n k1_7 (v3 + (1 : Int32)) I7 L7)) 400 v1 (0 : Int32) I L) else (f_X3_valuesTogether_40 v0 v3 ((v0 + 8) + 1 + 2 * v3.toNatClampNeg) (I ((v0 + 8) + 1 + 2 * v3.toNatClampNeg) 5) (fun k1_8 I8 L8 => (f_X3_valuesTogether_4 v0 K n k1_8 (v3 + (1 : Int32)) I8 L8)) 400 v1 (0 : Int32) I L)) else none))
set_option maxRecDepth 100000 in
set_option maxHeartbeats 4000000 in
theorem ok_X3_valuesTogether_4 {Γ : bf_Gm} {ad : Nat → Nat} {v0 : Nat} (hv0 : bf_kd v0 = 3) {r : Int64 × bf_St} {K : Int64 → (Nat → Nat → Int32) → (Nat → Nat → Int64) → Option (Int64 × bf_St)} (hK : ∀ (v1 : Int64) (I : Nat → Nat → Int32) (L : Nat → Nat → Int64), K v1 I L = some r → bf_Go Γ (bf_rm 2 0 0) mu_X3_valuesTogether bf_E0 (bf_Z Γ (fun q h => q = some (.long r.1) ∧ h = bf_S ad r.2.1 r.2.2) 0 0) (0, 0) 70 [(1, .long v1)] [] (bf_S ad I L)) : ∀ (n : Nat) (v1 : Int64) (v3 : Int32) (I : Nat → Nat → Int32) (L : Nat → Nat → Int64), f_X3_valuesTogether_4 v0 K n v1 v3 I L = some r → bf_Go Γ (bf_rm 2 0 0) mu_X3_valuesTogether bf_E0 (bf_Z Γ (fun q h => q = some (.long r.1) ∧ h = bf_S ad r.2.1 r.2.2) 0 0) (0, 0) 4 [(0, .ref (ad v0)), (1, .long v1), (3, .int v3)] [] (bf_S ad I L) := by
  intro n
  induction n with
  | zero => intro v1 v3 I L hf; exact absurd (show none = some r from hf) (by simp)
  | succ n ih =>
    intro v1 v3 I L hf
    rw [f_X3_valuesTogether_4] at hf
    refine bf_iload_n 2 dX3_valuesTogether_4 rfl rfl ?_
    refine bf_bipush (v := 8) dX3_valuesTogether_5 (by decide) ?_
    refine bf_icmp_ge 70 dX3_valuesTogether_7 (by decide) (fun c1 => ?_) (fun c1 => ?_)
    · have hf := (if_pos c1).symm.trans hf
      refine bf_perm [1] rfl ?_
      exact hK _ _ _ hf
    · have hf := (if_neg c1).symm.trans hf
      refine bf_aload_n 0 dX3_valuesTogether_10 rfl rfl ?_
      refine fg_X3_20 dX3_valuesTogether_11 rfl hv0 ?_
      refine bf_iload_n 2 dX3_valuesTogether_14 rfl rfl ?_
      rcases Decidable.em (bf_ok v3 8) with c2 | c2
      · have hf := (if_pos c2).symm.trans hf
        refine al_19 dX3_valuesTogether_15 (kr_3_1 hv0) (by rw [(la_19 (kr_3_1 hv0))]; exact c2) ?_
        refine bf_astore (lv2 := [(4, .ref _), (0, .ref _), (1, .long _), (3, .int _)]) dX3_valuesTogether_16 (by decide) rfl ?_
        refine bf_aload 0 dX3_valuesTogether_18 rfl ?_
        refine fg_X3_39 dX3_valuesTogether_20 rfl (ka_19 (kr_3_1 hv0) ((by rw [(la_19 (kr_3_1 hv0))]; exact c2) : bf_ok _ _).2) ?_
        refine bf_if_eq 34 dX3_valuesTogether_23 (by decide) (fun c3 => ?_) (fun c3 => ?_)
        · have hf := (if_pos c3).symm.trans hf
          refine bf_iconst (v := 0) dX3_valuesTogether_34 (by decide) ?_
          refine bf_istore (lv2 := [(5, .int _), (4, .ref _), (0, .ref _), (1, .long _), (3, .int _)]) dX3_valuesTogether_35 (by decide) rfl ?_
          refine bf_iconst (v := 0) dX3_valuesTogether_37 (by decide) ?_
          refine bf_istore (lv2 := [(6, .int _), (5, .int _), (4, .ref _), (0, .ref _), (1, .long _), (3, .int _)]) dX3_valuesTogether_38 (by decide) rfl ?_
          refine bf_perm [3, 4, 5, 2, 1, 0] rfl ?_
          refine ok_X3_valuesTogether_40 hv0 (ka_19 (kr_3_1 hv0) ((by rw [(la_19 (kr_3_1 hv0))]; exact c2) : bf_ok _ _).2) (fun k1_7 I7 L7 hf => ?_) _ _ _ _ _  hf
          refine bf_iinc 2 (v := _ + (1 : Int32)) (lv2 := [(3, .int _), (0, .ref _), (1, .long _)]) dX3_valuesTogether_64 rfl (by rfl) (by decide) rfl ?_
          refine bf_goto 4 dX3_valuesTogether_67 (by decide) ?_
          refine bf_perm [1, 2, 0] rfl ?_
          exact ih _ _ _ _ hf
        · have hf := (if_neg c3).symm.trans hf
          refine bf_aload 0 dX3_valuesTogether_26 rfl ?_
          refine fg_X3_108 dX3_valuesTogether_28 rfl (ka_19 (kr_3_1 hv0) ((by rw [(la_19 (kr_3_1 hv0))]; exact c2) : bf_ok _ _).2) ?_
          refine bf_goto 35 dX3_valuesTogether_31 (by decide) ?_
          refine bf_istore (lv2 := [(5, .int _), (4, .ref _), (0, .ref _), (1, .long _), (3, .int _)]) dX3_valuesTogether_35 (by decide) rfl ?_
          refine bf_iconst (v := 0) dX3_valuesTogether_37 (by decide) ?_
          refine bf_istore (lv2 := [(6, .int _), (5, .int _), (4, .ref _), (0, .ref _), (1, .long _), (3, .int _)]) dX3_valuesTogether_38 (by decide) rfl ?_
          refine bf_perm [3, 4, 5, 2, 1, 0] rfl ?_
          refine ok_X3_valuesTogether_40 hv0 (ka_19 (kr_3_1 hv0) ((by rw [(la_19 (kr_3_1 hv0))]; exact c2) : bf_ok _ _).2) (fun k1_8 I8 L8 hf => ?_) _ _ _ _ _  hf
          refine bf_iinc 2 (v := _ + (1 : Int32)) (lv2 := [(3, .int _), (0, .ref _), (1, .long _)]) dX3_valuesTogether_64 rfl (by rfl) (by decide) rfl ?_
          refine bf_goto 4 dX3_valuesTogether_67 (by decide) ?_
          refine bf_perm [1, 2, 0] rfl ?_
          exact ih _ _ _ _ hf
      · exact absurd ((if_neg c2).symm.trans hf) (by simp)
def f_X3_valuesTogether (o : Nat) (I : Nat → Nat → Int32) (L : Nat → Nat → Int64) : Option (Int64 × bf_St) :=
  (f_X3_valuesTogether_4 o (fun k1_9 I9 L9 => (some (k1_9, I9, L9))) 400 (0 : Int64) (0 : Int32) I L)
set_option maxRecDepth 100000 in
set_option maxHeartbeats 4000000 in
theorem ok_X3_valuesTogether {Γ : bf_Gm} {ad : Nat → Nat} {o : Nat} {I : Nat → Nat → Int32} {L : Nat → Nat → Int64} (hk : bf_kd o = 3) {r : Int64 × bf_St} (hf : f_X3_valuesTogether o I L = some r) : bf_Cn Γ 2 mu_X3_valuesTogether 0 0 [.ref (ad o)] (bf_S ad I L) (fun q h => q = some (.long r.1) ∧ h = bf_S ad r.2.1 r.2.2) := by
  refine bf_met rfl (Nat.le_of_ble_eq_true rfl) ?_
  unfold f_X3_valuesTogether at hf
  refine bf_lconst (v := 0) dX3_valuesTogether_0 (by decide) ?_
  refine bf_lstore_n (lv2 := [(1, .long _), (0, .ref _)]) dX3_valuesTogether_1 rfl (by decide) rfl ?_
  refine bf_iconst (v := 0) dX3_valuesTogether_2 (by decide) ?_
  refine bf_istore_n (lv2 := [(3, .int _), (1, .long _), (0, .ref _)]) dX3_valuesTogether_3 rfl (by decide) rfl ?_
  refine bf_perm [2, 1, 0] rfl ?_
  refine ok_X3_valuesTogether_4 hk (fun k1_9 I9 L9 hf => ?_) _ _ _ _ _  hf
  refine bf_lload_n 0 dX3_valuesTogether_70 rfl rfl ?_
  obtain rfl := Option.some.inj hf
  exact bf_lret dX3_valuesTogether_71 rfl (Nat.le_refl _) (Nat.le_refl _) ⟨rfl, rfl⟩
def f_X4_raiseMost_4 (v0 : Nat) (v1 : Int32) (K : Int32 → (Nat → Nat → Int32) → (Nat → Nat → Int64) → Option (Int32 × bf_St)) : Nat → Int32 → Int32 → (Nat → Nat → Int32) → (Nat → Nat → Int64) → Option (Int32 × bf_St)
  | 0, _, _, _, _ => none
  | n + 1, v2, v3, I, L =>
    (if (8 : Int32) ≤ v3 then (K v2 I L) else (if bf_ok v1 9 then (if bf_ok v3 8 then (if bf_ok v3 8 then (if bf_ok (v1 + (1 : Int32)) 9 then (if bf_ok v3 8 then (f_X4_raiseMost_4 v0 v1 K n (v2 + (bf_max (I ((v0 + 4) + 1 + v1.toNatClampNeg) v3.toNatClampNeg) (I ((v0 + 1) + 1) v3.toNatClampNeg))) (v3 + (1 : Int32)) (bf_u I ((v0 + 4) + 1 + (v1 + (1 : Int32)).toNatClampNeg) v3.toNatClampNeg (bf_max (I ((v0 + 4) + 1 + v1.toNatClampNeg) v3.toNatClampNeg) (I ((v0 + 1) + 1) v3.toNatClampNeg))) L) else none) else none) else none) else none) else none))
set_option maxRecDepth 100000 in
set_option maxHeartbeats 4000000 in
theorem ok_X4_raiseMost_4 {Γ : bf_Gm} {ad : Nat → Nat} {v0 : Nat} {v1 : Int32} (hv0 : bf_kd v0 = 4) {r : Int32 × bf_St} {K : Int32 → (Nat → Nat → Int32) → (Nat → Nat → Int64) → Option (Int32 × bf_St)} (hK : ∀ (v2 : Int32) (I : Nat → Nat → Int32) (L : Nat → Nat → Int64), K v2 I L = some r → bf_Go Γ (bf_rm 1 0 0) mu_X4_raiseMost bf_E0 (bf_Z Γ (fun q h => q = some (.int r.1) ∧ h = bf_S ad r.2.1 r.2.2) 0 0) (0, 0) 55 [(2, .int v2)] [] (bf_S ad I L)) : ∀ (n : Nat) (v2 : Int32) (v3 : Int32) (I : Nat → Nat → Int32) (L : Nat → Nat → Int64), f_X4_raiseMost_4 v0 v1 K n v2 v3 I L = some r → bf_Go Γ (bf_rm 1 0 0) mu_X4_raiseMost bf_E0 (bf_Z Γ (fun q h => q = some (.int r.1) ∧ h = bf_S ad r.2.1 r.2.2) 0 0) (0, 0) 4 [(0, .ref (ad v0)), (1, .int v1), (2, .int v2), (3, .int v3)] [] (bf_S ad I L) := by
  intro n
  induction n with
  | zero => intro v2 v3 I L hf; exact absurd (show none = some r from hf) (by simp)
  | succ n ih =>
    intro v2 v3 I L hf
    rw [f_X4_raiseMost_4] at hf
    refine bf_iload_n 3 dX4_raiseMost_4 rfl rfl ?_
    refine bf_bipush (v := 8) dX4_raiseMost_5 (by decide) ?_
    refine bf_icmp_ge 55 dX4_raiseMost_7 (by decide) (fun c1 => ?_) (fun c1 => ?_)
    · have hf := (if_pos c1).symm.trans hf
      refine bf_perm [2] rfl ?_
      exact hK _ _ _ hf
    · have hf := (if_neg c1).symm.trans hf
      refine bf_aload_n 0 dX4_raiseMost_10 rfl rfl ?_
      refine fg_X4_24 dX4_raiseMost_11 rfl hv0 ?_
      refine bf_iload_n 1 dX4_raiseMost_14 rfl rfl ?_
      rcases Decidable.em (bf_ok v1 9) with c2 | c2
      · have hf := (if_pos c2).symm.trans hf
        refine al_20 dX4_raiseMost_15 (kr_4_2 hv0) (by rw [(la_20 (kr_4_2 hv0))]; exact c2) ?_
        refine bf_iload_n 3 dX4_raiseMost_16 rfl rfl ?_
        rcases Decidable.em (bf_ok v3 8) with c3 | c3
        · have hf := (if_pos c3).symm.trans hf
          refine bf_iald dX4_raiseMost_17 (ka_20 (kr_4_2 hv0) ((by rw [(la_20 (kr_4_2 hv0))]; exact c2) : bf_ok _ _).2) (by rw [(lb_20 (kr_4_2 hv0) ((by rw [(la_20 (kr_4_2 hv0))]; exact c2) : bf_ok _ _).2)]; exact c3) ?_
          refine bf_aload_n 0 dX4_raiseMost_18 rfl rfl ?_
          refine fg_X4_12 dX4_raiseMost_19 rfl hv0 ?_
          refine fg_X4_53 dX4_raiseMost_22 rfl (kr_4_0 hv0) ?_
          refine bf_iload_n 3 dX4_raiseMost_25 rfl rfl ?_
          rcases Decidable.em (bf_ok v3 8) with c4 | c4
          · have hf := (if_pos c4).symm.trans hf
            refine bf_iald dX4_raiseMost_26 (kr_2_0 (kr_4_0 hv0)) (by rw [(kl_2_0 (kr_4_0 hv0))]; exact c4) ?_
            refine bf_mmax dX4_raiseMost_27 wl_X4_75 wt_Jmax wi_J9 wc_Jmax (Nat.le_of_ble_eq_true rfl) (Nat.le_of_ble_eq_true rfl) (Nat.zero_le _) (Nat.zero_le _) ?_
            refine bf_istore (lv2 := [(4, .int _), (0, .ref _), (1, .int _), (2, .int _), (3, .int _)]) dX4_raiseMost_30 (by decide) rfl ?_
            refine bf_aload_n 1 dX4_raiseMost_32 rfl rfl ?_
            refine fg_X4_24 dX4_raiseMost_33 rfl hv0 ?_
            refine bf_iload_n 2 dX4_raiseMost_36 rfl rfl ?_
            refine bf_iconst (v := 1) dX4_raiseMost_37 (by decide) ?_
            refine bf_iadd dX4_raiseMost_38 ?_
            rcases Decidable.em (bf_ok (v1 + (1 : Int32)) 9) with c5 | c5
            · have hf := (if_pos c5).symm.trans hf
              refine al_20 dX4_raiseMost_39 (kr_4_2 hv0) (by rw [(la_20 (kr_4_2 hv0))]; exact c5) ?_
              refine bf_iload_n 4 dX4_raiseMost_40 rfl rfl ?_
              refine bf_iload 0 dX4_raiseMost_41 rfl ?_
              rcases Decidable.em (bf_ok v3 8) with c6 | c6
              · have hf := (if_pos c6).symm.trans hf
                refine bf_iast dX4_raiseMost_43 (ka_20 (kr_4_2 hv0) ((by rw [(la_20 (kr_4_2 hv0))]; exact c5) : bf_ok _ _).2) (by rw [(lb_20 (kr_4_2 hv0) ((by rw [(la_20 (kr_4_2 hv0))]; exact c5) : bf_ok _ _).2)]; exact c6) ?_
                refine bf_iload_n 3 dX4_raiseMost_44 rfl rfl ?_
                refine bf_iload 0 dX4_raiseMost_45 rfl ?_
                refine bf_iadd dX4_raiseMost_47 ?_
                refine bf_istore_n (lv2 := [(2, .int _), (4, .int _), (0, .ref _), (1, .int _), (3, .int _)]) dX4_raiseMost_48 rfl (by decide) rfl ?_
                refine bf_iinc 4 (v := _ + (1 : Int32)) (lv2 := [(3, .int _), (2, .int _), (4, .int _), (0, .ref _), (1, .int _)]) dX4_raiseMost_49 rfl (by rfl) (by decide) rfl ?_
                refine bf_goto 4 dX4_raiseMost_52 (by decide) ?_
                refine bf_perm [3, 4, 1, 0] rfl ?_
                exact ih _ _ _ _ hf
              · exact absurd ((if_neg c6).symm.trans hf) (by simp)
            · exact absurd ((if_neg c5).symm.trans hf) (by simp)
          · exact absurd ((if_neg c4).symm.trans hf) (by simp)
        · exact absurd ((if_neg c3).symm.trans hf) (by simp)
      · exact absurd ((if_neg c2).symm.trans hf) (by simp)
def f_X4_raiseMost (o : Nat) (a0 : Int32) (I : Nat → Nat → Int32) (L : Nat → Nat → Int64) : Option (Int32 × bf_St) :=
  (f_X4_raiseMost_4 o a0 (fun k2_7 I7 L7 => (some (k2_7, I7, L7))) 400 (0 : Int32) (0 : Int32) I L)
set_option maxRecDepth 100000 in
set_option maxHeartbeats 4000000 in
theorem ok_X4_raiseMost {Γ : bf_Gm} {ad : Nat → Nat} {o : Nat} {a0 : Int32} {I : Nat → Nat → Int32} {L : Nat → Nat → Int64} (hk : bf_kd o = 4) {r : Int32 × bf_St} (hf : f_X4_raiseMost o a0 I L = some r) : bf_Cn Γ 1 mu_X4_raiseMost 0 0 [.ref (ad o), .int a0] (bf_S ad I L) (fun q h => q = some (.int r.1) ∧ h = bf_S ad r.2.1 r.2.2) := by
  refine bf_met rfl (Nat.le_of_ble_eq_true rfl) ?_
  unfold f_X4_raiseMost at hf
  refine bf_iconst (v := 0) dX4_raiseMost_0 (by decide) ?_
  refine bf_istore_n (lv2 := [(2, .int _), (0, .ref _), (1, .int _)]) dX4_raiseMost_1 rfl (by decide) rfl ?_
  refine bf_iconst (v := 0) dX4_raiseMost_2 (by decide) ?_
  refine bf_istore_n (lv2 := [(3, .int _), (2, .int _), (0, .ref _), (1, .int _)]) dX4_raiseMost_3 rfl (by decide) rfl ?_
  refine bf_perm [2, 3, 1, 0] rfl ?_
  refine ok_X4_raiseMost_4 hk (fun k2_7 I7 L7 hf => ?_) _ _ _ _ _  hf
  refine bf_iload_n 0 dX4_raiseMost_55 rfl rfl ?_
  obtain rfl := Option.some.inj hf
  exact bf_iret dX4_raiseMost_56 rfl (Nat.le_refl _) (Nat.le_refl _) ⟨rfl, rfl⟩
