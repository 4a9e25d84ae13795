def f_X12_planGoes_p56 (v0 : Nat) (v1 : Int32) (v2 : Int32) (I : Nat → Nat → Int32) (L : Nat → Nat → Int64) : Option (bf_St) :=
  (if v1 = (2 : Int32) then (if bf_ok (((5 : Int32) + ((3 : Int32) * v2)) + (1 : Int32)) 914 then (some ((bf_u I (v0 + 1) (((5 : Int32) + ((3 : Int32) * v2)) + (1 : Int32)).toNatClampNeg (0 : Int32)), L)) else none) else (if v1 = (3 : Int32) then ((f_X12_isEven v0 I L).bind (fun r6 => (if r6.1 = 0 then (some (r6.2.1, r6.2.2)) else ((f_X12_periods v0 (1 : Int32) r6.2.1 r6.2.2).bind (fun r9 => (some (r9.2.1, r9.2.2))))))) else (some (I, L))))
set_option maxRecDepth 100000 in
set_option maxHeartbeats 4000000 in
theorem ok_X12_planGoes_p56 {Γ : bf_Gm} {ad : Nat → Nat} {v0 : Nat} {v1 : Int32} {v2 : Int32} {I : Nat → Nat → Int32} {L : Nat → Nat → Int64} (hv0 : bf_kd v0 = 12) {r : bf_St} (hf : f_X12_planGoes_p56 v0 v1 v2 I L = some r) : bf_Go Γ (bf_rm 6 0 0) mu_X12_planGoes bf_E0 (bf_Z Γ (fun q h => q = none ∧ h = bf_S ad r.1 r.2) 0 0) (0, 0) 56 [(0, .ref (ad v0)), (1, .int v1), (2, .int v2)] [] (bf_S ad I L) := by
  unfold f_X12_planGoes_p56 at hf
  refine bf_iload_n 1 dX12_planGoes_56 rfl rfl ?_
  refine bf_iconst (v := 2) dX12_planGoes_57 (by decide) ?_
  refine bf_icmp_ne 77 dX12_planGoes_58 (by decide) (fun c3 => ?_) (fun c3 => ?_)
  · have hf := (if_neg c3).symm.trans hf
    refine bf_iload_n 1 dX12_planGoes_77 rfl rfl ?_
    refine bf_iconst (v := 3) dX12_planGoes_78 (by decide) ?_
    refine bf_icmp_ne 95 dX12_planGoes_79 (by decide) (fun c4 => ?_) (fun c4 => ?_)
    · have hf := (if_neg c4).symm.trans hf
      obtain rfl := Option.some.inj hf
      exact bf_vret dX12_planGoes_95 rfl (Nat.le_refl _) (Nat.le_refl _) ⟨rfl, rfl⟩
    · have hf := (if_pos c4).symm.trans hf
      refine bf_aload_n 0 dX12_planGoes_82 rfl rfl ?_
      obtain ⟨r6, e5, hf⟩ := bf_bind hf
      have hCe5 := ok_X12_isEven (Γ := Γ) (ad := ad) hv0 e5
      refine cv_X12_220 3 dX12_planGoes_83 rfl ⟨Nat.le_of_ble_eq_true rfl, Nat.le_of_ble_eq_true rfl⟩ (Nat.le_of_ble_eq_true rfl) hv0 hCe5 ?_
      refine bf_if_eq 95 dX12_planGoes_86 (by decide) (fun c7 => ?_) (fun c7 => ?_)
      · have hf := (if_pos c7).symm.trans hf
        obtain rfl := Option.some.inj hf
        exact bf_vret dX12_planGoes_95 rfl (Nat.le_refl _) (Nat.le_refl _) ⟨rfl, rfl⟩
      · have hf := (if_neg c7).symm.trans hf
        refine bf_aload_n 0 dX12_planGoes_89 rfl rfl ?_
        refine bf_iconst (v := 1) dX12_planGoes_90 (by decide) ?_
        obtain ⟨r9, e8, hf⟩ := bf_bind hf
        have hCe8 := ok_X12_periods (Γ := Γ) (ad := ad) hv0 e8
        refine cv_X12_223 5 dX12_planGoes_91 rfl ⟨Nat.le_of_ble_eq_true rfl, Nat.le_of_ble_eq_true rfl⟩ (Nat.le_of_ble_eq_true rfl) hv0 hCe8 ?_
        refine bf_istore_n (lv2 := [(3, .int _), (0, .ref _), (1, .int _), (2, .int _)]) dX12_planGoes_94 rfl (by decide) rfl ?_
        obtain rfl := Option.some.inj hf
        exact bf_vret dX12_planGoes_95 rfl (Nat.le_refl _) (Nat.le_refl _) ⟨rfl, rfl⟩
  · have hf := (if_pos c3).symm.trans hf
    refine bf_aload_n 0 dX12_planGoes_61 rfl rfl ?_
    refine fg_X12_11 dX12_planGoes_62 rfl hv0 ?_
    refine bf_iconst (v := 5) dX12_planGoes_65 (by decide) ?_
    refine bf_iconst (v := 3) dX12_planGoes_66 (by decide) ?_
    refine bf_iload_n 2 dX12_planGoes_67 rfl rfl ?_
    refine bf_imul dX12_planGoes_68 ?_
    refine bf_iadd dX12_planGoes_69 ?_
    refine bf_iconst (v := 1) dX12_planGoes_70 (by decide) ?_
    refine bf_iadd dX12_planGoes_71 ?_
    refine bf_iconst (v := 0) dX12_planGoes_72 (by decide) ?_
    rcases Decidable.em (bf_ok (((5 : Int32) + ((3 : Int32) * v2)) + (1 : Int32)) 914) with c10 | c10
    · have hf := (if_pos c10).symm.trans hf
      refine bf_iast dX12_planGoes_73 (kr_12_0 hv0) (by rw [(kl_12_0 hv0)]; exact c10) ?_
      refine bf_goto 95 dX12_planGoes_74 (by decide) ?_
      obtain rfl := Option.some.inj hf
      exact bf_vret dX12_planGoes_95 rfl (Nat.le_refl _) (Nat.le_refl _) ⟨rfl, rfl⟩
    · exact absurd ((if_neg c10).symm.trans hf) (by simp)
def f_X12_planGoes (o : Nat) (a0 : Int32) (a1 : Int32) (I : Nat → Nat → Int32) (L : Nat → Nat → Int64) : Option (bf_St) :=
  (if a0 = 0 then ((f_X12_canFire o a1 I L).bind (fun r16 => (if r16.1 = 0 then (some (r16.2.1, r16.2.2)) else ((f_X12_fires o a1 r16.2.1 r16.2.2).bind (fun r19 => (some (r19.2.1, r19.2.2))))))) else (if a0 = (1 : Int32) then ((f_X12_isWire o a1 I L).bind (fun r12 => (if r12.1 = 0 then (f_X12_planGoes_p56 o a0 a1 r12.2.1 r12.2.2) else (if bf_ok (((74 : Int32) + ((105 : Int32) * a1)) + (5 : Int32)) 914 then (some ((bf_u r12.2.1 (o + 1) (((74 : Int32) + ((105 : Int32) * a1)) + (5 : Int32)).toNatClampNeg (0 : Int32)), r12.2.2)) else none)))) else (f_X12_planGoes_p56 o a0 a1 I L)))
set_option maxRecDepth 100000 in
set_option maxHeartbeats 4000000 in
theorem ok_X12_planGoes {Γ : bf_Gm} {ad : Nat → Nat} {o : Nat} {a0 : Int32} {a1 : Int32} {I : Nat → Nat → Int32} {L : Nat → Nat → Int64} (hk : bf_kd o = 12) {r : bf_St} (hf : f_X12_planGoes o a0 a1 I L = some r) : bf_Cn Γ 6 mu_X12_planGoes 0 0 [.ref (ad o), .int a0, .int a1] (bf_S ad I L) (fun q h => q = none ∧ h = bf_S ad r.1 r.2) := by
  refine bf_met rfl (Nat.le_of_ble_eq_true rfl) ?_
  unfold f_X12_planGoes at hf
  refine bf_iload_n 1 dX12_planGoes_0 rfl rfl ?_
  refine bf_if_ne 25 dX12_planGoes_1 (by decide) (fun c1 => ?_) (fun c1 => ?_)
  · have hf := (if_neg c1).symm.trans hf
    refine bf_iload_n 1 dX12_planGoes_25 rfl rfl ?_
    refine bf_iconst (v := 1) dX12_planGoes_26 (by decide) ?_
    refine bf_icmp_ne 56 dX12_planGoes_27 (by decide) (fun c2 => ?_) (fun c2 => ?_)
    · have hf := (if_neg c2).symm.trans hf
      exact ok_X12_planGoes_p56 hk  hf
    · have hf := (if_pos c2).symm.trans hf
      refine bf_aload_n 0 dX12_planGoes_30 rfl rfl ?_
      refine bf_iload_n 2 dX12_planGoes_31 rfl rfl ?_
      obtain ⟨r12, e11, hf⟩ := bf_bind hf
      have hCe11 := ok_X12_isWire (Γ := Γ) (ad := ad) hk e11
      refine cv_X12_73 1 dX12_planGoes_32 rfl ⟨Nat.le_of_ble_eq_true rfl, Nat.le_of_ble_eq_true rfl⟩ (Nat.le_of_ble_eq_true rfl) hk hCe11 ?_
      refine bf_if_eq 56 dX12_planGoes_35 (by decide) (fun c13 => ?_) (fun c13 => ?_)
      · have hf := (if_pos c13).symm.trans hf
        exact ok_X12_planGoes_p56 hk  hf
      · have hf := (if_neg c13).symm.trans hf
        refine bf_aload_n 0 dX12_planGoes_38 rfl rfl ?_
        refine fg_X12_11 dX12_planGoes_39 rfl hk ?_
        refine bf_bipush (v := 74) dX12_planGoes_42 (by decide) ?_
        refine bf_bipush (v := 105) dX12_planGoes_44 (by decide) ?_
        refine bf_iload_n 2 dX12_planGoes_46 rfl rfl ?_
        refine bf_imul dX12_planGoes_47 ?_
        refine bf_iadd dX12_planGoes_48 ?_
        refine bf_iconst (v := 5) dX12_planGoes_49 (by decide) ?_
        refine bf_iadd dX12_planGoes_50 ?_
        refine bf_iconst (v := 0) dX12_planGoes_51 (by decide) ?_
        rcases Decidable.em (bf_ok (((74 : Int32) + ((105 : Int32) * a1)) + (5 : Int32)) 914) with c14 | c14
        · have hf := (if_pos c14).symm.trans hf
          refine bf_iast dX12_planGoes_52 (kr_12_0 hk) (by rw [(kl_12_0 hk)]; exact c14) ?_
          refine bf_goto 95 dX12_planGoes_53 (by decide) ?_
          obtain rfl := Option.some.inj hf
          exact bf_vret dX12_planGoes_95 rfl (Nat.le_refl _) (Nat.le_refl _) ⟨rfl, rfl⟩
        · exact absurd ((if_neg c14).symm.trans hf) (by simp)
  · have hf := (if_pos c1).symm.trans hf
    refine bf_aload_n 0 dX12_planGoes_4 rfl rfl ?_
    refine bf_iload_n 2 dX12_planGoes_5 rfl rfl ?_
    obtain ⟨r16, e15, hf⟩ := bf_bind hf
    have hCe15 := ok_X12_canFire (Γ := Γ) (ad := ad) hk e15
    refine cv_X12_163 2 dX12_planGoes_6 rfl ⟨Nat.le_of_ble_eq_true rfl, Nat.le_of_ble_eq_true rfl⟩ (Nat.le_of_ble_eq_true rfl) hk hCe15 ?_
    refine bf_if_eq 20 dX12_planGoes_9 (by decide) (fun c17 => ?_) (fun c17 => ?_)
    · have hf := (if_pos c17).symm.trans hf
      refine bf_iconst (v := 0) dX12_planGoes_20 (by decide) ?_
      refine bf_istore_n (lv2 := [(3, .int _), (0, .ref _), (1, .int _), (2, .int _)]) dX12_planGoes_21 rfl (by decide) rfl ?_
      refine bf_goto 95 dX12_planGoes_22 (by decide) ?_
      obtain rfl := Option.some.inj hf
      exact bf_vret dX12_planGoes_95 rfl (Nat.le_refl _) (Nat.le_refl _) ⟨rfl, rfl⟩
    · have hf := (if_neg c17).symm.trans hf
      refine bf_aload_n 0 dX12_planGoes_12 rfl rfl ?_
      refine bf_iload_n 2 dX12_planGoes_13 rfl rfl ?_
      obtain ⟨r19, e18, hf⟩ := bf_bind hf
      have hCe18 := ok_X12_fires (Γ := Γ) (ad := ad) hk e18
      refine cv_X12_166 2 dX12_planGoes_14 rfl ⟨Nat.le_of_ble_eq_true rfl, Nat.le_of_ble_eq_true rfl⟩ (Nat.le_of_ble_eq_true rfl) hk hCe18 ?_
      refine bf_goto 21 dX12_planGoes_17 (by decide) ?_
      refine bf_istore_n (lv2 := [(3, .int _), (0, .ref _), (1, .int _), (2, .int _)]) dX12_planGoes_21 rfl (by decide) rfl ?_
      refine bf_goto 95 dX12_planGoes_22 (by decide) ?_
      obtain rfl := Option.some.inj hf
      exact bf_vret dX12_planGoes_95 rfl (Nat.le_refl _) (Nat.le_refl _) ⟨rfl, rfl⟩
def f_X12_ends_27 (v0 : Nat) (v1 : Int32) (K : (Nat → Nat → Int32) → (Nat → Nat → Int64) → Option (Int32 × bf_St)) : Nat → Int32 → (Nat → Nat → Int32) → (Nat → Nat → Int64) → Option (Int32 × bf_St)
  | 0, _, _, _ => none
  | n + 1, v2, I, L =>
    (if (I (v0 + 1) (3 : Int32).toNatClampNeg) ≤ v2 then (K I L) else (if bf_ok ((38 : Int32) + ((2 : Int32) * v2)) 914 then (if bf_ok (((38 : Int32) + ((2 : Int32) * v2)) + (1 : Int32)) 914 then ((f_X12_planGoes v0 (I (v0 + 1) ((38 : Int32) + ((2 : Int32) * v2)).toNatClampNeg) (I (v0 + 1) (((38 : Int32) + ((2 : Int32) * v2)) + (1 : Int32)).toNatClampNeg) I L).bind (fun r10 => (f_X12_ends_27 v0 v1 K n (v2 + (1 : Int32)) r10.1 r10.2))) else none) else none))
set_option maxRecDepth 100000 in
set_option maxHeartbeats 4000000 in
theorem ok_X12_ends_27 {Γ : bf_Gm} {ad : Nat → Nat} {v0 : Nat} {v1 : Int32} (hv0 : bf_kd v0 = 12) {r : Int32 × bf_St} {K : (Nat → Nat → Int32) → (Nat → Nat → Int64) → Option (Int32 × bf_St)} (hK : ∀ (I : Nat → Nat → Int32) (L : Nat → Nat → Int64), K  I L = some r → bf_Go Γ (bf_rm 7 0 0) mu_X12_ends bf_E0 (bf_Z Γ (fun q h => q = some (.int r.1) ∧ h = bf_S ad r.2.1 r.2.2) 0 0) (0, 0) 71 [(0, .ref (ad v0)), (1, .int v1)] [] (bf_S ad I L)) : ∀ (n : Nat) (v2 : Int32) (I : Nat → Nat → Int32) (L : Nat → Nat → Int64), f_X12_ends_27 v0 v1 K n v2 I L = some r → bf_Go Γ (bf_rm 7 0 0) mu_X12_ends bf_E0 (bf_Z Γ (fun q h => q = some (.int r.1) ∧ h = bf_S ad r.2.1 r.2.2) 0 0) (0, 0) 27 [(0, .ref (ad v0)), (1, .int v1), (2, .int v2)] [] (bf_S ad I L) := by
  intro n
  induction n with
  | zero => intro v2 I L hf; exact absurd (show none = some r from hf) (by simp)
  | succ n ih =>
    intro v2 I L hf
    rw [f_X12_ends_27] at hf
    refine bf_iload_n 2 dX12_ends_27 rfl rfl ?_
    refine bf_aload_n 0 dX12_ends_28 rfl rfl ?_
    refine fg_X12_11 dX12_ends_29 rfl hv0 ?_
    refine bf_iconst (v := 3) dX12_ends_32 (by decide) ?_
    refine bf_iald dX12_ends_33 (kr_12_0 hv0) (by rw [(kl_12_0 hv0)]; decide) ?_
    refine bf_icmp_ge 71 dX12_ends_34 (by decide) (fun c6 => ?_) (fun c6 => ?_)
    · have hf := (if_pos c6).symm.trans hf
      refine bf_perm [0, 1] rfl ?_
      exact hK _ _ hf
    · have hf := (if_neg c6).symm.trans hf
      refine bf_aload_n 0 dX12_ends_37 rfl rfl ?_
      refine bf_aload_n 0 dX12_ends_38 rfl rfl ?_
      refine fg_X12_11 dX12_ends_39 rfl hv0 ?_
      refine bf_bipush (v := 38) dX12_ends_42 (by decide) ?_
      refine bf_iconst (v := 2) dX12_ends_44 (by decide) ?_
      refine bf_iload_n 2 dX12_ends_45 rfl rfl ?_
      refine bf_imul dX12_ends_46 ?_
      refine bf_iadd dX12_ends_47 ?_
      rcases Decidable.em (bf_ok ((38 : Int32) + ((2 : Int32) * v2)) 914) with c7 | c7
      · have hf := (if_pos c7).symm.trans hf
        refine bf_iald dX12_ends_48 (kr_12_0 hv0) (by rw [(kl_12_0 hv0)]; exact c7) ?_
        refine bf_aload_n 0 dX12_ends_49 rfl rfl ?_
        refine fg_X12_11 dX12_ends_50 rfl hv0 ?_
        refine bf_bipush (v := 38) dX12_ends_53 (by decide) ?_
        refine bf_iconst (v := 2) dX12_ends_55 (by decide) ?_
        refine bf_iload_n 2 dX12_ends_56 rfl rfl ?_
        refine bf_imul dX12_ends_57 ?_
        refine bf_iadd dX12_ends_58 ?_
        refine bf_iconst (v := 1) dX12_ends_59 (by decide) ?_
        refine bf_iadd dX12_ends_60 ?_
        rcases Decidable.em (bf_ok (((38 : Int32) + ((2 : Int32) * v2)) + (1 : Int32)) 914) with c8 | c8
        · have hf := (if_pos c8).symm.trans hf
          refine bf_iald dX12_ends_61 (kr_12_0 hv0) (by rw [(kl_12_0 hv0)]; exact c8) ?_
          obtain ⟨r10, e9, hf⟩ := bf_bind hf
          have hCe9 := ok_X12_planGoes (Γ := Γ) (ad := ad) hv0 e9
          refine cv_X12_286 6 dX12_ends_62 rfl ⟨Nat.le_of_ble_eq_true rfl, Nat.le_of_ble_eq_true rfl⟩ (Nat.le_of_ble_eq_true rfl) hv0 hCe9 ?_
          refine bf_iinc 2 (v := _ + (1 : Int32)) (lv2 := [(2, .int _), (0, .ref _), (1, .int _)]) dX12_ends_65 rfl (by rfl) (by decide) rfl ?_
          refine bf_goto 27 dX12_ends_68 (by decide) ?_
          refine bf_perm [1, 2, 0] rfl ?_
          exact ih _ _ _ hf
        · exact absurd ((if_neg c8).symm.trans hf) (by simp)
      · exact absurd ((if_neg c7).symm.trans hf) (by simp)
def f_X12_ends_88 (v0 : Nat) (v1 : Int32) (v3 : Int32) (K : Int32 → (Nat → Nat → Int32) → (Nat → Nat → Int64) → Option (Int32 × bf_St)) : Nat → Int32 → Int32 → (Nat → Nat → Int32) → (Nat → Nat → Int64) → Option (Int32 × bf_St)
  | 0, _, _, _, _ => none
  | n + 1, v2, v4, I, L =>
    ((f_X12_isWire v0 v3 I L).bind (fun r14 => (if r14.1 = 0 then (K v2 r14.2.1 r14.2.2) else ((f_X12_tokens v0 v3 r14.2.1 r14.2.2).bind (fun r17 => (if r17.1 ≤ v4 then (K v2 r17.2.1 r17.2.2) else (if bf_ok ((((74 : Int32) + ((105 : Int32) * v3)) + (6 : Int32)) + v4) 914 then (f_X12_ends_88 v0 v1 v3 K n (v2 + (r17.2.1 (v0 + 1) ((((74 : Int32) + ((105 : Int32) * v3)) + (6 : Int32)) + v4).toNatClampNeg)) (v4 + (1 : Int32)) r17.2.1 r17.2.2) else none)))))))
set_option maxRecDepth 100000 in
set_option maxHeartbeats 4000000 in
theorem ok_X12_ends_88 {Γ : bf_Gm} {ad : Nat → Nat} {v0 : Nat} {v1 : Int32} {v3 : Int32} (hv0 : bf_kd v0 = 12) {r : Int32 × bf_St} {K : Int32 → (Nat → Nat → Int32) → (Nat → Nat → Int64) → Option (Int32 × bf_St)} (hK : ∀ (v2 : Int32) (I : Nat → Nat → Int32) (L : Nat → Nat → Int64), K v2 I L = some r → bf_Go Γ (bf_rm 7 0 0) mu_X12_ends bf_E0 (bf_Z Γ (fun q h => q = some (.int r.1) ∧ h = bf_S ad r.2.1 r.2.2) 0 0) (0, 0) 133 [(0, .ref (ad v0)), (1, .int v1), (2, .int v2), (3, .int v3)] [] (bf_S ad I L)) : ∀ (n : Nat) (v2 : Int32) (v4 : Int32) (I : Nat → Nat → Int32) (L : Nat → Nat → Int64), f_X12_ends_88 v0 v1 v3 K n v2 v4 I L = some r → bf_Go Γ (bf_rm 7 0 0) mu_X12_ends bf_E0 (bf_Z Γ (fun q h => q = some (.int r.1) ∧ h = bf_S ad r.2.1 r.2.2) 0 0) (0, 0) 88 [(0, .ref (ad v0)), (1, .int v1), (2, .int v2), (3, .int v3), (4, .int v4)] [] (bf_S ad I L) := by
  intro n
  induction n with
  | zero => intro v2 v4 I L hf; exact absurd (show none = some r from hf) (by simp)
  | succ n ih =>
    intro v2 v4 I L hf
    rw [f_X12_ends_88] at hf
    refine bf_aload_n 0 dX12_ends_88 rfl rfl ?_
    refine bf_iload_n 3 dX12_ends_89 rfl rfl ?_
    obtain ⟨r14, e13, hf⟩ := bf_bind hf
    have hCe13 := ok_X12_isWire (Γ := Γ) (ad := ad) hv0 e13
    refine cv_X12_73 1 dX12_ends_90 rfl ⟨Nat.le_of_ble_eq_true rfl, Nat.le_of_ble_eq_true rfl⟩ (Nat.le_of_ble_eq_true rfl) hv0 hCe13 ?_
    refine bf_if_eq 133 dX12_ends_93 (by decide) (fun c15 => ?_) (fun c15 => ?_)
    · have hf := (if_pos c15).symm.trans hf
      refine bf_perm [0, 1, 2, 3] rfl ?_
      exact hK _ _ _ hf
    · have hf := (if_neg c15).symm.trans hf
      refine bf_iload 4 dX12_ends_96 rfl ?_
      refine bf_aload_n 0 dX12_ends_98 rfl rfl ?_
      refine bf_iload_n 3 dX12_ends_99 rfl rfl ?_
      obtain ⟨r17, e16, hf⟩ := bf_bind hf
      have hCe16 := ok_X12_tokens (Γ := Γ) (ad := ad) hv0 e16
      refine cv_X12_76 0 dX12_ends_100 rfl ⟨Nat.le_of_ble_eq_true rfl, Nat.le_of_ble_eq_true rfl⟩ (Nat.le_of_ble_eq_true rfl) hv0 hCe16 ?_
      refine bf_icmp_ge 133 dX12_ends_103 (by decide) (fun c18 => ?_) (fun c18 => ?_)
      · have hf := (if_pos c18).symm.trans hf
        refine bf_perm [0, 1, 2, 3] rfl ?_
        exact hK _ _ _ hf
      · have hf := (if_neg c18).symm.trans hf
        refine bf_iload_n 2 dX12_ends_106 rfl rfl ?_
        refine bf_aload_n 0 dX12_ends_107 rfl rfl ?_
        refine fg_X12_11 dX12_ends_108 rfl hv0 ?_
        refine bf_bipush (v := 74) dX12_ends_111 (by decide) ?_
        refine bf_bipush (v := 105) dX12_ends_113 (by decide) ?_
        refine bf_iload_n 3 dX12_ends_115 rfl rfl ?_
        refine bf_imul dX12_ends_116 ?_
        refine bf_iadd dX12_ends_117 ?_
        refine bf_bipush (v := 6) dX12_ends_118 (by decide) ?_
        refine bf_iadd dX12_ends_120 ?_
        refine bf_iload 4 dX12_ends_121 rfl ?_
        refine bf_iadd dX12_ends_123 ?_
        rcases Decidable.em (bf_ok ((((74 : Int32) + ((105 : Int32) * v3)) + (6 : Int32)) + v4) 914) with c19 | c19
        · have hf := (if_pos c19).symm.trans hf
          refine bf_iald dX12_ends_124 (kr_12_0 hv0) (by rw [(kl_12_0 hv0)]; exact c19) ?_
          refine bf_iadd dX12_ends_125 ?_
          refine bf_istore_n (lv2 := [(2, .int _), (0, .ref _), (1, .int _), (3, .int _), (4, .int _)]) dX12_ends_126 rfl (by decide) rfl ?_
          refine bf_iinc 4 (v := _ + (1 : Int32)) (lv2 := [(4, .int _), (2, .int _), (0, .ref _), (1, .int _), (3, .int _)]) dX12_ends_127 rfl (by rfl) (by decide) rfl ?_
          refine bf_goto 88 dX12_ends_130 (by decide) ?_
          refine bf_perm [2, 3, 1, 4, 0] rfl ?_
          exact ih _ _ _ _ hf
        · exact absurd ((if_neg c19).symm.trans hf) (by simp)
def f_X12_ends_75 (v0 : Nat) (v1 : Int32) (K : Int32 → (Nat → Nat → Int32) → (Nat → Nat → Int64) → Option (Int32 × bf_St)) : Nat → Int32 → Int32 → (Nat → Nat → Int32) → (Nat → Nat → Int64) → Option (Int32 × bf_St)
  | 0, _, _, _, _ => none
  | n + 1, v2, v3, I, L =>
    (if (I (v0 + 1) (1 : Int32).toNatClampNeg) ≤ v3 then (K v2 I L) else (f_X12_ends_88 v0 v1 v3 (fun k2_20 I20 L20 => (f_X12_ends_75 v0 v1 K n k2_20 (v3 + (1 : Int32)) I20 L20)) 400 v2 (0 : Int32) I L))
set_option maxRecDepth 100000 in
set_option maxHeartbeats 4000000 in
theorem ok_X12_ends_75 {Γ : bf_Gm} {ad : Nat → Nat} {v0 : Nat} {v1 : Int32} (hv0 : bf_kd v0 = 12) {r : Int32 × bf_St} {K : Int32 → (Nat → Nat → Int32) → (Nat → Nat → Int64) → Option (Int32 × bf_St)} (hK : ∀ (v2 : Int32) (I : Nat → Nat → Int32) (L : Nat → Nat → Int64), K v2 I L = some r → bf_Go Γ (bf_rm 7 0 0) mu_X12_ends bf_E0 (bf_Z Γ (fun q h => q = some (.int r.1) ∧ h = bf_S ad r.2.1 r.2.2) 0 0) (0, 0) 139 [(0, .ref (ad v0)), (1, .int v1), (2, .int v2)] [] (bf_S ad I L)) : ∀ (n : Nat) (v2 : Int32) (v3 : Int32) (I : Nat → Nat → Int32) (L : Nat → Nat → Int64), f_X12_ends_75 v0 v1 K n v2 v3 I L = some r → bf_Go Γ (bf_rm 7 0 0) mu_X12_ends bf_E0 (bf_Z Γ (fun q h => q = some (.int r.1) ∧ h = bf_S ad r.2.1 r.2.2) 0 0) (0, 0) 75 [(0, .ref (ad v0)), (1, .int v1), (2, .int v2), (3, .int v3)] [] (bf_S ad I L) := by
  intro n
  induction n with
  | zero => intro v2 v3 I L hf; exact absurd (show none = some r from hf) (by simp)
  | succ n ih =>
    intro v2 v3 I L hf
    rw [f_X12_ends_75] at hf
    refine bf_iload_n 3 dX12_ends_75 rfl rfl ?_
    refine bf_aload_n 0 dX12_ends_76 rfl rfl ?_
    refine fg_X12_11 dX12_ends_77 rfl hv0 ?_
    refine bf_iconst (v := 1) dX12_ends_80 (by decide) ?_
    refine bf_iald dX12_ends_81 (kr_12_0 hv0) (by rw [(kl_12_0 hv0)]; decide) ?_
    refine bf_icmp_ge 139 dX12_ends_82 (by decide) (fun c12 => ?_) (fun c12 => ?_)
    · have hf := (if_pos c12).symm.trans hf
      refine bf_perm [0, 1, 2] rfl ?_
      exact hK _ _ _ hf
    · have hf := (if_neg c12).symm.trans hf
      refine bf_iconst (v := 0) dX12_ends_85 (by decide) ?_
      refine bf_istore (lv2 := [(4, .int _), (0, .ref _), (1, .int _), (2, .int _), (3, .int _)]) dX12_ends_86 (by decide) rfl ?_
      refine bf_perm [1, 2, 3, 4, 0] rfl ?_
      refine ok_X12_ends_88 hv0 (fun k2_20 I20 L20 hf => ?_) _ _ _ _ _  hf
      refine bf_iinc 3 (v := _ + (1 : Int32)) (lv2 := [(3, .int _), (0, .ref _), (1, .int _), (2, .int _)]) dX12_ends_133 rfl (by rfl) (by decide) rfl ?_
      refine bf_goto 75 dX12_ends_136 (by decide) ?_
      refine bf_perm [1, 2, 3, 0] rfl ?_
      exact ih _ _ _ _ hf
def f_X12_ends_p139 (v0 : Nat) (v1 : Int32) (v2 : Int32) (I : Nat → Nat → Int32) (L : Nat → Nat → Int64) : Option (Int32 × bf_St) :=
  ((f_X12_tokensAll v0 I L).bind (fun r23 => ((f_X12_copies (v0 + 13) (v0 + 1) r23.2.1 r23.2.2).bind (fun r25 => (if v1 = 0 then (some (r23.1, r25.1, r25.2)) else (some (v2, r25.1, r25.2)))))))
set_option maxRecDepth 100000 in
set_option maxHeartbeats 4000000 in
theorem ok_X12_ends_p139 {Γ : bf_Gm} {ad : Nat → Nat} {v0 : Nat} {v1 : Int32} {v2 : Int32} {I : Nat → Nat → Int32} {L : Nat → Nat → Int64} (hv0 : bf_kd v0 = 12) {r : Int32 × bf_St} (hf : f_X12_ends_p139 v0 v1 v2 I L = some r) : bf_Go Γ (bf_rm 7 0 0) mu_X12_ends bf_E0 (bf_Z Γ (fun q h => q = some (.int r.1) ∧ h = bf_S ad r.2.1 r.2.2) 0 0) (0, 0) 139 [(0, .ref (ad v0)), (1, .int v1), (2, .int v2)] [] (bf_S ad I L) := by
  unfold f_X12_ends_p139 at hf
  refine bf_aload_n 0 dX12_ends_139 rfl rfl ?_
  obtain ⟨r23, e22, hf⟩ := bf_bind hf
  have hCe22 := ok_X12_tokensAll (Γ := Γ) (ad := ad) hv0 e22
  refine cv_X12_242 2 dX12_ends_140 rfl ⟨Nat.le_of_ble_eq_true rfl, Nat.le_of_ble_eq_true rfl⟩ (Nat.le_of_ble_eq_true rfl) hv0 hCe22 ?_
  refine bf_istore_n (lv2 := [(3, .int _), (0, .ref _), (1, .int _), (2, .int _)]) dX12_ends_143 rfl (by decide) rfl ?_
  refine bf_aload_n 1 dX12_ends_144 rfl rfl ?_
  refine fg_X12_49 dX12_ends_145 rfl hv0 ?_
  refine bf_aload_n 1 dX12_ends_148 rfl rfl ?_
  refine fg_X12_11 dX12_ends_149 rfl hv0 ?_
  obtain ⟨r25, e24, hf⟩ := bf_bind hf
  have hCe24 := ok_X12_copies (Γ := Γ) (ad := ad) (kr_12_24 hv0) (kr_12_0 hv0) e24
  refine cv_X12_213 0 dX12_ends_152 rfl ⟨Nat.le_of_ble_eq_true rfl, Nat.le_of_ble_eq_true rfl⟩ (Nat.le_of_ble_eq_true rfl) hCe24 ?_
  refine bf_iload_n 2 dX12_ends_155 rfl rfl ?_
  refine bf_if_ne 163 dX12_ends_156 (by decide) (fun c26 => ?_) (fun c26 => ?_)
  · have hf := (if_neg c26).symm.trans hf
    refine bf_iload_n 3 dX12_ends_163 rfl rfl ?_
    obtain rfl := Option.some.inj hf
    exact bf_iret dX12_ends_164 rfl (Nat.le_refl _) (Nat.le_refl _) ⟨rfl, rfl⟩
  · have hf := (if_pos c26).symm.trans hf
    refine bf_iload_n 0 dX12_ends_159 rfl rfl ?_
    refine bf_goto 164 dX12_ends_160 (by decide) ?_
    obtain rfl := Option.some.inj hf
    exact bf_iret dX12_ends_164 rfl (Nat.le_refl _) (Nat.le_refl _) ⟨rfl, rfl⟩
def f_X12_ends_p71 (v0 : Nat) (v1 : Int32) (I : Nat → Nat → Int32) (L : Nat → Nat → Int64) : Option (Int32 × bf_St) :=
  (f_X12_ends_75 v0 v1 (fun k2_21 I21 L21 => (f_X12_ends_p139 v0 v1 k2_21 I21 L21)) 400 (0 : Int32) (0 : Int32) I L)
set_option maxRecDepth 100000 in
set_option maxHeartbeats 4000000 in
theorem ok_X12_ends_p71 {Γ : bf_Gm} {ad : Nat → Nat} {v0 : Nat} {v1 : Int32} {I : Nat → Nat → Int32} {L : Nat → Nat → Int64} (hv0 : bf_kd v0 = 12) {r : Int32 × bf_St} (hf : f_X12_ends_p71 v0 v1 I L = some r) : bf_Go Γ (bf_rm 7 0 0) mu_X12_ends bf_E0 (bf_Z Γ (fun q h => q = some (.int r.1) ∧ h = bf_S ad r.2.1 r.2.2) 0 0) (0, 0) 71 [(0, .ref (ad v0)), (1, .int v1)] [] (bf_S ad I L) := by
  unfold f_X12_ends_p71 at hf
  refine bf_iconst (v := 0) dX12_ends_71 (by decide) ?_
  refine bf_istore_n (lv2 := [(2, .int _), (0, .ref _), (1, .int _)]) dX12_ends_72 rfl (by decide) rfl ?_
  refine bf_iconst (v := 0) dX12_ends_73 (by decide) ?_
  refine bf_istore_n (lv2 := [(3, .int _), (2, .int _), (0, .ref _), (1, .int _)]) dX12_ends_74 rfl (by decide) rfl ?_
  refine bf_perm [2, 3, 1, 0] rfl ?_
  refine ok_X12_ends_75 hv0 (fun k2_21 I21 L21 hf => ?_) _ _ _ _ _  hf
  exact ok_X12_ends_p139 hv0  hf
def f_X12_ends (o : Nat) (a0 : Int32) (I : Nat → Nat → Int32) (L : Nat → Nat → Int64) : Option (Int32 × bf_St) :=
  ((f_X12_in (a0).toInt64 (0 : Int64) (1 : Int64) I L).bind (fun r2 => (if r2.1 = 0 then (some ((-10001 : Int32), r2.2.1, r2.2.2)) else ((f_X12_copies (o + 1) (o + 13) r2.2.1 r2.2.2).bind (fun r5 => (f_X12_ends_27 o a0 (fun I11 L11 => (f_X12_ends_p71 o a0 I11 L11)) 400 (0 : Int32) r5.1 r5.2))))))
set_option maxRecDepth 100000 in
set_option maxHeartbeats 4000000 in
theorem ok_X12_ends {Γ : bf_Gm} {ad : Nat → Nat} {o : Nat} {a0 : Int32} {I : Nat → Nat → Int32} {L : Nat → Nat → Int64} (hk : bf_kd o = 12) {r : Int32 × bf_St} (hf : f_X12_ends o a0 I L = some r) : bf_Cn Γ 7 mu_X12_ends 0 0 [.ref (ad o), .int a0] (bf_S ad I L) (fun q h => q = some (.int r.1) ∧ h = bf_S ad r.2.1 r.2.2) := by
  refine bf_met rfl (Nat.le_of_ble_eq_true rfl) ?_
  unfold f_X12_ends at hf
  refine bf_iload_n 1 dX12_ends_0 rfl rfl ?_
  refine bf_i2l dX12_ends_1 ?_
  refine bf_lconst (v := 0) dX12_ends_2 (by decide) ?_
  refine bf_lconst (v := 1) dX12_ends_3 (by decide) ?_
  obtain ⟨r2, e1, hf⟩ := bf_bind hf
  have hCe1 := ok_X12_in (Γ := Γ) (ad := ad)  e1
  refine cv_X12_61 0 dX12_ends_4 rfl ⟨Nat.le_of_ble_eq_true rfl, Nat.le_of_ble_eq_true rfl⟩ (Nat.le_of_ble_eq_true rfl) hCe1 ?_
  refine bf_if_ne 14 dX12_ends_7 (by decide) (fun c3 => ?_) (fun c3 => ?_)
  · have hf := (if_neg c3).symm.trans hf
    refine bf_aload_n 0 dX12_ends_14 rfl rfl ?_
    refine fg_X12_11 dX12_ends_15 rfl hk ?_
    refine bf_aload_n 0 dX12_ends_18 rfl rfl ?_
    refine fg_X12_49 dX12_ends_19 rfl hk ?_
    obtain ⟨r5, e4, hf⟩ := bf_bind hf
    have hCe4 := ok_X12_copies (Γ := Γ) (ad := ad) (kr_12_0 hk) (kr_12_24 hk) e4
    refine cv_X12_213 0 dX12_ends_22 rfl ⟨Nat.le_of_ble_eq_true rfl, Nat.le_of_ble_eq_true rfl⟩ (Nat.le_of_ble_eq_true rfl) hCe4 ?_
    refine bf_iconst (v := 0) dX12_ends_25 (by decide) ?_
    refine bf_istore_n (lv2 := [(2, .int _), (0, .ref _), (1, .int _)]) dX12_ends_26 rfl (by decide) rfl ?_
    refine bf_perm [1, 2, 0] rfl ?_
    refine ok_X12_ends_27 hk (fun I11 L11 hf => ?_) _ _ _ _  hf
    exact ok_X12_ends_p71 hk  hf
  · have hf := (if_pos c3).symm.trans hf
    refine bf_sipush (v := -10001) dX12_ends_10 (by decide) ?_
    obtain rfl := Option.some.inj hf
    exact bf_iret dX12_ends_13 rfl (Nat.le_refl _) (Nat.le_refl _) ⟨rfl, rfl⟩
def f_X12_book (o : Nat) (a0 : Int32) (a1 : Int32) (I : Nat → Nat → Int32) (L : Nat → Nat → Int64) : Option (Int32 × bf_St) :=
  (if a0 = (-1 : Int32) then (some ((0 : Int32), (bf_u I (o + 1) (4 : Int32).toNatClampNeg (0 : Int32)), L)) else ((f_X12_isWire o a0 I L).bind (fun r3 => (if r3.1 = 0 then (some ((-1 : Int32), r3.2.1, r3.2.2)) else ((f_X12_in (a1).toInt64 (0 : Int64) (99 : Int64) r3.2.1 r3.2.2).bind (fun r6 => (if r6.1 = 0 then (some ((-2 : Int32), r6.2.1, r6.2.2)) else (if (r6.2.1 (o + 1) (4 : Int32).toNatClampNeg) = (8 : Int32) then (some ((-4 : Int32), r6.2.1, r6.2.2)) else (if bf_ok ((58 : Int32) + ((2 : Int32) * (r6.2.1 (o + 1) (4 : Int32).toNatClampNeg))) 914 then (if bf_ok (((58 : Int32) + ((2 : Int32) * (r6.2.1 (o + 1) (4 : Int32).toNatClampNeg))) + (1 : Int32)) 914 then (some (((r6.2.1 (o + 1) (4 : Int32).toNatClampNeg) + (1 : Int32)), (bf_u (bf_u (bf_u r6.2.1 (o + 1) ((58 : Int32) + ((2 : Int32) * (r6.2.1 (o + 1) (4 : Int32).toNatClampNeg))).toNatClampNeg a0) (o + 1) (((58 : Int32) + ((2 : Int32) * (r6.2.1 (o + 1) (4 : Int32).toNatClampNeg))) + (1 : Int32)).toNatClampNeg a1) (o + 1) (4 : Int32).toNatClampNeg ((r6.2.1 (o + 1) (4 : Int32).toNatClampNeg) + (1 : Int32))), r6.2.2)) else none) else none)))))))))
set_option maxRecDepth 100000 in
set_option maxHeartbeats 4000000 in
theorem ok_X12_book {Γ : bf_Gm} {ad : Nat → Nat} {o : Nat} {a0 : Int32} {a1 : Int32} {I : Nat → Nat → Int32} {L : Nat → Nat → Int64} (hk : bf_kd o = 12) {r : Int32 × bf_St} (hf : f_X12_book o a0 a1 I L = some r) : bf_Cn Γ 2 mu_X12_book 0 0 [.ref (ad o), .int a0, .int a1] (bf_S ad I L) (fun q h => q = some (.int r.1) ∧ h = bf_S ad r.2.1 r.2.2) := by
  refine bf_met rfl (Nat.le_of_ble_eq_true rfl) ?_
  unfold f_X12_book at hf
  refine bf_iload_n 1 dX12_book_0 rfl rfl ?_
  refine bf_iconst (v := -1) dX12_book_1 (by decide) ?_
  refine bf_icmp_ne 14 dX12_book_2 (by decide) (fun c1 => ?_) (fun c1 => ?_)
  · have hf := (if_neg c1).symm.trans hf
    refine bf_aload_n 0 dX12_book_14 rfl rfl ?_
    refine bf_iload_n 1 dX12_book_15 rfl rfl ?_
    obtain ⟨r3, e2, hf⟩ := bf_bind hf
    have hCe2 := ok_X12_isWire (Γ := Γ) (ad := ad) hk e2
    refine cv_X12_73 1 dX12_book_16 rfl ⟨Nat.le_of_ble_eq_true rfl, Nat.le_of_ble_eq_true rfl⟩ (Nat.le_of_ble_eq_true rfl) hk hCe2 ?_
    refine bf_if_ne 24 dX12_book_19 (by decide) (fun c4 => ?_) (fun c4 => ?_)
    · have hf := (if_neg c4).symm.trans hf
      refine bf_iload_n 2 dX12_book_24 rfl rfl ?_
      refine bf_i2l dX12_book_25 ?_
      refine bf_lconst (v := 0) dX12_book_26 (by decide) ?_
      refine bf_ldc2 dX12_book_27 wk_X12_289 ?_
      obtain ⟨r6, e5, hf⟩ := bf_bind hf
      have hCe5 := ok_X12_in (Γ := Γ) (ad := ad)  e5
      refine cv_X12_61 0 dX12_book_30 rfl ⟨Nat.le_of_ble_eq_true rfl, Nat.le_of_ble_eq_true rfl⟩ (Nat.le_of_ble_eq_true rfl) hCe5 ?_
      refine bf_if_ne 39 dX12_book_33 (by decide) (fun c7 => ?_) (fun c7 => ?_)
      · have hf := (if_neg c7).symm.trans hf
        refine bf_aload_n 0 dX12_book_39 rfl rfl ?_
        refine fg_X12_11 dX12_book_40 rfl hk ?_
        refine bf_iconst (v := 4) dX12_book_43 (by decide) ?_
        refine bf_iald dX12_book_44 (kr_12_0 hk) (by rw [(kl_12_0 hk)]; decide) ?_
        refine bf_istore_n (lv2 := [(3, .int _), (0, .ref _), (1, .int _), (2, .int _)]) dX12_book_45 rfl (by decide) rfl ?_
        refine bf_iload_n 0 dX12_book_46 rfl rfl ?_
        refine bf_bipush (v := 8) dX12_book_47 (by decide) ?_
        refine bf_icmp_ne 55 dX12_book_49 (by decide) (fun c8 => ?_) (fun c8 => ?_)
        · have hf := (if_neg c8).symm.trans hf
          refine bf_aload_n 1 dX12_book_55 rfl rfl ?_
          refine fg_X12_11 dX12_book_56 rfl hk ?_
          refine bf_bipush (v := 58) dX12_book_59 (by decide) ?_
          refine bf_iconst (v := 2) dX12_book_61 (by decide) ?_
          refine bf_iload_n 0 dX12_book_62 rfl rfl ?_
          refine bf_imul dX12_book_63 ?_
          refine bf_iadd dX12_book_64 ?_
          refine bf_iload_n 2 dX12_book_65 rfl rfl ?_
          rcases Decidable.em (bf_ok ((58 : Int32) + ((2 : Int32) * (r6.2.1 (o + 1) (4 : Int32).toNatClampNeg))) 914) with c9 | c9
          · have hf := (if_pos c9).symm.trans hf
            refine bf_iast dX12_book_66 (kr_12_0 hk) (by rw [(kl_12_0 hk)]; exact c9) ?_
            refine bf_aload_n 1 dX12_book_67 rfl rfl ?_
            refine fg_X12_11 dX12_book_68 rfl hk ?_
            refine bf_bipush (v := 58) dX12_book_71 (by decide) ?_
            refine bf_iconst (v := 2) dX12_book_73 (by decide) ?_
            refine bf_iload_n 0 dX12_book_74 rfl rfl ?_
            refine bf_imul dX12_book_75 ?_
            refine bf_iadd dX12_book_76 ?_
            refine bf_iconst (v := 1) dX12_book_77 (by decide) ?_
            refine bf_iadd dX12_book_78 ?_
            refine bf_iload_n 3 dX12_book_79 rfl rfl ?_
            rcases Decidable.em (bf_ok (((58 : Int32) + ((2 : Int32) * (r6.2.1 (o + 1) (4 : Int32).toNatClampNeg))) + (1 : Int32)) 914) with c10 | c10
            · have hf := (if_pos c10).symm.trans hf
              refine bf_iast dX12_book_80 (kr_12_0 hk) (by rw [(kl_12_0 hk)]; exact c10) ?_
              refine bf_aload_n 1 dX12_book_81 rfl rfl ?_
              refine fg_X12_11 dX12_book_82 rfl hk ?_
              refine bf_iconst (v := 4) dX12_book_85 (by decide) ?_
              refine bf_iload_n 0 dX12_book_86 rfl rfl ?_
              refine bf_iconst (v := 1) dX12_book_87 (by decide) ?_
              refine bf_iadd dX12_book_88 ?_
              refine bf_iast dX12_book_89 (kr_12_0 hk) (by rw [(kl_12_0 hk)]; decide) ?_
              refine bf_iload_n 0 dX12_book_90 rfl rfl ?_
              refine bf_iconst (v := 1) dX12_book_91 (by decide) ?_
              refine bf_iadd dX12_book_92 ?_
              obtain rfl := Option.some.inj hf
              exact bf_iret dX12_book_93 rfl (Nat.le_refl _) (Nat.le_refl _) ⟨rfl, rfl⟩
            · exact absurd ((if_neg c10).symm.trans hf) (by simp)
          · exact absurd ((if_neg c9).symm.trans hf) (by simp)
        · have hf := (if_pos c8).symm.trans hf
          refine bf_bipush (v := -4) dX12_book_52 (by decide) ?_
          obtain rfl := Option.some.inj hf
          exact bf_iret dX12_book_54 rfl (Nat.le_refl _) (Nat.le_refl _) ⟨rfl, rfl⟩
      · have hf := (if_pos c7).symm.trans hf
        refine bf_bipush (v := -2) dX12_book_36 (by decide) ?_
        obtain rfl := Option.some.inj hf
        exact bf_iret dX12_book_38 rfl (Nat.le_refl _) (Nat.le_refl _) ⟨rfl, rfl⟩
    · have hf := (if_pos c4).symm.trans hf
      refine bf_iconst (v := -1) dX12_book_22 (by decide) ?_
      obtain rfl := Option.some.inj hf
      exact bf_iret dX12_book_23 rfl (Nat.le_refl _) (Nat.le_refl _) ⟨rfl, rfl⟩
  · have hf := (if_pos c1).symm.trans hf
    refine bf_aload_n 0 dX12_book_5 rfl rfl ?_
    refine fg_X12_11 dX12_book_6 rfl hk ?_
    refine bf_iconst (v := 4) dX12_book_9 (by decide) ?_
    refine bf_iconst (v := 0) dX12_book_10 (by decide) ?_
    refine bf_iast dX12_book_11 (kr_12_0 hk) (by rw [(kl_12_0 hk)]; decide) ?_
    refine bf_iconst (v := 0) dX12_book_12 (by decide) ?_
    obtain rfl := Option.some.inj hf
    exact bf_iret dX12_book_13 rfl (Nat.le_refl _) (Nat.le_refl _) ⟨rfl, rfl⟩
def f_X12_looked_2 (v0 : Nat) (K : (Nat → Nat → Int32) → (Nat → Nat → Int64) → Option (Int32 × bf_St)) : Nat → Int32 → (Nat → Nat → Int32) → (Nat → Nat → Int64) → Option (Int32 × bf_St)
  | 0, _, _, _ => none
  | n + 1, v1, I, L =>
    (if (I (v0 + 1) (4 : Int32).toNatClampNeg) ≤ v1 then (K I L) else (if bf_ok ((58 : Int32) + ((2 : Int32) * v1)) 914 then ((f_X12_isWire v0 (I (v0 + 1) ((58 : Int32) + ((2 : Int32) * v1)).toNatClampNeg) I L).bind (fun r4 => (if r4.1 = 0 then (some (v1, r4.2.1, r4.2.2)) else ((f_X12_tokens v0 (I (v0 + 1) ((58 : Int32) + ((2 : Int32) * v1)).toNatClampNeg) r4.2.1 r4.2.2).bind (fun r7 => (if bf_ok (((58 : Int32) + ((2 : Int32) * v1)) + (1 : Int32)) 914 then (if r7.1 = (r7.2.1 (v0 + 1) (((58 : Int32) + ((2 : Int32) * v1)) + (1 : Int32)).toNatClampNeg) then (f_X12_looked_2 v0 K n (v1 + (1 : Int32)) r7.2.1 r7.2.2) else (some (v1, r7.2.1, r7.2.2))) else none)))))) else none))
set_option maxRecDepth 100000 in
set_option maxHeartbeats 4000000 in
theorem ok_X12_looked_2 {Γ : bf_Gm} {ad : Nat → Nat} {v0 : Nat} (hv0 : bf_kd v0 = 12) {r : Int32 × bf_St} {K : (Nat → Nat → Int32) → (Nat → Nat → Int64) → Option (Int32 × bf_St)} (hK : ∀ (I : Nat → Nat → Int32) (L : Nat → Nat → Int64), K  I L = some r → bf_Go Γ (bf_rm 2 0 0) mu_X12_looked bf_E0 (bf_Z Γ (fun q h => q = some (.int r.1) ∧ h = bf_S ad r.2.1 r.2.2) 0 0) (0, 0) 61 [] [] (bf_S ad I L)) : ∀ (n : Nat) (v1 : Int32) (I : Nat → Nat → Int32) (L : Nat → Nat → Int64), f_X12_looked_2 v0 K n v1 I L = some r → bf_Go Γ (bf_rm 2 0 0) mu_X12_looked bf_E0 (bf_Z Γ (fun q h => q = some (.int r.1) ∧ h = bf_S ad r.2.1 r.2.2) 0 0) (0, 0) 2 [(0, .ref (ad v0)), (1, .int v1)] [] (bf_S ad I L) := by
  intro n
  induction n with
  | zero => intro v1 I L hf; exact absurd (show none = some r from hf) (by simp)
  | succ n ih =>
    intro v1 I L hf
    rw [f_X12_looked_2] at hf
    refine bf_iload_n 1 dX12_looked_2 rfl rfl ?_
    refine bf_aload_n 0 dX12_looked_3 rfl rfl ?_
    refine fg_X12_11 dX12_looked_4 rfl hv0 ?_
    refine bf_iconst (v := 4) dX12_looked_7 (by decide) ?_
    refine bf_iald dX12_looked_8 (kr_12_0 hv0) (by rw [(kl_12_0 hv0)]; decide) ?_
    refine bf_icmp_ge 61 dX12_looked_9 (by decide) (fun c1 => ?_) (fun c1 => ?_)
    · have hf := (if_pos c1).symm.trans hf
      refine bf_perm [] rfl ?_
      exact hK _ _ hf
    · have hf := (if_neg c1).symm.trans hf
      refine bf_aload_n 0 dX12_looked_12 rfl rfl ?_
      refine fg_X12_11 dX12_looked_13 rfl hv0 ?_
      refine bf_bipush (v := 58) dX12_looked_16 (by decide) ?_
      refine bf_iconst (v := 2) dX12_looked_18 (by decide) ?_
      refine bf_iload_n 1 dX12_looked_19 rfl rfl ?_
      refine bf_imul dX12_looked_20 ?_
      refine bf_iadd dX12_looked_21 ?_
      rcases Decidable.em (bf_ok ((58 : Int32) + ((2 : Int32) * v1)) 914) with c2 | c2
      · have hf := (if_pos c2).symm.trans hf
        refine bf_iald dX12_looked_22 (kr_12_0 hv0) (by rw [(kl_12_0 hv0)]; exact c2) ?_
        refine bf_istore_n (lv2 := [(2, .int _), (0, .ref _), (1, .int _)]) dX12_looked_23 rfl (by decide) rfl ?_
        refine bf_aload_n 1 dX12_looked_24 rfl rfl ?_
        refine bf_iload_n 0 dX12_looked_25 rfl rfl ?_
        obtain ⟨r4, e3, hf⟩ := bf_bind hf
        have hCe3 := ok_X12_isWire (Γ := Γ) (ad := ad) hv0 e3
        refine cv_X12_73 1 dX12_looked_26 rfl ⟨Nat.le_of_ble_eq_true rfl, Nat.le_of_ble_eq_true rfl⟩ (Nat.le_of_ble_eq_true rfl) hv0 hCe3 ?_
        refine bf_if_eq 53 dX12_looked_29 (by decide) (fun c5 => ?_) (fun c5 => ?_)
        · have hf := (if_pos c5).symm.trans hf
          refine bf_iload_n 2 dX12_looked_53 rfl rfl ?_
          obtain rfl := Option.some.inj hf
          exact bf_iret dX12_looked_54 rfl (Nat.le_refl _) (Nat.le_refl _) ⟨rfl, rfl⟩
        · have hf := (if_neg c5).symm.trans hf
          refine bf_aload_n 1 dX12_looked_32 rfl rfl ?_
          refine bf_iload_n 0 dX12_looked_33 rfl rfl ?_
          obtain ⟨r7, e6, hf⟩ := bf_bind hf
          have hCe6 := ok_X12_tokens (Γ := Γ) (ad := ad) hv0 e6
          refine cv_X12_76 0 dX12_looked_34 rfl ⟨Nat.le_of_ble_eq_true rfl, Nat.le_of_ble_eq_true rfl⟩ (Nat.le_of_ble_eq_true rfl) hv0 hCe6 ?_
          refine bf_aload_n 1 dX12_looked_37 rfl rfl ?_
          refine fg_X12_11 dX12_looked_38 rfl hv0 ?_
          refine bf_bipush (v := 58) dX12_looked_41 (by decide) ?_
          refine bf_iconst (v := 2) dX12_looked_43 (by decide) ?_
          refine bf_iload_n 2 dX12_looked_44 rfl rfl ?_
          refine bf_imul dX12_looked_45 ?_
          refine bf_iadd dX12_looked_46 ?_
          refine bf_iconst (v := 1) dX12_looked_47 (by decide) ?_
          refine bf_iadd dX12_looked_48 ?_
          rcases Decidable.em (bf_ok (((58 : Int32) + ((2 : Int32) * v1)) + (1 : Int32)) 914) with c8 | c8
          · have hf := (if_pos c8).symm.trans hf
            refine bf_iald dX12_looked_49 (kr_12_0 hv0) (by rw [(kl_12_0 hv0)]; exact c8) ?_
            refine bf_icmp_eq 55 dX12_looked_50 (by decide) (fun c9 => ?_) (fun c9 => ?_)
            · have hf := (if_pos c9).symm.trans hf
              refine bf_iinc 2 (v := _ + (1 : Int32)) (lv2 := [(1, .int _), (2, .int _), (0, .ref _)]) dX12_looked_55 rfl (by rfl) (by decide) rfl ?_
              refine bf_goto 2 dX12_looked_58 (by decide) ?_
              refine bf_perm [2, 0] rfl ?_
              exact ih _ _ _ hf
            · have hf := (if_neg c9).symm.trans hf
              refine bf_iload_n 2 dX12_looked_53 rfl rfl ?_
              obtain rfl := Option.some.inj hf
              exact bf_iret dX12_looked_54 rfl (Nat.le_refl _) (Nat.le_refl _) ⟨rfl, rfl⟩
          · exact absurd ((if_neg c8).symm.trans hf) (by simp)
      · exact absurd ((if_neg c2).symm.trans hf) (by simp)
def f_X12_looked (o : Nat) (I : Nat → Nat → Int32) (L : Nat → Nat → Int64) : Option (Int32 × bf_St) :=
  (f_X12_looked_2 o (fun I10 L10 => (some ((-5 : Int32), I10, L10))) 400 (0 : Int32) I L)
set_option maxRecDepth 100000 in
set_option maxHeartbeats 4000000 in
theorem ok_X12_looked {Γ : bf_Gm} {ad : Nat → Nat} {o : Nat} {I : Nat → Nat → Int32} {L : Nat → Nat → Int64} (hk : bf_kd o = 12) {r : Int32 × bf_St} (hf : f_X12_looked o I L = some r) : bf_Cn Γ 2 mu_X12_looked 0 0 [.ref (ad o)] (bf_S ad I L) (fun q h => q = some (.int r.1) ∧ h = bf_S ad r.2.1 r.2.2) := by
  refine bf_met rfl (Nat.le_of_ble_eq_true rfl) ?_
  unfold f_X12_looked at hf
  refine bf_iconst (v := 0) dX12_looked_0 (by decide) ?_
  refine bf_istore_n (lv2 := [(1, .int _), (0, .ref _)]) dX12_looked_1 rfl (by decide) rfl ?_
  refine bf_perm [1, 0] rfl ?_
  refine ok_X12_looked_2 hk (fun I10 L10 hf => ?_) _ _ _ _  hf
  refine bf_bipush (v := -5) dX12_looked_61 (by decide) ?_
  obtain rfl := Option.some.inj hf
  exact bf_iret dX12_looked_63 rfl (Nat.le_refl _) (Nat.le_refl _) ⟨rfl, rfl⟩
def f_X12_image (o : Nat) (I : Nat → Nat → Int32) (L : Nat → Nat → Int64) : Option (Int32 × bf_St) :=
  ((f_X12_copies (o + 1) (o + 3) I L).bind (fun r2 => (some (((bf_u r2.1 o 3 (1 : Int32)) (o + 1) (0 : Int32).toNatClampNeg), (bf_u r2.1 o 3 (1 : Int32)), r2.2))))
set_option maxRecDepth 100000 in
set_option maxHeartbeats 4000000 in
theorem ok_X12_image {Γ : bf_Gm} {ad : Nat → Nat} {o : Nat} {I : Nat → Nat → Int32} {L : Nat → Nat → Int64} (hk : bf_kd o = 12) {r : Int32 × bf_St} (hf : f_X12_image o I L = some r) : bf_Cn Γ 1 mu_X12_image 0 0 [.ref (ad o)] (bf_S ad I L) (fun q h => q = some (.int r.1) ∧ h = bf_S ad r.2.1 r.2.2) := by
  refine bf_met rfl (Nat.le_of_ble_eq_true rfl) ?_
  unfold f_X12_image at hf
  refine bf_aload_n 0 dX12_image_0 rfl rfl ?_
  refine fg_X12_11 dX12_image_1 rfl hk ?_
  refine bf_aload_n 0 dX12_image_4 rfl rfl ?_
  refine fg_X12_18 dX12_image_5 rfl hk ?_
  obtain ⟨r2, e1, hf⟩ := bf_bind hf
  have hCe1 := ok_X12_copies (Γ := Γ) (ad := ad) (kr_12_0 hk) (kr_12_2 hk) e1
  refine cv_X12_213 0 dX12_image_8 rfl ⟨Nat.le_of_ble_eq_true rfl, Nat.le_of_ble_eq_true rfl⟩ (Nat.le_of_ble_eq_true rfl) hCe1 ?_
  refine bf_aload_n 0 dX12_image_11 rfl rfl ?_
  refine bf_iconst (v := 1) dX12_image_12 (by decide) ?_
  refine fp_X12_291 (by decide) dX12_image_13 rfl hk ?_
  refine bf_aload_n 0 dX12_image_16 rfl rfl ?_
  refine fg_X12_11 dX12_image_17 rfl hk ?_
  refine bf_iconst (v := 0) dX12_image_20 (by decide) ?_
  refine bf_iald dX12_image_21 (kr_12_0 hk) (by rw [(kl_12_0 hk)]; decide) ?_
  obtain rfl := Option.some.inj hf
  exact bf_iret dX12_image_22 rfl (Nat.le_refl _) (Nat.le_refl _) ⟨rfl, rfl⟩
def f_X12_undo (o : Nat) (I : Nat → Nat → Int32) (L : Nat → Nat → Int64) : Option (Int32 × bf_St) :=
  (if (I o 3) = 0 then (some ((-3 : Int32), I, L)) else ((f_X12_copies (o + 3) (o + 1) I L).bind (fun r3 => (some ((r3.1 (o + 1) (0 : Int32).toNatClampNeg), r3.1, r3.2)))))
set_option maxRecDepth 100000 in
set_option maxHeartbeats 4000000 in
theorem ok_X12_undo {Γ : bf_Gm} {ad : Nat → Nat} {o : Nat} {I : Nat → Nat → Int32} {L : Nat → Nat → Int64} (hk : bf_kd o = 12) {r : Int32 × bf_St} (hf : f_X12_undo o I L = some r) : bf_Cn Γ 1 mu_X12_undo 0 0 [.ref (ad o)] (bf_S ad I L) (fun q h => q = some (.int r.1) ∧ h = bf_S ad r.2.1 r.2.2) := by
  refine bf_met rfl (Nat.le_of_ble_eq_true rfl) ?_
  unfold f_X12_undo at hf
  refine bf_aload_n 0 dX12_undo_0 rfl rfl ?_
  refine fg_X12_291 dX12_undo_1 rfl hk ?_
  refine bf_if_ne 10 dX12_undo_4 (by decide) (fun c1 => ?_) (fun c1 => ?_)
  · have hf := (if_neg c1).symm.trans hf
    refine bf_aload_n 0 dX12_undo_10 rfl rfl ?_
    refine fg_X12_18 dX12_undo_11 rfl hk ?_
    refine bf_aload_n 0 dX12_undo_14 rfl rfl ?_
    refine fg_X12_11 dX12_undo_15 rfl hk ?_
    obtain ⟨r3, e2, hf⟩ := bf_bind hf
    have hCe2 := ok_X12_copies (Γ := Γ) (ad := ad) (kr_12_2 hk) (kr_12_0 hk) e2
    refine cv_X12_213 0 dX12_undo_18 rfl ⟨Nat.le_of_ble_eq_true rfl, Nat.le_of_ble_eq_true rfl⟩ (Nat.le_of_ble_eq_true rfl) hCe2 ?_
    refine bf_aload_n 0 dX12_undo_21 rfl rfl ?_
    refine fg_X12_11 dX12_undo_22 rfl hk ?_
    refine bf_iconst (v := 0) dX12_undo_25 (by decide) ?_
    refine bf_iald dX12_undo_26 (kr_12_0 hk) (by rw [(kl_12_0 hk)]; decide) ?_
    obtain rfl := Option.some.inj hf
    exact bf_iret dX12_undo_27 rfl (Nat.le_refl _) (Nat.le_refl _) ⟨rfl, rfl⟩
  · have hf := (if_pos c1).symm.trans hf
    refine bf_bipush (v := -3) dX12_undo_7 (by decide) ?_
    obtain rfl := Option.some.inj hf
    exact bf_iret dX12_undo_9 rfl (Nat.le_refl _) (Nat.le_refl _) ⟨rfl, rfl⟩
def f_X12_there_4 (v0 : Nat) (K : Int32 → (Nat → Nat → Int32) → (Nat → Nat → Int64) → Option (Int32 × bf_St)) : Nat → Int32 → Int32 → (Nat → Nat → Int32) → (Nat → Nat → Int64) → Option (Int32 × bf_St)
  | 0, _, _, _, _ => none
  | n + 1, v1, v2, I, L =>
    (if (I (v0 + 1) (1 : Int32).toNatClampNeg) ≤ v2 then (K v1 I L) else ((f_X12_isWire v0 v2 I L).bind (fun r3 => (if r3.1 = 0 then (f_X12_there_4 v0 K n (v1 + (0 : Int32)) (v2 + (1 : Int32)) r3.2.1 r3.2.2) else (f_X12_there_4 v0 K n (v1 + (1 : Int32)) (v2 + (1 : Int32)) r3.2.1 r3.2.2)))))
set_option maxRecDepth 100000 in
set_option maxHeartbeats 4000000 in
theorem ok_X12_there_4 {Γ : bf_Gm} {ad : Nat → Nat} {v0 : Nat} (hv0 : bf_kd v0 = 12) {r : Int32 × bf_St} {K : Int32 → (Nat → Nat → Int32) → (Nat → Nat → Int64) → Option (Int32 × bf_St)} (hK : ∀ (v1 : Int32) (I : Nat → Nat → Int32) (L : Nat → Nat → Int64), K v1 I L = some r → bf_Go Γ (bf_rm 2 0 0) mu_X12_there bf_E0 (bf_Z Γ (fun q h => q = some (.int r.1) ∧ h = bf_S ad r.2.1 r.2.2) 0 0) (0, 0) 36 [(1, .int v1)] [] (bf_S ad I L)) : ∀ (n : Nat) (v1 : Int32) (v2 : Int32) (I : Nat → Nat → Int32) (L : Nat → Nat → Int64), f_X12_there_4 v0 K n v1 v2 I L = some r → bf_Go Γ (bf_rm 2 0 0) mu_X12_there bf_E0 (bf_Z Γ (fun q h => q = some (.int r.1) ∧ h = bf_S ad r.2.1 r.2.2) 0 0) (0, 0) 4 [(0, .ref (ad v0)), (1, .int v1), (2, .int v2)] [] (bf_S ad I L) := by
  intro n
  induction n with
  | zero => intro v1 v2 I L hf; exact absurd (show none = some r from hf) (by simp)
  | succ n ih =>
    intro v1 v2 I L hf
    rw [f_X12_there_4] at hf
    refine bf_iload_n 2 dX12_there_4 rfl rfl ?_
    refine bf_aload_n 0 dX12_there_5 rfl rfl ?_
    refine fg_X12_11 dX12_there_6 rfl hv0 ?_
    refine bf_iconst (v := 1) dX12_there_9 (by decide) ?_
    refine bf_iald dX12_there_10 (kr_12_0 hv0) (by rw [(kl_12_0 hv0)]; decide) ?_
    refine bf_icmp_ge 36 dX12_there_11 (by decide) (fun c1 => ?_) (fun c1 => ?_)
    · have hf := (if_pos c1).symm.trans hf
      refine bf_perm [1] rfl ?_
      exact hK _ _ _ hf
    · have hf := (if_neg c1).symm.trans hf
      refine bf_iload_n 1 dX12_there_14 rfl rfl ?_
      refine bf_aload_n 0 dX12_there_15 rfl rfl ?_
      refine bf_iload_n 2 dX12_there_16 rfl rfl ?_
      obtain ⟨r3, e2, hf⟩ := bf_bind hf
      have hCe2 := ok_X12_isWire (Γ := Γ) (ad := ad) hv0 e2
      refine cv_X12_73 1 dX12_there_17 rfl ⟨Nat.le_of_ble_eq_true rfl, Nat.le_of_ble_eq_true rfl⟩ (Nat.le_of_ble_eq_true rfl) hv0 hCe2 ?_
      refine bf_if_eq 27 dX12_there_20 (by decide) (fun c4 => ?_) (fun c4 => ?_)
      · have hf := (if_pos c4).symm.trans hf
        refine bf_iconst (v := 0) dX12_there_27 (by decide) ?_
        refine bf_iadd dX12_there_28 ?_
        refine bf_istore_n (lv2 := [(1, .int _), (0, .ref _), (2, .int _)]) dX12_there_29 rfl (by decide) rfl ?_
        refine bf_iinc 2 (v := _ + (1 : Int32)) (lv2 := [(2, .int _), (1, .int _), (0, .ref _)]) dX12_there_30 rfl (by rfl) (by decide) rfl ?_
        refine bf_goto 4 dX12_there_33 (by decide) ?_
        refine bf_perm [2, 1, 0] rfl ?_
        exact ih _ _ _ _ hf
      · have hf := (if_neg c4).symm.trans hf
        refine bf_iconst (v := 1) dX12_there_23 (by decide) ?_
        refine bf_goto 28 dX12_there_24 (by decide) ?_
        refine bf_iadd dX12_there_28 ?_
        refine bf_istore_n (lv2 := [(1, .int _), (0, .ref _), (2, .int _)]) dX12_there_29 rfl (by decide) rfl ?_
        refine bf_iinc 2 (v := _ + (1 : Int32)) (lv2 := [(2, .int _), (1, .int _), (0, .ref _)]) dX12_there_30 rfl (by rfl) (by decide) rfl ?_
        refine bf_goto 4 dX12_there_33 (by decide) ?_
        refine bf_perm [2, 1, 0] rfl ?_
        exact ih _ _ _ _ hf
def f_X12_there (o : Nat) (I : Nat → Nat → Int32) (L : Nat → Nat → Int64) : Option (Int32 × bf_St) :=
  (f_X12_there_4 o (fun k1_5 I5 L5 => (some (k1_5, I5, L5))) 400 (0 : Int32) (0 : Int32) I L)
set_option maxRecDepth 100000 in
set_option maxHeartbeats 4000000 in
theorem ok_X12_there {Γ : bf_Gm} {ad : Nat → Nat} {o : Nat} {I : Nat → Nat → Int32} {L : Nat → Nat → Int64} (hk : bf_kd o = 12) {r : Int32 × bf_St} (hf : f_X12_there o I L = some r) : bf_Cn Γ 2 mu_X12_there 0 0 [.ref (ad o)] (bf_S ad I L) (fun q h => q = some (.int r.1) ∧ h = bf_S ad r.2.1 r.2.2) := by
  refine bf_met rfl (Nat.le_of_ble_eq_true rfl) ?_
  unfold f_X12_there at hf
  refine bf_iconst (v := 0) dX12_there_0 (by decide) ?_
  refine bf_istore_n (lv2 := [(1, .int _), (0, .ref _)]) dX12_there_1 rfl (by decide) rfl ?_
  refine bf_iconst (v := 0) dX12_there_2 (by decide) ?_
  refine bf_istore_n (lv2 := [(2, .int _), (1, .int _), (0, .ref _)]) dX12_there_3 rfl (by decide) rfl ?_
  refine bf_perm [2, 1, 0] rfl ?_
  refine ok_X12_there_4 hk (fun k1_5 I5 L5 hf => ?_) _ _ _ _ _  hf
  refine bf_iload_n 0 dX12_there_36 rfl rfl ?_
  obtain rfl := Option.some.inj hf
  exact bf_iret dX12_there_37 rfl (Nat.le_refl _) (Nat.le_refl _) ⟨rfl, rfl⟩
def f_X12_count (o : Nat) (a0 : Int32) (I : Nat → Nat → Int32) (L : Nat → Nat → Int64) : Option (Int32 × bf_St) :=
  (if a0 = 0 then (some ((I (o + 1) (0 : Int32).toNatClampNeg), I, L)) else (if a0 = 1 then (some ((I (o + 1) (1 : Int32).toNatClampNeg), I, L)) else (if a0 = 2 then ((f_X12_there o I L).bind (fun r5 => (some (r5.1, r5.2.1, r5.2.2)))) else (if a0 = 3 then (some ((I (o + 1) (2 : Int32).toNatClampNeg), I, L)) else (if a0 = 4 then (some ((I (o + 1) (3 : Int32).toNatClampNeg), I, L)) else (if a0 = 5 then (some ((I (o + 1) (4 : Int32).toNatClampNeg), I, L)) else (if a0 = 6 then (some ((I o 5), I, L)) else (some ((-2 : Int32), I, L)))))))))
set_option maxRecDepth 100000 in
set_option maxHeartbeats 4000000 in
theorem ok_X12_count {Γ : bf_Gm} {ad : Nat → Nat} {o : Nat} {a0 : Int32} {I : Nat → Nat → Int32} {L : Nat → Nat → Int64} (hk : bf_kd o = 12) {r : Int32 × bf_St} (hf : f_X12_count o a0 I L = some r) : bf_Cn Γ 3 mu_X12_count 0 0 [.ref (ad o), .int a0] (bf_S ad I L) (fun q h => q = some (.int r.1) ∧ h = bf_S ad r.2.1 r.2.2) := by
  refine bf_met rfl (Nat.le_of_ble_eq_true rfl) ?_
  unfold f_X12_count at hf
  refine bf_iload_n 1 dX12_count_0 rfl rfl ?_
  rcases Decidable.em (a0 = 0) with c1 | c1
  · have hf := (if_pos c1).symm.trans hf
    refine bf_swIn 44 dX12_count_1 (by rw [c1]; decide) (by rw [c1]; decide) (by rw [c1]; rfl) (by decide) ?_
    refine bf_aload_n 0 dX12_count_44 rfl rfl ?_
    refine fg_X12_11 dX12_count_45 rfl hk ?_
    refine bf_iconst (v := 0) dX12_count_48 (by decide) ?_
    refine bf_iald dX12_count_49 (kr_12_0 hk) (by rw [(kl_12_0 hk)]; decide) ?_
    obtain rfl := Option.some.inj hf
    exact bf_iret dX12_count_50 rfl (Nat.le_refl _) (Nat.le_refl _) ⟨rfl, rfl⟩
  · have hf := (if_neg c1).symm.trans hf
    rcases Decidable.em (a0 = 1) with c2 | c2
    · have hf := (if_pos c2).symm.trans hf
      refine bf_swIn 51 dX12_count_1 (by rw [c2]; decide) (by rw [c2]; decide) (by rw [c2]; rfl) (by decide) ?_
      refine bf_aload_n 0 dX12_count_51 rfl rfl ?_
      refine fg_X12_11 dX12_count_52 rfl hk ?_
      refine bf_iconst (v := 1) dX12_count_55 (by decide) ?_
      refine bf_iald dX12_count_56 (kr_12_0 hk) (by rw [(kl_12_0 hk)]; decide) ?_
      obtain rfl := Option.some.inj hf
      exact bf_iret dX12_count_57 rfl (Nat.le_refl _) (Nat.le_refl _) ⟨rfl, rfl⟩
    · have hf := (if_neg c2).symm.trans hf
      rcases Decidable.em (a0 = 2) with c3 | c3
      · have hf := (if_pos c3).symm.trans hf
        refine bf_swIn 58 dX12_count_1 (by rw [c3]; decide) (by rw [c3]; decide) (by rw [c3]; rfl) (by decide) ?_
        refine bf_aload_n 0 dX12_count_58 rfl rfl ?_
        obtain ⟨r5, e4, hf⟩ := bf_bind hf
        have hCe4 := ok_X12_there (Γ := Γ) (ad := ad) hk e4
        refine cv_X12_295 2 dX12_count_59 rfl ⟨Nat.le_of_ble_eq_true rfl, Nat.le_of_ble_eq_true rfl⟩ (Nat.le_of_ble_eq_true rfl) hk hCe4 ?_
        obtain rfl := Option.some.inj hf
        exact bf_iret dX12_count_62 rfl (Nat.le_refl _) (Nat.le_refl _) ⟨rfl, rfl⟩
      · have hf := (if_neg c3).symm.trans hf
        rcases Decidable.em (a0 = 3) with c6 | c6
        · have hf := (if_pos c6).symm.trans hf
          refine bf_swIn 63 dX12_count_1 (by rw [c6]; decide) (by rw [c6]; decide) (by rw [c6]; rfl) (by decide) ?_
          refine bf_aload_n 0 dX12_count_63 rfl rfl ?_
          refine fg_X12_11 dX12_count_64 rfl hk ?_
          refine bf_iconst (v := 2) dX12_count_67 (by decide) ?_
          refine bf_iald dX12_count_68 (kr_12_0 hk) (by rw [(kl_12_0 hk)]; decide) ?_
          obtain rfl := Option.some.inj hf
          exact bf_iret dX12_count_69 rfl (Nat.le_refl _) (Nat.le_refl _) ⟨rfl, rfl⟩
        · have hf := (if_neg c6).symm.trans hf
          rcases Decidable.em (a0 = 4) with c7 | c7
          · have hf := (if_pos c7).symm.trans hf
            refine bf_swIn 70 dX12_count_1 (by rw [c7]; decide) (by rw [c7]; decide) (by rw [c7]; rfl) (by decide) ?_
            refine bf_aload_n 0 dX12_count_70 rfl rfl ?_
            refine fg_X12_11 dX12_count_71 rfl hk ?_
            refine bf_iconst (v := 3) dX12_count_74 (by decide) ?_
            refine bf_iald dX12_count_75 (kr_12_0 hk) (by rw [(kl_12_0 hk)]; decide) ?_
            obtain rfl := Option.some.inj hf
            exact bf_iret dX12_count_76 rfl (Nat.le_refl _) (Nat.le_refl _) ⟨rfl, rfl⟩
          · have hf := (if_neg c7).symm.trans hf
            rcases Decidable.em (a0 = 5) with c8 | c8
            · have hf := (if_pos c8).symm.trans hf
              refine bf_swIn 77 dX12_count_1 (by rw [c8]; decide) (by rw [c8]; decide) (by rw [c8]; rfl) (by decide) ?_
              refine bf_aload_n 0 dX12_count_77 rfl rfl ?_
              refine fg_X12_11 dX12_count_78 rfl hk ?_
              refine bf_iconst (v := 4) dX12_count_81 (by decide) ?_
              refine bf_iald dX12_count_82 (kr_12_0 hk) (by rw [(kl_12_0 hk)]; decide) ?_
              obtain rfl := Option.some.inj hf
              exact bf_iret dX12_count_83 rfl (Nat.le_refl _) (Nat.le_refl _) ⟨rfl, rfl⟩
            · have hf := (if_neg c8).symm.trans hf
              rcases Decidable.em (a0 = 6) with c9 | c9
              · have hf := (if_pos c9).symm.trans hf
                refine bf_swIn 84 dX12_count_1 (by rw [c9]; decide) (by rw [c9]; decide) (by rw [c9]; rfl) (by decide) ?_
                refine bf_aload_n 0 dX12_count_84 rfl rfl ?_
                refine fg_X12_86 dX12_count_85 rfl hk ?_
                obtain rfl := Option.some.inj hf
                exact bf_iret dX12_count_88 rfl (Nat.le_refl _) (Nat.le_refl _) ⟨rfl, rfl⟩
              · have hf := (if_neg c9).symm.trans hf
                have c1 : _ ≠ (0 : Int) := bf_nne c1
                have c2 : _ ≠ (1 : Int) := bf_nne c2
                have c3 : _ ≠ (2 : Int) := bf_nne c3
                have c6 : _ ≠ (3 : Int) := bf_nne c6
                have c7 : _ ≠ (4 : Int) := bf_nne c7
                have c8 : _ ≠ (5 : Int) := bf_nne c8
                have c9 : _ ≠ (6 : Int) := bf_nne c9
                refine bf_swOut 89 dX12_count_1 (by omega) (by decide) ?_
                refine bf_bipush (v := -2) dX12_count_89 (by decide) ?_
                obtain rfl := Option.some.inj hf
                exact bf_iret dX12_count_91 rfl (Nat.le_refl _) (Nat.le_refl _) ⟨rfl, rfl⟩
def f_X12_judge_48 (v0 : Nat) (v1 : Int32) (v2 : Int32) (v3 : Int32) (K : (Nat → Nat → Int32) → (Nat → Nat → Int64) → Option (Int32 × bf_St)) : Nat → Int32 → (Nat → Nat → Int32) → (Nat → Nat → Int64) → Option (Int32 × bf_St)
  | 0, _, _, _ => none
  | n + 1, v4, I, L =>
    ((f_X12_tokens v0 v1 I L).bind (fun r10 => (if r10.1 ≤ v4 then (K r10.2.1 r10.2.2) else (if bf_ok v2 6 then (if (r10.2.1 (v0 + 14) v2.toNatClampNeg) = (-1 : Int32) then (some (((100 : Int32) + v4), r10.2.1, r10.2.2)) else (if v3 < 0 then (some (((100 : Int32) + v4), r10.2.1, r10.2.2)) else (if bf_ok v2 6 then (if v4 < ((r10.2.1 (v0 + 15) v2.toNatClampNeg) - v3) then (if bf_ok ((((60 : Int32) * v2) + v3) + v4) 360 then (if bf_ok ((((74 : Int32) + ((105 : Int32) * v1)) + (6 : Int32)) + v4) 914 then (if (lg_cmp (r10.2.2 (v0 + 16) ((((60 : Int32) * v2) + v3) + v4).toNatClampNeg) ((r10.2.1 (v0 + 1) ((((74 : Int32) + ((105 : Int32) * v1)) + (6 : Int32)) + v4).toNatClampNeg)).toInt64) = 0 then (f_X12_judge_48 v0 v1 v2 v3 K n (v4 + (1 : Int32)) r10.2.1 r10.2.2) else (some (v4, r10.2.1, r10.2.2))) else none) else none) else (some (((100 : Int32) + v4), r10.2.1, r10.2.2))) else none))) else none))))
set_option maxRecDepth 100000 in
set_option maxHeartbeats 4000000 in
theorem ok_X12_judge_48 {Γ : bf_Gm} {ad : Nat → Nat} {v0 : Nat} {v1 : Int32} {v2 : Int32} {v3 : Int32} (hv0 : bf_kd v0 = 12) {r : Int32 × bf_St} {K : (Nat → Nat → Int32) → (Nat → Nat → Int64) → Option (Int32 × bf_St)} (hK : ∀ (I : Nat → Nat → Int32) (L : Nat → Nat → Int64), K  I L = some r → bf_Go Γ (bf_rm 2 0 0) mu_X12_judge bf_E0 (bf_Z Γ (fun q h => q = some (.int r.1) ∧ h = bf_S ad r.2.1 r.2.2) 0 0) (0, 0) 137 [] [] (bf_S ad I L)) : ∀ (n : Nat) (v4 : Int32) (I : Nat → Nat → Int32) (L : Nat → Nat → Int64), f_X12_judge_48 v0 v1 v2 v3 K n v4 I L = some r → bf_Go Γ (bf_rm 2 0 0) mu_X12_judge bf_E0 (bf_Z Γ (fun q h => q = some (.int r.1) ∧ h = bf_S ad r.2.1 r.2.2) 0 0) (0, 0) 48 [(0, .ref (ad v0)), (1, .int v1), (2, .int v2), (3, .int v3), (4, .int v4)] [] (bf_S ad I L) := by
  intro n
  induction n with
  | zero => intro v4 I L hf; exact absurd (show none = some r from hf) (by simp)
  | succ n ih =>
    intro v4 I L hf
    rw [f_X12_judge_48] at hf
    refine bf_iload 4 dX12_judge_48 rfl ?_
    refine bf_aload_n 0 dX12_judge_50 rfl rfl ?_
    refine bf_iload_n 1 dX12_judge_51 rfl rfl ?_
    obtain ⟨r10, e9, hf⟩ := bf_bind hf
    have hCe9 := ok_X12_tokens (Γ := Γ) (ad := ad) hv0 e9
    refine cv_X12_76 0 dX12_judge_52 rfl ⟨Nat.le_of_ble_eq_true rfl, Nat.le_of_ble_eq_true rfl⟩ (Nat.le_of_ble_eq_true rfl) hv0 hCe9 ?_
    refine bf_icmp_ge 137 dX12_judge_55 (by decide) (fun c11 => ?_) (fun c11 => ?_)
    · have hf := (if_pos c11).symm.trans hf
      refine bf_perm [] rfl ?_
      exact hK _ _ hf
    · have hf := (if_neg c11).symm.trans hf
      refine bf_aload_n 0 dX12_judge_58 rfl rfl ?_
      refine fg_X12_52 dX12_judge_59 rfl hv0 ?_
      refine bf_iload_n 2 dX12_judge_62 rfl rfl ?_
      rcases Decidable.em (bf_ok v2 6) with c12 | c12
      · have hf := (if_pos c12).symm.trans hf
        refine bf_iald dX12_judge_63 (kr_12_25 hv0) (by rw [(kl_12_25 hv0)]; exact c12) ?_
        refine bf_iconst (v := -1) dX12_judge_64 (by decide) ?_
        refine bf_icmp_eq 85 dX12_judge_65 (by decide) (fun c13 => ?_) (fun c13 => ?_)
        · have hf := (if_pos c13).symm.trans hf
          refine bf_bipush (v := 100) dX12_judge_85 (by decide) ?_
          refine bf_iload 4 dX12_judge_87 rfl ?_
          refine bf_iadd dX12_judge_89 ?_
          obtain rfl := Option.some.inj hf
          exact bf_iret dX12_judge_90 rfl (Nat.le_refl _) (Nat.le_refl _) ⟨rfl, rfl⟩
        · have hf := (if_neg c13).symm.trans hf
          refine bf_iload_n 3 dX12_judge_68 rfl rfl ?_
          refine bf_if_lt 85 dX12_judge_69 (by decide) (fun c14 => ?_) (fun c14 => ?_)
          · have hf := (if_pos c14).symm.trans hf
            refine bf_bipush (v := 100) dX12_judge_85 (by decide) ?_
            refine bf_iload 4 dX12_judge_87 rfl ?_
            refine bf_iadd dX12_judge_89 ?_
            obtain rfl := Option.some.inj hf
            exact bf_iret dX12_judge_90 rfl (Nat.le_refl _) (Nat.le_refl _) ⟨rfl, rfl⟩
          · have hf := (if_neg c14).symm.trans hf
            refine bf_iload 4 dX12_judge_72 rfl ?_
            refine bf_aload_n 0 dX12_judge_74 rfl rfl ?_
            refine fg_X12_55 dX12_judge_75 rfl hv0 ?_
            refine bf_iload_n 2 dX12_judge_78 rfl rfl ?_
            rcases Decidable.em (bf_ok v2 6) with c15 | c15
            · have hf := (if_pos c15).symm.trans hf
              refine bf_iald dX12_judge_79 (kr_12_26 hv0) (by rw [(kl_12_26 hv0)]; exact c15) ?_
              refine bf_iload_n 3 dX12_judge_80 rfl rfl ?_
              refine bf_isub dX12_judge_81 ?_
              refine bf_icmp_lt 91 dX12_judge_82 (by decide) (fun c16 => ?_) (fun c16 => ?_)
              · have hf := (if_pos c16).symm.trans hf
                refine bf_aload_n 0 dX12_judge_91 rfl rfl ?_
                refine fg_X12_58 dX12_judge_92 rfl hv0 ?_
                refine bf_bipush (v := 60) dX12_judge_95 (by decide) ?_
                refine bf_iload_n 2 dX12_judge_97 rfl rfl ?_
                refine bf_imul dX12_judge_98 ?_
                refine bf_iload_n 3 dX12_judge_99 rfl rfl ?_
                refine bf_iadd dX12_judge_100 ?_
                refine bf_iload 4 dX12_judge_101 rfl ?_
                refine bf_iadd dX12_judge_103 ?_
                rcases Decidable.em (bf_ok ((((60 : Int32) * v2) + v3) + v4) 360) with c17 | c17
                · have hf := (if_pos c17).symm.trans hf
                  refine bf_lald dX12_judge_104 (kr_12_27 hv0) (by rw [(kl_12_27 hv0)]; exact c17) ?_
                  refine bf_aload_n 0 dX12_judge_105 rfl rfl ?_
                  refine fg_X12_11 dX12_judge_106 rfl hv0 ?_
                  refine bf_bipush (v := 74) dX12_judge_109 (by decide) ?_
                  refine bf_bipush (v := 105) dX12_judge_111 (by decide) ?_
                  refine bf_iload_n 1 dX12_judge_113 rfl rfl ?_
                  refine bf_imul dX12_judge_114 ?_
                  refine bf_iadd dX12_judge_115 ?_
                  refine bf_bipush (v := 6) dX12_judge_116 (by decide) ?_
                  refine bf_iadd dX12_judge_118 ?_
                  refine bf_iload 4 dX12_judge_119 rfl ?_
                  refine bf_iadd dX12_judge_121 ?_
                  rcases Decidable.em (bf_ok ((((74 : Int32) + ((105 : Int32) * v1)) + (6 : Int32)) + v4) 914) with c18 | c18
                  · have hf := (if_pos c18).symm.trans hf
                    refine bf_iald dX12_judge_122 (kr_12_0 hv0) (by rw [(kl_12_0 hv0)]; exact c18) ?_
                    refine bf_i2l dX12_judge_123 ?_
                    refine bf_lcmp dX12_judge_124 ?_
                    refine bf_if_eq 131 dX12_judge_125 (by decide) (fun c19 => ?_) (fun c19 => ?_)
                    · have hf := (if_pos c19).symm.trans hf
                      refine bf_iinc 4 (v := _ + (1 : Int32)) (lv2 := [(4, .int _), (0, .ref _), (1, .int _), (2, .int _), (3, .int _)]) dX12_judge_131 rfl (by rfl) (by decide) rfl ?_
                      refine bf_goto 48 dX12_judge_134 (by decide) ?_
                      refine bf_perm [1, 2, 3, 4, 0] rfl ?_
                      exact ih _ _ _ hf
                    · have hf := (if_neg c19).symm.trans hf
                      refine bf_iload 4 dX12_judge_128 rfl ?_
                      obtain rfl := Option.some.inj hf
                      exact bf_iret dX12_judge_130 rfl (Nat.le_refl _) (Nat.le_refl _) ⟨rfl, rfl⟩
                  · exact absurd ((if_neg c18).symm.trans hf) (by simp)
                · exact absurd ((if_neg c17).symm.trans hf) (by simp)
              · have hf := (if_neg c16).symm.trans hf
                refine bf_bipush (v := 100) dX12_judge_85 (by decide) ?_
                refine bf_iload 4 dX12_judge_87 rfl ?_
                refine bf_iadd dX12_judge_89 ?_
                obtain rfl := Option.some.inj hf
                exact bf_iret dX12_judge_90 rfl (Nat.le_refl _) (Nat.le_refl _) ⟨rfl, rfl⟩
            · exact absurd ((if_neg c15).symm.trans hf) (by simp)
      · exact absurd ((if_neg c12).symm.trans hf) (by simp)
def f_X12_judge_p45 (v0 : Nat) (v1 : Int32) (v2 : Int32) (v3 : Int32) (I : Nat → Nat → Int32) (L : Nat → Nat → Int64) : Option (Int32 × bf_St) :=
  (f_X12_judge_48 v0 v1 v2 v3 (fun I20 L20 => (some ((-5 : Int32), I20, L20))) 400 (0 : Int32) I L)
set_option maxRecDepth 100000 in
set_option maxHeartbeats 4000000 in
theorem ok_X12_judge_p45 {Γ : bf_Gm} {ad : Nat → Nat} {v0 : Nat} {v1 : Int32} {v2 : Int32} {v3 : Int32} {I : Nat → Nat → Int32} {L : Nat → Nat → Int64} (hv0 : bf_kd v0 = 12) {r : Int32 × bf_St} (hf : f_X12_judge_p45 v0 v1 v2 v3 I L = some r) : bf_Go Γ (bf_rm 2 0 0) mu_X12_judge bf_E0 (bf_Z Γ (fun q h => q = some (.int r.1) ∧ h = bf_S ad r.2.1 r.2.2) 0 0) (0, 0) 45 [(0, .ref (ad v0)), (1, .int v1), (2, .int v2), (3, .int v3)] [] (bf_S ad I L) := by
  unfold f_X12_judge_p45 at hf
  refine bf_iconst (v := 0) dX12_judge_45 (by decide) ?_
  refine bf_istore (lv2 := [(4, .int _), (0, .ref _), (1, .int _), (2, .int _), (3, .int _)]) dX12_judge_46 (by decide) rfl ?_
  refine bf_perm [1, 2, 3, 4, 0] rfl ?_
  refine ok_X12_judge_48 hv0 (fun I20 L20 hf => ?_) _ _ _ _  hf
  refine bf_bipush (v := -5) dX12_judge_137 (by decide) ?_
  obtain rfl := Option.some.inj hf
  exact bf_iret dX12_judge_139 rfl (Nat.le_refl _) (Nat.le_refl _) ⟨rfl, rfl⟩
def f_X12_judge (o : Nat) (a0 : Int32) (a1 : Int32) (a2 : Int32) (I : Nat → Nat → Int32) (L : Nat → Nat → Int64) : Option (Int32 × bf_St) :=
  ((f_X12_isWire o a0 I L).bind (fun r2 => (if r2.1 = 0 then (some ((-1 : Int32), r2.2.1, r2.2.2)) else ((f_X12_in (a1).toInt64 (0 : Int64) (5 : Int64) r2.2.1 r2.2.2).bind (fun r5 => (if r5.1 = 0 then (some ((-1 : Int32), r5.2.1, r5.2.2)) else (if bf_ok a1 6 then (if (r5.2.1 (o + 14) a1.toNatClampNeg) = (-1 : Int32) then (f_X12_judge_p45 o a0 a1 a2 r5.2.1 r5.2.2) else (if bf_ok a1 6 then (if (r5.2.1 (o + 14) a1.toNatClampNeg) = (2 : Int32) then (f_X12_judge_p45 o a0 a1 a2 r5.2.1 r5.2.2) else (some ((-12 : Int32), r5.2.1, r5.2.2))) else none)) else none)))))))
set_option maxRecDepth 100000 in
set_option maxHeartbeats 4000000 in
theorem ok_X12_judge {Γ : bf_Gm} {ad : Nat → Nat} {o : Nat} {a0 : Int32} {a1 : Int32} {a2 : Int32} {I : Nat → Nat → Int32} {L : Nat → Nat → Int64} (hk : bf_kd o = 12) {r : Int32 × bf_St} (hf : f_X12_judge o a0 a1 a2 I L = some r) : bf_Cn Γ 2 mu_X12_judge 0 0 [.ref (ad o), .int a0, .int a1, .int a2] (bf_S ad I L) (fun q h => q = some (.int r.1) ∧ h = bf_S ad r.2.1 r.2.2) := by
  refine bf_met rfl (Nat.le_of_ble_eq_true rfl) ?_
  unfold f_X12_judge at hf
  refine bf_aload_n 0 dX12_judge_0 rfl rfl ?_
  refine bf_iload_n 1 dX12_judge_1 rfl rfl ?_
  obtain ⟨r2, e1, hf⟩ := bf_bind hf
  have hCe1 := ok_X12_isWire (Γ := Γ) (ad := ad) hk e1
  refine cv_X12_73 1 dX12_judge_2 rfl ⟨Nat.le_of_ble_eq_true rfl, Nat.le_of_ble_eq_true rfl⟩ (Nat.le_of_ble_eq_true rfl) hk hCe1 ?_
  refine bf_if_eq 20 dX12_judge_5 (by decide) (fun c3 => ?_) (fun c3 => ?_)
  · have hf := (if_pos c3).symm.trans hf
    refine bf_iconst (v := -1) dX12_judge_20 (by decide) ?_
    obtain rfl := Option.some.inj hf
    exact bf_iret dX12_judge_21 rfl (Nat.le_refl _) (Nat.le_refl _) ⟨rfl, rfl⟩
  · have hf := (if_neg c3).symm.trans hf
    refine bf_iload_n 2 dX12_judge_8 rfl rfl ?_
    refine bf_i2l dX12_judge_9 ?_
    refine bf_lconst (v := 0) dX12_judge_10 (by decide) ?_
    refine bf_ldc2 dX12_judge_11 wk_X12_298 ?_
    obtain ⟨r5, e4, hf⟩ := bf_bind hf
    have hCe4 := ok_X12_in (Γ := Γ) (ad := ad)  e4
    refine cv_X12_61 0 dX12_judge_14 rfl ⟨Nat.le_of_ble_eq_true rfl, Nat.le_of_ble_eq_true rfl⟩ (Nat.le_of_ble_eq_true rfl) hCe4 ?_
    refine bf_if_ne 22 dX12_judge_17 (by decide) (fun c6 => ?_) (fun c6 => ?_)
    · have hf := (if_neg c6).symm.trans hf
      refine bf_aload_n 0 dX12_judge_22 rfl rfl ?_
      refine fg_X12_52 dX12_judge_23 rfl hk ?_
      refine bf_iload_n 2 dX12_judge_26 rfl rfl ?_
      rcases Decidable.em (bf_ok a1 6) with c7 | c7
      · have hf := (if_pos c7).symm.trans hf
        refine bf_iald dX12_judge_27 (kr_12_25 hk) (by rw [(kl_12_25 hk)]; exact c7) ?_
        refine bf_iconst (v := -1) dX12_judge_28 (by decide) ?_
        refine bf_icmp_eq 45 dX12_judge_29 (by decide) (fun c8 => ?_) (fun c8 => ?_)
        · have hf := (if_pos c8).symm.trans hf
          exact ok_X12_judge_p45 hk  hf
        · have hf := (if_neg c8).symm.trans hf
          refine bf_aload_n 0 dX12_judge_32 rfl rfl ?_
          refine fg_X12_52 dX12_judge_33 rfl hk ?_
          refine bf_iload_n 2 dX12_judge_36 rfl rfl ?_
          rcases Decidable.em (bf_ok a1 6) with c21 | c21
          · have hf := (if_pos c21).symm.trans hf
            refine bf_iald dX12_judge_37 (kr_12_25 hk) (by rw [(kl_12_25 hk)]; exact c21) ?_
            refine bf_iconst (v := 2) dX12_judge_38 (by decide) ?_
            refine bf_icmp_eq 45 dX12_judge_39 (by decide) (fun c22 => ?_) (fun c22 => ?_)
            · have hf := (if_pos c22).symm.trans hf
              exact ok_X12_judge_p45 hk  hf
            · have hf := (if_neg c22).symm.trans hf
              refine bf_bipush (v := -12) dX12_judge_42 (by decide) ?_
              obtain rfl := Option.some.inj hf
              exact bf_iret dX12_judge_44 rfl (Nat.le_refl _) (Nat.le_refl _) ⟨rfl, rfl⟩
          · exact absurd ((if_neg c21).symm.trans hf) (by simp)
      · exact absurd ((if_neg c7).symm.trans hf) (by simp)
    · have hf := (if_pos c6).symm.trans hf
      refine bf_iconst (v := -1) dX12_judge_20 (by decide) ?_
      obtain rfl := Option.some.inj hf
      exact bf_iret dX12_judge_21 rfl (Nat.le_refl _) (Nat.le_refl _) ⟨rfl, rfl⟩
def f_X12_tape_80 (v0 : Nat) (v1 : Int32) (K : (Nat → Nat → Int32) → (Nat → Nat → Int64) → Option (Int32 × bf_St)) : Nat → Int32 → (Nat → Nat → Int32) → (Nat → Nat → Int64) → Option (Int32 × bf_St)
  | 0, _, _, _ => none
  | n + 1, v4, I, L =>
    (if (60 : Int32) ≤ v4 then (K I L) else (if bf_ok (((60 : Int32) * v1) + v4) 360 then (f_X12_tape_80 v0 v1 K n (v4 + (1 : Int32)) I (bf_u L (v0 + 16) (((60 : Int32) * v1) + v4).toNatClampNeg (0 : Int64))) else none))
set_option maxRecDepth 100000 in
set_option maxHeartbeats 4000000 in
theorem ok_X12_tape_80 {Γ : bf_Gm} {ad : Nat → Nat} {v0 : Nat} {v1 : Int32} (hv0 : bf_kd v0 = 12) {r : Int32 × bf_St} {K : (Nat → Nat → Int32) → (Nat → Nat → Int64) → Option (Int32 × bf_St)} (hK : ∀ (I : Nat → Nat → Int32) (L : Nat → Nat → Int64), K  I L = some r → bf_Go Γ (bf_rm 1 0 0) mu_X12_tape bf_E0 (bf_Z Γ (fun q h => q = some (.int r.1) ∧ h = bf_S ad r.2.1 r.2.2) 0 0) (0, 0) 106 [] [] (bf_S ad I L)) : ∀ (n : Nat) (v4 : Int32) (I : Nat → Nat → Int32) (L : Nat → Nat → Int64), f_X12_tape_80 v0 v1 K n v4 I L = some r → bf_Go Γ (bf_rm 1 0 0) mu_X12_tape bf_E0 (bf_Z Γ (fun q h => q = some (.int r.1) ∧ h = bf_S ad r.2.1 r.2.2) 0 0) (0, 0) 80 [(0, .ref (ad v0)), (1, .int v1), (4, .int v4)] [] (bf_S ad I L) := by
  intro n
  induction n with
  | zero => intro v4 I L hf; exact absurd (show none = some r from hf) (by simp)
  | succ n ih =>
    intro v4 I L hf
    rw [f_X12_tape_80] at hf
    refine bf_iload 2 dX12_tape_80 rfl ?_
    refine bf_bipush (v := 60) dX12_tape_82 (by decide) ?_
    refine bf_icmp_ge 106 dX12_tape_84 (by decide) (fun c12 => ?_) (fun c12 => ?_)
    · have hf := (if_pos c12).symm.trans hf
      refine bf_perm [] rfl ?_
      exact hK _ _ hf
    · have hf := (if_neg c12).symm.trans hf
      refine bf_aload_n 0 dX12_tape_87 rfl rfl ?_
      refine fg_X12_58 dX12_tape_88 rfl hv0 ?_
      refine bf_bipush (v := 60) dX12_tape_91 (by decide) ?_
      refine bf_iload_n 1 dX12_tape_93 rfl rfl ?_
      refine bf_imul dX12_tape_94 ?_
      refine bf_iload 2 dX12_tape_95 rfl ?_
      refine bf_iadd dX12_tape_97 ?_
      refine bf_lconst (v := 0) dX12_tape_98 (by decide) ?_
      rcases Decidable.em (bf_ok (((60 : Int32) * v1) + v4) 360) with c13 | c13
      · have hf := (if_pos c13).symm.trans hf
        refine bf_last dX12_tape_99 (kr_12_27 hv0) (by rw [(kl_12_27 hv0)]; exact c13) ?_
        refine bf_iinc 2 (v := _ + (1 : Int32)) (lv2 := [(4, .int _), (0, .ref _), (1, .int _)]) dX12_tape_100 rfl (by rfl) (by decide) rfl ?_
        refine bf_goto 80 dX12_tape_103 (by decide) ?_
        refine bf_perm [1, 2, 0] rfl ?_
        exact ih _ _ _ hf
      · exact absurd ((if_neg c13).symm.trans hf) (by simp)
def f_X12_tape_p76 (v0 : Nat) (v1 : Int32) (s0 : Int32) (s1 : Int32) (s2 : Nat) (I : Nat → Nat → Int32) (L : Nat → Nat → Int64) : Option (Int32 × bf_St) :=
  (if bf_ok s1 (bf_le s2) then (f_X12_tape_80 v0 v1 (fun I14 L14 => (some ((1 : Int32), I14, L14))) 400 (0 : Int32) (bf_u I s2 s1.toNatClampNeg s0) L) else none)
set_option maxRecDepth 100000 in
set_option maxHeartbeats 4000000 in
theorem ok_X12_tape_p76 {Γ : bf_Gm} {ad : Nat → Nat} {v0 : Nat} {v1 : Int32} {s0 : Int32} {s1 : Int32} {s2 : Nat} {I : Nat → Nat → Int32} {L : Nat → Nat → Int64} (hv0 : bf_kd v0 = 12) (hs2 : bf_kd s2 = 14) {r : Int32 × bf_St} (hf : f_X12_tape_p76 v0 v1 s0 s1 s2 I L = some r) : bf_Go Γ (bf_rm 1 0 0) mu_X12_tape bf_E0 (bf_Z Γ (fun q h => q = some (.int r.1) ∧ h = bf_S ad r.2.1 r.2.2) 0 0) (0, 0) 76 [(0, .ref (ad v0)), (1, .int v1)] [.int s0, .int s1, .ref (ad s2)] (bf_S ad I L) := by
  unfold f_X12_tape_p76 at hf
  rcases Decidable.em (bf_ok s1 (bf_le s2)) with c11 | c11
  · have hf := (if_pos c11).symm.trans hf
    refine bf_iast dX12_tape_76 hs2 c11 ?_
    refine bf_iconst (v := 0) dX12_tape_77 (by decide) ?_
    refine bf_istore (lv2 := [(4, .int _), (0, .ref _), (1, .int _)]) dX12_tape_78 (by decide) rfl ?_
    refine bf_perm [1, 2, 0] rfl ?_
    refine ok_X12_tape_80 hv0 (fun I14 L14 hf => ?_) _ _ _ _  hf
    refine bf_iconst (v := 1) dX12_tape_106 (by decide) ?_
    obtain rfl := Option.some.inj hf
    exact bf_iret dX12_tape_107 rfl (Nat.le_refl _) (Nat.le_refl _) ⟨rfl, rfl⟩
  · exact absurd ((if_neg c11).symm.trans hf) (by simp)
def f_X12_tape_p54 (v0 : Nat) (v1 : Int32) (v2 : Int32) (v3 : Int32) (I : Nat → Nat → Int32) (L : Nat → Nat → Int64) : Option (Int32 × bf_St) :=
  (if bf_ok v1 6 then (if v2 = (-1 : Int32) then (f_X12_tape_p76 v0 v1 (0 : Int32) v1 (v0 + 15) (bf_u I (v0 + 14) v1.toNatClampNeg v2) L) else (f_X12_tape_p76 v0 v1 v3 v1 (v0 + 15) (bf_u I (v0 + 14) v1.toNatClampNeg v2) L)) else none)
set_option maxRecDepth 100000 in
set_option maxHeartbeats 4000000 in
theorem ok_X12_tape_p54 {Γ : bf_Gm} {ad : Nat → Nat} {v0 : Nat} {v1 : Int32} {v2 : Int32} {v3 : Int32} {I : Nat → Nat → Int32} {L : Nat → Nat → Int64} (hv0 : bf_kd v0 = 12) {r : Int32 × bf_St} (hf : f_X12_tape_p54 v0 v1 v2 v3 I L = some r) : bf_Go Γ (bf_rm 1 0 0) mu_X12_tape bf_E0 (bf_Z Γ (fun q h => q = some (.int r.1) ∧ h = bf_S ad r.2.1 r.2.2) 0 0) (0, 0) 54 [(0, .ref (ad v0)), (1, .int v1), (2, .int v2), (3, .int v3)] [] (bf_S ad I L) := by
  unfold f_X12_tape_p54 at hf
  refine bf_aload_n 0 dX12_tape_54 rfl rfl ?_
  refine fg_X12_52 dX12_tape_55 rfl hv0 ?_
  refine bf_iload_n 1 dX12_tape_58 rfl rfl ?_
  refine bf_iload_n 2 dX12_tape_59 rfl rfl ?_
  rcases Decidable.em (bf_ok v1 6) with c9 | c9
  · have hf := (if_pos c9).symm.trans hf
    refine bf_iast dX12_tape_60 (kr_12_25 hv0) (by rw [(kl_12_25 hv0)]; exact c9) ?_
    refine bf_aload_n 0 dX12_tape_61 rfl rfl ?_
    refine fg_X12_55 dX12_tape_62 rfl hv0 ?_
    refine bf_iload_n 1 dX12_tape_65 rfl rfl ?_
    refine bf_iload_n 2 dX12_tape_66 rfl rfl ?_
    refine bf_iconst (v := -1) dX12_tape_67 (by decide) ?_
    refine bf_icmp_ne 75 dX12_tape_68 (by decide) (fun c10 => ?_) (fun c10 => ?_)
    · have hf := (if_neg c10).symm.trans hf
      refine bf_iload_n 3 dX12_tape_75 rfl rfl ?_
      refine bf_perm [0, 1] rfl ?_
      exact ok_X12_tape_p76 hv0 (kr_12_26 hv0) hf
    · have hf := (if_pos c10).symm.trans hf
      refine bf_iconst (v := 0) dX12_tape_71 (by decide) ?_
      refine bf_goto 76 dX12_tape_72 (by decide) ?_
      refine bf_perm [0, 1] rfl ?_
      exact ok_X12_tape_p76 hv0 (kr_12_26 hv0) hf
  · exact absurd ((if_neg c9).symm.trans hf) (by simp)
def f_X12_tape_p42 (v0 : Nat) (v1 : Int32) (v2 : Int32) (v3 : Int32) (I : Nat → Nat → Int32) (L : Nat → Nat → Int64) : Option (Int32 × bf_St) :=
  (if v2 = (-1 : Int32) then (f_X12_tape_p54 v0 v1 v2 v3 I L) else (if 0 ≤ v3 then (f_X12_tape_p54 v0 v1 v2 v3 I L) else (some ((-14 : Int32), I, L))))
set_option maxRecDepth 100000 in
set_option maxHeartbeats 4000000 in
theorem ok_X12_tape_p42 {Γ : bf_Gm} {ad : Nat → Nat} {v0 : Nat} {v1 : Int32} {v2 : Int32} {v3 : Int32} {I : Nat → Nat → Int32} {L : Nat → Nat → Int64} (hv0 : bf_kd v0 = 12) {r : Int32 × bf_St} (hf : f_X12_tape_p42 v0 v1 v2 v3 I L = some r) : bf_Go Γ (bf_rm 1 0 0) mu_X12_tape bf_E0 (bf_Z Γ (fun q h => q = some (.int r.1) ∧ h = bf_S ad r.2.1 r.2.2) 0 0) (0, 0) 42 [(0, .ref (ad v0)), (1, .int v1), (2, .int v2), (3, .int v3)] [] (bf_S ad I L) := by
  unfold f_X12_tape_p42 at hf
  refine bf_iload_n 2 dX12_tape_42 rfl rfl ?_
  refine bf_iconst (v := -1) dX12_tape_43 (by decide) ?_
  refine bf_icmp_eq 54 dX12_tape_44 (by decide) (fun c8 => ?_) (fun c8 => ?_)
  · have hf := (if_pos c8).symm.trans hf
    exact ok_X12_tape_p54 hv0  hf
  · have hf := (if_neg c8).symm.trans hf
    refine bf_iload_n 3 dX12_tape_47 rfl rfl ?_
    refine bf_if_ge 54 dX12_tape_48 (by decide) (fun c15 => ?_) (fun c15 => ?_)
    · have hf := (if_pos c15).symm.trans hf
      exact ok_X12_tape_p54 hv0  hf
    · have hf := (if_neg c15).symm.trans hf
      refine bf_bipush (v := -14) dX12_tape_51 (by decide) ?_
      obtain rfl := Option.some.inj hf
      exact bf_iret dX12_tape_53 rfl (Nat.le_refl _) (Nat.le_refl _) ⟨rfl, rfl⟩
def f_X12_tape (o : Nat) (a0 : Int32) (a1 : Int32) (a2 : Int32) (I : Nat → Nat → Int32) (L : Nat → Nat → Int64) : Option (Int32 × bf_St) :=
  ((f_X12_in (a0).toInt64 (0 : Int64) (5 : Int64) I L).bind (fun r2 => (if r2.1 = 0 then (some ((-1 : Int32), r2.2.1, r2.2.2)) else ((f_X12_in (a1).toInt64 (-1 : Int64) (4 : Int64) r2.2.1 r2.2.2).bind (fun r5 => (if r5.1 = 0 then (some ((-2 : Int32), r5.2.1, r5.2.2)) else (if a1 = (-1 : Int32) then (f_X12_tape_p42 o a0 a1 a2 r5.2.1 r5.2.2) else (if a2 ≤ (60 : Int32) then (f_X12_tape_p42 o a0 a1 a2 r5.2.1 r5.2.2) else (some ((-2 : Int32), r5.2.1, r5.2.2))))))))))
set_option maxRecDepth 100000 in
set_option maxHeartbeats 4000000 in
theorem ok_X12_tape {Γ : bf_Gm} {ad : Nat → Nat} {o : Nat} {a0 : Int32} {a1 : Int32} {a2 : Int32} {I : Nat → Nat → Int32} {L : Nat → Nat → Int64} (hk : bf_kd o = 12) {r : Int32 × bf_St} (hf : f_X12_tape o a0 a1 a2 I L = some r) : bf_Cn Γ 1 mu_X12_tape 0 0 [.ref (ad o), .int a0, .int a1, .int a2] (bf_S ad I L) (fun q h => q = some (.int r.1) ∧ h = bf_S ad r.2.1 r.2.2) := by
  refine bf_met rfl (Nat.le_of_ble_eq_true rfl) ?_
  unfold f_X12_tape at hf
  refine bf_iload_n 1 dX12_tape_0 rfl rfl ?_
  refine bf_i2l dX12_tape_1 ?_
  refine bf_lconst (v := 0) dX12_tape_2 (by decide) ?_
  refine bf_ldc2 dX12_tape_3 wk_X12_298 ?_
  obtain ⟨r2, e1, hf⟩ := bf_bind hf
  have hCe1 := ok_X12_in (Γ := Γ) (ad := ad)  e1
  refine cv_X12_61 0 dX12_tape_6 rfl ⟨Nat.le_of_ble_eq_true rfl, Nat.le_of_ble_eq_true rfl⟩ (Nat.le_of_ble_eq_true rfl) hCe1 ?_
  refine bf_if_ne 14 dX12_tape_9 (by decide) (fun c3 => ?_) (fun c3 => ?_)
  · have hf := (if_neg c3).symm.trans hf
    refine bf_iload_n 2 dX12_tape_14 rfl rfl ?_
    refine bf_i2l dX12_tape_15 ?_
    refine bf_ldc2 dX12_tape_16 wk_X12_300 ?_
    refine bf_ldc2 dX12_tape_19 wk_X12_65 ?_
    obtain ⟨r5, e4, hf⟩ := bf_bind hf
    have hCe4 := ok_X12_in (Γ := Γ) (ad := ad)  e4
    refine cv_X12_61 0 dX12_tape_22 rfl ⟨Nat.le_of_ble_eq_true rfl, Nat.le_of_ble_eq_true rfl⟩ (Nat.le_of_ble_eq_true rfl) hCe4 ?_
    refine bf_if_eq 39 dX12_tape_25 (by decide) (fun c6 => ?_) (fun c6 => ?_)
    · have hf := (if_pos c6).symm.trans hf
      refine bf_bipush (v := -2) dX12_tape_39 (by decide) ?_
      obtain rfl := Option.some.inj hf
      exact bf_iret dX12_tape_41 rfl (Nat.le_refl _) (Nat.le_refl _) ⟨rfl, rfl⟩
    · have hf := (if_neg c6).symm.trans hf
      refine bf_iload_n 2 dX12_tape_28 rfl rfl ?_
      refine bf_iconst (v := -1) dX12_tape_29 (by decide) ?_
      refine bf_icmp_eq 42 dX12_tape_30 (by decide) (fun c7 => ?_) (fun c7 => ?_)
      · have hf := (if_pos c7).symm.trans hf
        exact ok_X12_tape_p42 hk  hf
      · have hf := (if_neg c7).symm.trans hf
        refine bf_iload_n 3 dX12_tape_33 rfl rfl ?_
        refine bf_bipush (v := 60) dX12_tape_34 (by decide) ?_
        refine bf_icmp_le 42 dX12_tape_36 (by decide) (fun c16 => ?_) (fun c16 => ?_)
        · have hf := (if_pos c16).symm.trans hf
          exact ok_X12_tape_p42 hk  hf
        · have hf := (if_neg c16).symm.trans hf
          refine bf_bipush (v := -2) dX12_tape_39 (by decide) ?_
          obtain rfl := Option.some.inj hf
          exact bf_iret dX12_tape_41 rfl (Nat.le_refl _) (Nat.le_refl _) ⟨rfl, rfl⟩
  · have hf := (if_pos c3).symm.trans hf
    refine bf_iconst (v := -1) dX12_tape_12 (by decide) ?_
    obtain rfl := Option.some.inj hf
    exact bf_iret dX12_tape_13 rfl (Nat.le_refl _) (Nat.le_refl _) ⟨rfl, rfl⟩
def f_X12_lowestBits (a0 : Int32) (a1 : Int64) (I : Nat → Nat → Int32) (L : Nat → Nat → Int64) : Option (Int64 × bf_St) :=
  (if a0 = 0 then (some ((((a1).toInt32).toInt8.toInt32).toInt64, I, L)) else (if a0 = 1 then (some ((((a1).toInt32).toInt16.toInt32).toInt64, I, L)) else (if a0 = 2 then (some (((a1).toInt32).toInt64, I, L)) else (if a0 = 3 then (some (a1, I, L)) else (if (lg_cmp a1 (0 : Int64)) = 0 then (some ((0 : Int64), I, L)) else (some ((1 : Int64), I, L)))))))
set_option maxRecDepth 100000 in
set_option maxHeartbeats 4000000 in
theorem ok_X12_lowestBits {Γ : bf_Gm} {ad : Nat → Nat} {a0 : Int32} {a1 : Int64} {I : Nat → Nat → Int32} {L : Nat → Nat → Int64} {r : Int64 × bf_St} (hf : f_X12_lowestBits a0 a1 I L = some r) : bf_Cn Γ 0 mu_X12_lowestBits 0 0 [.int a0, .long a1] (bf_S ad I L) (fun q h => q = some (.long r.1) ∧ h = bf_S ad r.2.1 r.2.2) := by
  refine bf_met rfl (Nat.le_of_ble_eq_true rfl) ?_
  unfold f_X12_lowestBits at hf
  refine bf_iload_n 0 dX12_lowestBits_0 rfl rfl ?_
  rcases Decidable.em (a0 = 0) with c1 | c1
  · have hf := (if_pos c1).symm.trans hf
    refine bf_swIn 32 dX12_lowestBits_1 (by rw [c1]; decide) (by rw [c1]; decide) (by rw [c1]; rfl) (by decide) ?_
    refine bf_lload_n 1 dX12_lowestBits_32 rfl rfl ?_
    refine bf_l2i dX12_lowestBits_33 ?_
    refine bf_i2b dX12_lowestBits_34 ?_
    refine bf_i2l dX12_lowestBits_35 ?_
    obtain rfl := Option.some.inj hf
    exact bf_lret dX12_lowestBits_36 rfl (Nat.le_refl _) (Nat.le_refl _) ⟨rfl, rfl⟩
  · have hf := (if_neg c1).symm.trans hf
    rcases Decidable.em (a0 = 1) with c2 | c2
    · have hf := (if_pos c2).symm.trans hf
      refine bf_swIn 37 dX12_lowestBits_1 (by rw [c2]; decide) (by rw [c2]; decide) (by rw [c2]; rfl) (by decide) ?_
      refine bf_lload_n 1 dX12_lowestBits_37 rfl rfl ?_
      refine bf_l2i dX12_lowestBits_38 ?_
      refine bf_i2s dX12_lowestBits_39 ?_
      refine bf_i2l dX12_lowestBits_40 ?_
      obtain rfl := Option.some.inj hf
      exact bf_lret dX12_lowestBits_41 rfl (Nat.le_refl _) (Nat.le_refl _) ⟨rfl, rfl⟩
    · have hf := (if_neg c2).symm.trans hf
      rcases Decidable.em (a0 = 2) with c3 | c3
      · have hf := (if_pos c3).symm.trans hf
        refine bf_swIn 42 dX12_lowestBits_1 (by rw [c3]; decide) (by rw [c3]; decide) (by rw [c3]; rfl) (by decide) ?_
        refine bf_lload_n 1 dX12_lowestBits_42 rfl rfl ?_
        refine bf_l2i dX12_lowestBits_43 ?_
        refine bf_i2l dX12_lowestBits_44 ?_
        obtain rfl := Option.some.inj hf
        exact bf_lret dX12_lowestBits_45 rfl (Nat.le_refl _) (Nat.le_refl _) ⟨rfl, rfl⟩
      · have hf := (if_neg c3).symm.trans hf
        rcases Decidable.em (a0 = 3) with c4 | c4
        · have hf := (if_pos c4).symm.trans hf
          refine bf_swIn 46 dX12_lowestBits_1 (by rw [c4]; decide) (by rw [c4]; decide) (by rw [c4]; rfl) (by decide) ?_
          refine bf_lload_n 1 dX12_lowestBits_46 rfl rfl ?_
          obtain rfl := Option.some.inj hf
          exact bf_lret dX12_lowestBits_47 rfl (Nat.le_refl _) (Nat.le_refl _) ⟨rfl, rfl⟩
        · have hf := (if_neg c4).symm.trans hf
          have c1 : _ ≠ (0 : Int) := bf_nne c1
          have c2 : _ ≠ (1 : Int) := bf_nne c2
          have c3 : _ ≠ (2 : Int) := bf_nne c3
          have c4 : _ ≠ (3 : Int) := bf_nne c4
          refine bf_swOut 48 dX12_lowestBits_1 (by omega) (by decide) ?_
          refine bf_lload_n 1 dX12_lowestBits_48 rfl rfl ?_
          refine bf_lconst (v := 0) dX12_lowestBits_49 (by decide) ?_
          refine bf_lcmp dX12_lowestBits_50 ?_
          refine bf_if_ne 58 dX12_lowestBits_51 (by decide) (fun c5 => ?_) (fun c5 => ?_)
          · have hf := (if_neg c5).symm.trans hf
            refine bf_lconst (v := 1) dX12_lowestBits_58 (by decide) ?_
            obtain rfl := Option.some.inj hf
            exact bf_lret dX12_lowestBits_59 rfl (Nat.le_refl _) (Nat.le_refl _) ⟨rfl, rfl⟩
          · have hf := (if_pos c5).symm.trans hf
            refine bf_lconst (v := 0) dX12_lowestBits_54 (by decide) ?_
            refine bf_goto 59 dX12_lowestBits_55 (by decide) ?_
            obtain rfl := Option.some.inj hf
            exact bf_lret dX12_lowestBits_59 rfl (Nat.le_refl _) (Nat.le_refl _) ⟨rfl, rfl⟩
def f_X12_item (o : Nat) (a0 : Int32) (a1 : Int32) (a2 : Int64) (I : Nat → Nat → Int32) (L : Nat → Nat → Int64) : Option (Int32 × bf_St) :=
  ((f_X12_in (a0).toInt64 (0 : Int64) (5 : Int64) I L).bind (fun r2 => (if r2.1 = 0 then (some ((-1 : Int32), r2.2.1, r2.2.2)) else (if bf_ok a0 6 then (if (r2.2.1 (o + 14) a0.toNatClampNeg) = (-1 : Int32) then (some ((-11 : Int32), r2.2.1, r2.2.2)) else (if bf_ok a0 6 then ((f_X12_in (a1).toInt64 (0 : Int64) (((r2.2.1 (o + 15) a0.toNatClampNeg) - (1 : Int32))).toInt64 r2.2.1 r2.2.2).bind (fun r8 => (if r8.1 = 0 then (some ((-13 : Int32), r8.2.1, r8.2.2)) else (if bf_ok a0 6 then ((f_X12_lowestBits (r8.2.1 (o + 14) a0.toNatClampNeg) a2 r8.2.1 r8.2.2).bind (fun r12 => (if bf_ok (((60 : Int32) * a0) + a1) 360 then (some ((1 : Int32), r12.2.1, (bf_u r12.2.2 (o + 16) (((60 : Int32) * a0) + a1).toNatClampNeg r12.1))) else none))) else none)))) else none)) else none))))
set_option maxRecDepth 100000 in
set_option maxHeartbeats 4000000 in
theorem ok_X12_item {Γ : bf_Gm} {ad : Nat → Nat} {o : Nat} {a0 : Int32} {a1 : Int32} {a2 : Int64} {I : Nat → Nat → Int32} {L : Nat → Nat → Int64} (hk : bf_kd o = 12) {r : Int32 × bf_St} (hf : f_X12_item o a0 a1 a2 I L = some r) : bf_Cn Γ 1 mu_X12_item 0 0 [.ref (ad o), .int a0, .int a1, .long a2] (bf_S ad I L) (fun q h => q = some (.int r.1) ∧ h = bf_S ad r.2.1 r.2.2) := by
  refine bf_met rfl (Nat.le_of_ble_eq_true rfl) ?_
  unfold f_X12_item at hf
  refine bf_iload_n 1 dX12_item_0 rfl rfl ?_
  refine bf_i2l dX12_item_1 ?_
  refine bf_lconst (v := 0) dX12_item_2 (by decide) ?_
  refine bf_ldc2 dX12_item_3 wk_X12_298 ?_
  obtain ⟨r2, e1, hf⟩ := bf_bind hf
  have hCe1 := ok_X12_in (Γ := Γ) (ad := ad)  e1
  refine cv_X12_61 0 dX12_item_6 rfl ⟨Nat.le_of_ble_eq_true rfl, Nat.le_of_ble_eq_true rfl⟩ (Nat.le_of_ble_eq_true rfl) hCe1 ?_
  refine bf_if_ne 14 dX12_item_9 (by decide) (fun c3 => ?_) (fun c3 => ?_)
  · have hf := (if_neg c3).symm.trans hf
    refine bf_aload_n 0 dX12_item_14 rfl rfl ?_
    refine fg_X12_52 dX12_item_15 rfl hk ?_
    refine bf_iload_n 1 dX12_item_18 rfl rfl ?_
    rcases Decidable.em (bf_ok a0 6) with c4 | c4
    · have hf := (if_pos c4).symm.trans hf
      refine bf_iald dX12_item_19 (kr_12_25 hk) (by rw [(kl_12_25 hk)]; exact c4) ?_
      refine bf_iconst (v := -1) dX12_item_20 (by decide) ?_
      refine bf_icmp_ne 27 dX12_item_21 (by decide) (fun c5 => ?_) (fun c5 => ?_)
      · have hf := (if_neg c5).symm.trans hf
        refine bf_iload_n 2 dX12_item_27 rfl rfl ?_
        refine bf_i2l dX12_item_28 ?_
        refine bf_lconst (v := 0) dX12_item_29 (by decide) ?_
        refine bf_aload_n 0 dX12_item_30 rfl rfl ?_
        refine fg_X12_55 dX12_item_31 rfl hk ?_
        refine bf_iload_n 1 dX12_item_34 rfl rfl ?_
        rcases Decidable.em (bf_ok a0 6) with c6 | c6
        · have hf := (if_pos c6).symm.trans hf
          refine bf_iald dX12_item_35 (kr_12_26 hk) (by rw [(kl_12_26 hk)]; exact c6) ?_
          refine bf_iconst (v := 1) dX12_item_36 (by decide) ?_
          refine bf_isub dX12_item_37 ?_
          refine bf_i2l dX12_item_38 ?_
          obtain ⟨r8, e7, hf⟩ := bf_bind hf
          have hCe7 := ok_X12_in (Γ := Γ) (ad := ad)  e7
          refine cv_X12_61 0 dX12_item_39 rfl ⟨Nat.le_of_ble_eq_true rfl, Nat.le_of_ble_eq_true rfl⟩ (Nat.le_of_ble_eq_true rfl) hCe7 ?_
          refine bf_if_ne 48 dX12_item_42 (by decide) (fun c9 => ?_) (fun c9 => ?_)
          · have hf := (if_neg c9).symm.trans hf
            refine bf_aload_n 0 dX12_item_48 rfl rfl ?_
            refine fg_X12_58 dX12_item_49 rfl hk ?_
            refine bf_bipush (v := 60) dX12_item_52 (by decide) ?_
            refine bf_iload_n 1 dX12_item_54 rfl rfl ?_
            refine bf_imul dX12_item_55 ?_
            refine bf_iload_n 2 dX12_item_56 rfl rfl ?_
            refine bf_iadd dX12_item_57 ?_
            refine bf_aload_n 0 dX12_item_58 rfl rfl ?_
            refine fg_X12_52 dX12_item_59 rfl hk ?_
            refine bf_iload_n 1 dX12_item_62 rfl rfl ?_
            rcases Decidable.em (bf_ok a0 6) with c10 | c10
            · have hf := (if_pos c10).symm.trans hf
              refine bf_iald dX12_item_63 (kr_12_25 hk) (by rw [(kl_12_25 hk)]; exact c10) ?_
              refine bf_lload_n 3 dX12_item_64 rfl rfl ?_
              obtain ⟨r12, e11, hf⟩ := bf_bind hf
              have hCe11 := ok_X12_lowestBits (Γ := Γ) (ad := ad)  e11
              refine cv_X12_302 0 dX12_item_65 rfl ⟨Nat.le_of_ble_eq_true rfl, Nat.le_of_ble_eq_true rfl⟩ (Nat.le_of_ble_eq_true rfl) hCe11 ?_
              rcases Decidable.em (bf_ok (((60 : Int32) * a0) + a1) 360) with c13 | c13
              · have hf := (if_pos c13).symm.trans hf
                refine bf_last dX12_item_68 (kr_12_27 hk) (by rw [(kl_12_27 hk)]; exact c13) ?_
                refine bf_iconst (v := 1) dX12_item_69 (by decide) ?_
                obtain rfl := Option.some.inj hf
                exact bf_iret dX12_item_70 rfl (Nat.le_refl _) (Nat.le_refl _) ⟨rfl, rfl⟩
              · exact absurd ((if_neg c13).symm.trans hf) (by simp)
            · exact absurd ((if_neg c10).symm.trans hf) (by simp)
          · have hf := (if_pos c9).symm.trans hf
            refine bf_bipush (v := -13) dX12_item_45 (by decide) ?_
            obtain rfl := Option.some.inj hf
            exact bf_iret dX12_item_47 rfl (Nat.le_refl _) (Nat.le_refl _) ⟨rfl, rfl⟩
        · exact absurd ((if_neg c6).symm.trans hf) (by simp)
      · have hf := (if_pos c5).symm.trans hf
        refine bf_bipush (v := -11) dX12_item_24 (by decide) ?_
        obtain rfl := Option.some.inj hf
        exact bf_iret dX12_item_26 rfl (Nat.le_refl _) (Nat.le_refl _) ⟨rfl, rfl⟩
    · exact absurd ((if_neg c4).symm.trans hf) (by simp)
  · have hf := (if_pos c3).symm.trans hf
    refine bf_iconst (v := -1) dX12_item_12 (by decide) ?_
    obtain rfl := Option.some.inj hf
    exact bf_iret dX12_item_13 rfl (Nat.le_refl _) (Nat.le_refl _) ⟨rfl, rfl⟩
def f_X12_peek (o : Nat) (a0 : Int32) (a1 : Int32) (I : Nat → Nat → Int32) (L : Nat → Nat → Int64) : Option (Int64 × bf_St) :=
  ((f_X12_in (a0).toInt64 (0 : Int64) (5 : Int64) I L).bind (fun r2 => (if r2.1 = 0 then (some ((-9223372036854775808 : Int64), r2.2.1, r2.2.2)) else (if bf_ok a0 6 then ((f_X12_in (a1).toInt64 (0 : Int64) (((r2.2.1 (o + 15) a0.toNatClampNeg) - (1 : Int32))).toInt64 r2.2.1 r2.2.2).bind (fun r6 => (if r6.1 = 0 then (some ((-9223372036854775808 : Int64), r6.2.1, r6.2.2)) else (if bf_ok (((60 : Int32) * a0) + a1) 360 then (some ((r6.2.2 (o + 16) (((60 : Int32) * a0) + a1).toNatClampNeg), r6.2.1, r6.2.2)) else none)))) else none))))
set_option maxRecDepth 100000 in
set_option maxHeartbeats 4000000 in
theorem ok_X12_peek {Γ : bf_Gm} {ad : Nat → Nat} {o : Nat} {a0 : Int32} {a1 : Int32} {I : Nat → Nat → Int32} {L : Nat → Nat → Int64} (hk : bf_kd o = 12) {r : Int64 × bf_St} (hf : f_X12_peek o a0 a1 I L = some r) : bf_Cn Γ 1 mu_X12_peek 0 0 [.ref (ad o), .int a0, .int a1] (bf_S ad I L) (fun q h => q = some (.long r.1) ∧ h = bf_S ad r.2.1 r.2.2) := by
  refine bf_met rfl (Nat.le_of_ble_eq_true rfl) ?_
  unfold f_X12_peek at hf
  refine bf_iload_n 1 dX12_peek_0 rfl rfl ?_
  refine bf_i2l dX12_peek_1 ?_
  refine bf_lconst (v := 0) dX12_peek_2 (by decide) ?_
  refine bf_ldc2 dX12_peek_3 wk_X12_298 ?_
  obtain ⟨r2, e1, hf⟩ := bf_bind hf
  have hCe1 := ok_X12_in (Γ := Γ) (ad := ad)  e1
  refine cv_X12_61 0 dX12_peek_6 rfl ⟨Nat.le_of_ble_eq_true rfl, Nat.le_of_ble_eq_true rfl⟩ (Nat.le_of_ble_eq_true rfl) hCe1 ?_
  refine bf_if_eq 44 dX12_peek_9 (by decide) (fun c3 => ?_) (fun c3 => ?_)
  · have hf := (if_pos c3).symm.trans hf
    refine bf_ldc2 dX12_peek_44 wk_X12_169 ?_
    obtain rfl := Option.some.inj hf
    exact bf_lret dX12_peek_47 rfl (Nat.le_refl _) (Nat.le_refl _) ⟨rfl, rfl⟩
  · have hf := (if_neg c3).symm.trans hf
    refine bf_iload_n 2 dX12_peek_12 rfl rfl ?_
    refine bf_i2l dX12_peek_13 ?_
    refine bf_lconst (v := 0) dX12_peek_14 (by decide) ?_
    refine bf_aload_n 0 dX12_peek_15 rfl rfl ?_
    refine fg_X12_55 dX12_peek_16 rfl hk ?_
    refine bf_iload_n 1 dX12_peek_19 rfl rfl ?_
    rcases Decidable.em (bf_ok a0 6) with c4 | c4
    · have hf := (if_pos c4).symm.trans hf
      refine bf_iald dX12_peek_20 (kr_12_26 hk) (by rw [(kl_12_26 hk)]; exact c4) ?_
      refine bf_iconst (v := 1) dX12_peek_21 (by decide) ?_
      refine bf_isub dX12_peek_22 ?_
      refine bf_i2l dX12_peek_23 ?_
      obtain ⟨r6, e5, hf⟩ := bf_bind hf
      have hCe5 := ok_X12_in (Γ := Γ) (ad := ad)  e5
      refine cv_X12_61 0 dX12_peek_24 rfl ⟨Nat.le_of_ble_eq_true rfl, Nat.le_of_ble_eq_true rfl⟩ (Nat.le_of_ble_eq_true rfl) hCe5 ?_
      refine bf_if_eq 44 dX12_peek_27 (by decide) (fun c7 => ?_) (fun c7 => ?_)
      · have hf := (if_pos c7).symm.trans hf
        refine bf_ldc2 dX12_peek_44 wk_X12_169 ?_
        obtain rfl := Option.some.inj hf
        exact bf_lret dX12_peek_47 rfl (Nat.le_refl _) (Nat.le_refl _) ⟨rfl, rfl⟩
      · have hf := (if_neg c7).symm.trans hf
        refine bf_aload_n 0 dX12_peek_30 rfl rfl ?_
        refine fg_X12_58 dX12_peek_31 rfl hk ?_
        refine bf_bipush (v := 60) dX12_peek_34 (by decide) ?_
        refine bf_iload_n 1 dX12_peek_36 rfl rfl ?_
        refine bf_imul dX12_peek_37 ?_
        refine bf_iload_n 2 dX12_peek_38 rfl rfl ?_
        refine bf_iadd dX12_peek_39 ?_
        rcases Decidable.em (bf_ok (((60 : Int32) * a0) + a1) 360) with c8 | c8
        · have hf := (if_pos c8).symm.trans hf
          refine bf_lald dX12_peek_40 (kr_12_27 hk) (by rw [(kl_12_27 hk)]; exact c8) ?_
          refine bf_goto 47 dX12_peek_41 (by decide) ?_
          obtain rfl := Option.some.inj hf
          exact bf_lret dX12_peek_47 rfl (Nat.le_refl _) (Nat.le_refl _) ⟨rfl, rfl⟩
        · exact absurd ((if_neg c8).symm.trans hf) (by simp)
    · exact absurd ((if_neg c4).symm.trans hf) (by simp)
