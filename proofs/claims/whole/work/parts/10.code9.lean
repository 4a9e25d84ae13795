def f_X12_isEven_2 (v0 : Nat) (K : (Nat → Nat → Int32) → (Nat → Nat → Int64) → Option (Int32 × bf_St)) : Nat → Int32 → (Nat → Nat → Int32) → (Nat → Nat → Int64) → Option (Int32 × bf_St)
  | 0, _, _, _ => none
  | n + 1, v1, I, L =>
    (if (6 : Int32) ≤ v1 then (K I L) else (if bf_ok v1 6 then (f_X12_isEven_2 v0 K n (v1 + (1 : Int32)) I (bf_u L (v0 + 6) v1.toNatClampNeg (0 : Int64))) else none))
set_option maxRecDepth 100000 in
set_option maxHeartbeats 4000000 in
theorem ok_X12_isEven_2 {Γ : bf_Gm} {ad : Nat → Nat} {v0 : Nat} (hv0 : bf_kd v0 = 12) {r : Int32 × bf_St} {K : (Nat → Nat → Int32) → (Nat → Nat → Int64) → Option (Int32 × bf_St)} (hK : ∀ (I : Nat → Nat → Int32) (L : Nat → Nat → Int64), K  I L = some r → bf_Go Γ (bf_rm 3 0 0) mu_X12_isEven bf_E0 (bf_Z Γ (fun q h => q = some (.int r.1) ∧ h = bf_S ad r.2.1 r.2.2) 0 0) (0, 0) 21 [(0, .ref (ad v0))] [] (bf_S ad I L)) : ∀ (n : Nat) (v1 : Int32) (I : Nat → Nat → Int32) (L : Nat → Nat → Int64), f_X12_isEven_2 v0 K n v1 I L = some r → bf_Go Γ (bf_rm 3 0 0) mu_X12_isEven bf_E0 (bf_Z Γ (fun q h => q = some (.int r.1) ∧ h = bf_S ad r.2.1 r.2.2) 0 0) (0, 0) 2 [(0, .ref (ad v0)), (1, .int v1)] [] (bf_S ad I L) := by
  intro n
  induction n with
  | zero => intro v1 I L hf; exact absurd (show none = some r from hf) (by simp)
  | succ n ih =>
    intro v1 I L hf
    rw [f_X12_isEven_2] at hf
    refine bf_iload_n 1 dX12_isEven_2 rfl rfl ?_
    refine bf_bipush (v := 6) dX12_isEven_3 (by decide) ?_
    refine bf_icmp_ge 21 dX12_isEven_5 (by decide) (fun c1 => ?_) (fun c1 => ?_)
    · have hf := (if_pos c1).symm.trans hf
      refine bf_perm [0] rfl ?_
      exact hK _ _ hf
    · have hf := (if_neg c1).symm.trans hf
      refine bf_aload_n 0 dX12_isEven_8 rfl rfl ?_
      refine fg_X12_27 dX12_isEven_9 rfl hv0 ?_
      refine bf_iload_n 1 dX12_isEven_12 rfl rfl ?_
      refine bf_lconst (v := 0) dX12_isEven_13 (by decide) ?_
      rcases Decidable.em (bf_ok v1 6) with c2 | c2
      · have hf := (if_pos c2).symm.trans hf
        refine bf_last dX12_isEven_14 (kr_12_14 hv0) (by rw [(kl_12_14 hv0)]; exact c2) ?_
        refine bf_iinc 1 (v := _ + (1 : Int32)) (lv2 := [(1, .int _), (0, .ref _)]) dX12_isEven_15 rfl (by rfl) (by decide) rfl ?_
        refine bf_goto 2 dX12_isEven_18 (by decide) ?_
        refine bf_perm [1, 0] rfl ?_
        exact ih _ _ _ hf
      · exact absurd ((if_neg c2).symm.trans hf) (by simp)
def f_X12_isEven_23 (v0 : Nat) (K : (Nat → Nat → Int32) → (Nat → Nat → Int64) → Option (Int32 × bf_St)) : Nat → Int32 → (Nat → Nat → Int32) → (Nat → Nat → Int64) → Option (Int32 × bf_St)
  | 0, _, _, _ => none
  | n + 1, v1, I, L =>
    (if (I (v0 + 1) (0 : Int32).toNatClampNeg) ≤ v1 then (K I L) else (if bf_ok v1 6 then (if (lg_cmp (L (v0 + 6) v1.toNatClampNeg) (0 : Int64)) = 0 then (if bf_ok v1 6 then (if bf_ok v1 6 then ((f_X12_spreads v0 I (bf_u (bf_u L (v0 + 6) v1.toNatClampNeg (1 : Int64)) (v0 + 7) v1.toNatClampNeg (1 : Int64))).bind (fun r10 => (if r10.1 = 0 then (some ((0 : Int32), r10.2.1, r10.2.2)) else ((f_X12_lotOf v0 v1 r10.2.1 r10.2.2).bind (fun r13 => ((f_X12_isWhole v0 r13.1 r13.2.1 r13.2.2).bind (fun r15 => (if r15.1 = 0 then (some ((0 : Int32), r15.2.1, r15.2.2)) else (f_X12_isEven_23 v0 K n (v1 + (1 : Int32)) r15.2.1 r15.2.2))))))))) else none) else none) else (f_X12_isEven_23 v0 K n (v1 + (1 : Int32)) I L)) else none))
set_option maxRecDepth 100000 in
set_option maxHeartbeats 4000000 in
theorem ok_X12_isEven_23 {Γ : bf_Gm} {ad : Nat → Nat} {v0 : Nat} (hv0 : bf_kd v0 = 12) {r : Int32 × bf_St} {K : (Nat → Nat → Int32) → (Nat → Nat → Int64) → Option (Int32 × bf_St)} (hK : ∀ (I : Nat → Nat → Int32) (L : Nat → Nat → Int64), K  I L = some r → bf_Go Γ (bf_rm 3 0 0) mu_X12_isEven bf_E0 (bf_Z Γ (fun q h => q = some (.int r.1) ∧ h = bf_S ad r.2.1 r.2.2) 0 0) (0, 0) 85 [] [] (bf_S ad I L)) : ∀ (n : Nat) (v1 : Int32) (I : Nat → Nat → Int32) (L : Nat → Nat → Int64), f_X12_isEven_23 v0 K n v1 I L = some r → bf_Go Γ (bf_rm 3 0 0) mu_X12_isEven bf_E0 (bf_Z Γ (fun q h => q = some (.int r.1) ∧ h = bf_S ad r.2.1 r.2.2) 0 0) (0, 0) 23 [(0, .ref (ad v0)), (1, .int v1)] [] (bf_S ad I L) := by
  intro n
  induction n with
  | zero => intro v1 I L hf; exact absurd (show none = some r from hf) (by simp)
  | succ n ih =>
    intro v1 I L hf
    rw [f_X12_isEven_23] at hf
    refine bf_iload_n 1 dX12_isEven_23 rfl rfl ?_
    refine bf_aload_n 0 dX12_isEven_24 rfl rfl ?_
    refine fg_X12_11 dX12_isEven_25 rfl hv0 ?_
    refine bf_iconst (v := 0) dX12_isEven_28 (by decide) ?_
    refine bf_iald dX12_isEven_29 (kr_12_0 hv0) (by rw [(kl_12_0 hv0)]; decide) ?_
    refine bf_icmp_ge 85 dX12_isEven_30 (by decide) (fun c4 => ?_) (fun c4 => ?_)
    · have hf := (if_pos c4).symm.trans hf
      refine bf_perm [] rfl ?_
      exact hK _ _ hf
    · have hf := (if_neg c4).symm.trans hf
      refine bf_aload_n 0 dX12_isEven_33 rfl rfl ?_
      refine fg_X12_27 dX12_isEven_34 rfl hv0 ?_
      refine bf_iload_n 1 dX12_isEven_37 rfl rfl ?_
      rcases Decidable.em (bf_ok v1 6) with c5 | c5
      · have hf := (if_pos c5).symm.trans hf
        refine bf_lald dX12_isEven_38 (kr_12_14 hv0) (by rw [(kl_12_14 hv0)]; exact c5) ?_
        refine bf_lconst (v := 0) dX12_isEven_39 (by decide) ?_
        refine bf_lcmp dX12_isEven_40 ?_
        refine bf_if_ne 79 dX12_isEven_41 (by decide) (fun c6 => ?_) (fun c6 => ?_)
        · have hf := (if_neg c6).symm.trans hf
          refine bf_iinc 1 (v := _ + (1 : Int32)) (lv2 := [(1, .int _), (0, .ref _)]) dX12_isEven_79 rfl (by rfl) (by decide) rfl ?_
          refine bf_goto 23 dX12_isEven_82 (by decide) ?_
          refine bf_perm [1, 0] rfl ?_
          exact ih _ _ _ hf
        · have hf := (if_pos c6).symm.trans hf
          refine bf_aload_n 0 dX12_isEven_44 rfl rfl ?_
          refine fg_X12_27 dX12_isEven_45 rfl hv0 ?_
          refine bf_iload_n 1 dX12_isEven_48 rfl rfl ?_
          refine bf_lconst (v := 1) dX12_isEven_49 (by decide) ?_
          rcases Decidable.em (bf_ok v1 6) with c7 | c7
          · have hf := (if_pos c7).symm.trans hf
            refine bf_last dX12_isEven_50 (kr_12_14 hv0) (by rw [(kl_12_14 hv0)]; exact c7) ?_
            refine bf_aload_n 0 dX12_isEven_51 rfl rfl ?_
            refine fg_X12_31 dX12_isEven_52 rfl hv0 ?_
            refine bf_iload_n 1 dX12_isEven_55 rfl rfl ?_
            refine bf_lconst (v := 1) dX12_isEven_56 (by decide) ?_
            rcases Decidable.em (bf_ok v1 6) with c8 | c8
            · have hf := (if_pos c8).symm.trans hf
              refine bf_last dX12_isEven_57 (kr_12_15 hv0) (by rw [(kl_12_15 hv0)]; exact c8) ?_
              refine bf_aload_n 0 dX12_isEven_58 rfl rfl ?_
              obtain ⟨r10, e9, hf⟩ := bf_bind hf
              have hCe9 := ok_X12_spreads (Γ := Γ) (ad := ad) hv0 e9
              refine cv_X12_179 2 dX12_isEven_59 rfl ⟨Nat.le_of_ble_eq_true rfl, Nat.le_of_ble_eq_true rfl⟩ (Nat.le_of_ble_eq_true rfl) hv0 hCe9 ?_
              refine bf_if_eq 77 dX12_isEven_62 (by decide) (fun c11 => ?_) (fun c11 => ?_)
              · have hf := (if_pos c11).symm.trans hf
                refine bf_iconst (v := 0) dX12_isEven_77 (by decide) ?_
                obtain rfl := Option.some.inj hf
                exact bf_zret dX12_isEven_78 rfl rfl (Nat.le_refl _) (Nat.le_refl _) ⟨rfl, rfl⟩
              · have hf := (if_neg c11).symm.trans hf
                refine bf_aload_n 0 dX12_isEven_65 rfl rfl ?_
                refine bf_aload_n 0 dX12_isEven_66 rfl rfl ?_
                refine bf_iload_n 1 dX12_isEven_67 rfl rfl ?_
                obtain ⟨r13, e12, hf⟩ := bf_bind hf
                have hCe12 := ok_X12_lotOf (Γ := Γ) (ad := ad) hv0 e12
                refine cv_X12_182 2 dX12_isEven_68 rfl ⟨Nat.le_of_ble_eq_true rfl, Nat.le_of_ble_eq_true rfl⟩ (Nat.le_of_ble_eq_true rfl) hv0 hCe12 ?_
                obtain ⟨r15, e14, hf⟩ := bf_bind hf
                have hCe14 := ok_X12_isWhole (Γ := Γ) (ad := ad) hv0 e14
                refine cv_X12_185 1 dX12_isEven_71 rfl ⟨Nat.le_of_ble_eq_true rfl, Nat.le_of_ble_eq_true rfl⟩ (Nat.le_of_ble_eq_true rfl) hv0 hCe14 ?_
                refine bf_if_ne 79 dX12_isEven_74 (by decide) (fun c16 => ?_) (fun c16 => ?_)
                · have hf := (if_neg c16).symm.trans hf
                  refine bf_iinc 1 (v := _ + (1 : Int32)) (lv2 := [(1, .int _), (0, .ref _)]) dX12_isEven_79 rfl (by rfl) (by decide) rfl ?_
                  refine bf_goto 23 dX12_isEven_82 (by decide) ?_
                  refine bf_perm [1, 0] rfl ?_
                  exact ih _ _ _ hf
                · have hf := (if_pos c16).symm.trans hf
                  refine bf_iconst (v := 0) dX12_isEven_77 (by decide) ?_
                  obtain rfl := Option.some.inj hf
                  exact bf_zret dX12_isEven_78 rfl rfl (Nat.le_refl _) (Nat.le_refl _) ⟨rfl, rfl⟩
            · exact absurd ((if_neg c8).symm.trans hf) (by simp)
          · exact absurd ((if_neg c7).symm.trans hf) (by simp)
      · exact absurd ((if_neg c5).symm.trans hf) (by simp)
def f_X12_isEven_p21 (v0 : Nat) (I : Nat → Nat → Int32) (L : Nat → Nat → Int64) : Option (Int32 × bf_St) :=
  (f_X12_isEven_23 v0 (fun I17 L17 => (some ((1 : Int32), I17, L17))) 400 (0 : Int32) I L)
set_option maxRecDepth 100000 in
set_option maxHeartbeats 4000000 in
theorem ok_X12_isEven_p21 {Γ : bf_Gm} {ad : Nat → Nat} {v0 : Nat} {I : Nat → Nat → Int32} {L : Nat → Nat → Int64} (hv0 : bf_kd v0 = 12) {r : Int32 × bf_St} (hf : f_X12_isEven_p21 v0 I L = some r) : bf_Go Γ (bf_rm 3 0 0) mu_X12_isEven bf_E0 (bf_Z Γ (fun q h => q = some (.int r.1) ∧ h = bf_S ad r.2.1 r.2.2) 0 0) (0, 0) 21 [(0, .ref (ad v0))] [] (bf_S ad I L) := by
  unfold f_X12_isEven_p21 at hf
  refine bf_iconst (v := 0) dX12_isEven_21 (by decide) ?_
  refine bf_istore_n (lv2 := [(1, .int _), (0, .ref _)]) dX12_isEven_22 rfl (by decide) rfl ?_
  refine bf_perm [1, 0] rfl ?_
  refine ok_X12_isEven_23 hv0 (fun I17 L17 hf => ?_) _ _ _ _  hf
  refine bf_iconst (v := 1) dX12_isEven_85 (by decide) ?_
  obtain rfl := Option.some.inj hf
  exact bf_zret dX12_isEven_86 rfl rfl (Nat.le_refl _) (Nat.le_refl _) ⟨rfl, rfl⟩
def f_X12_isEven (o : Nat) (I : Nat → Nat → Int32) (L : Nat → Nat → Int64) : Option (Int32 × bf_St) :=
  (f_X12_isEven_2 o (fun I3 L3 => (f_X12_isEven_p21 o I3 L3)) 400 (0 : Int32) I L)
set_option maxRecDepth 100000 in
set_option maxHeartbeats 4000000 in
theorem ok_X12_isEven {Γ : bf_Gm} {ad : Nat → Nat} {o : Nat} {I : Nat → Nat → Int32} {L : Nat → Nat → Int64} (hk : bf_kd o = 12) {r : Int32 × bf_St} (hf : f_X12_isEven o I L = some r) : bf_Cn Γ 3 mu_X12_isEven 0 0 [.ref (ad o)] (bf_S ad I L) (fun q h => q = some (.int r.1) ∧ h = bf_S ad r.2.1 r.2.2) := by
  refine bf_met rfl (Nat.le_of_ble_eq_true rfl) ?_
  unfold f_X12_isEven at hf
  refine bf_iconst (v := 0) dX12_isEven_0 (by decide) ?_
  refine bf_istore_n (lv2 := [(1, .int _), (0, .ref _)]) dX12_isEven_1 rfl (by decide) rfl ?_
  refine bf_perm [1, 0] rfl ?_
  refine ok_X12_isEven_2 hk (fun I3 L3 hf => ?_) _ _ _ _  hf
  exact ok_X12_isEven_p21 hk  hf
def f_X12_looksAtHeld_2 (v0 : Nat) (K : (Nat → Nat → Int32) → (Nat → Nat → Int64) → Option (bf_St)) : Nat → Int32 → (Nat → Nat → Int32) → (Nat → Nat → Int64) → Option (bf_St)
  | 0, _, _, _ => none
  | n + 1, v1, I, L =>
    (if (I (v0 + 1) (1 : Int32).toNatClampNeg) ≤ v1 then (K I L) else ((f_X12_isWire v0 v1 I L).bind (fun r3 => (if r3.1 = 0 then (if bf_ok v1 8 then (f_X12_looksAtHeld_2 v0 K n (v1 + (1 : Int32)) (bf_u r3.2.1 (v0 + 10) v1.toNatClampNeg (0 : Int32)) r3.2.2) else none) else (if bf_ok v1 8 then ((f_X12_tokens v0 v1 r3.2.1 r3.2.2).bind (fun r8 => (if bf_ok v1 8 then (f_X12_looksAtHeld_2 v0 K n (v1 + (1 : Int32)) (bf_u r8.2.1 (v0 + 10) v1.toNatClampNeg (bf_max (r3.2.1 (v0 + 10) v1.toNatClampNeg) r8.1)) r8.2.2) else none))) else none)))))
set_option maxRecDepth 100000 in
set_option maxHeartbeats 4000000 in
theorem ok_X12_looksAtHeld_2 {Γ : bf_Gm} {ad : Nat → Nat} {v0 : Nat} (hv0 : bf_kd v0 = 12) {r : bf_St} {K : (Nat → Nat → Int32) → (Nat → Nat → Int64) → Option (bf_St)} (hK : ∀ (I : Nat → Nat → Int32) (L : Nat → Nat → Int64), K  I L = some r → bf_Go Γ (bf_rm 2 0 0) mu_X12_looksAtHeld bf_E0 (bf_Z Γ (fun q h => q = none ∧ h = bf_S ad r.1 r.2) 0 0) (0, 0) 50 [] [] (bf_S ad I L)) : ∀ (n : Nat) (v1 : Int32) (I : Nat → Nat → Int32) (L : Nat → Nat → Int64), f_X12_looksAtHeld_2 v0 K n v1 I L = some r → bf_Go Γ (bf_rm 2 0 0) mu_X12_looksAtHeld bf_E0 (bf_Z Γ (fun q h => q = none ∧ h = bf_S ad r.1 r.2) 0 0) (0, 0) 2 [(0, .ref (ad v0)), (1, .int v1)] [] (bf_S ad I L) := by
  intro n
  induction n with
  | zero => intro v1 I L hf; exact absurd (show none = some r from hf) (by simp)
  | succ n ih =>
    intro v1 I L hf
    rw [f_X12_looksAtHeld_2] at hf
    refine bf_iload_n 1 dX12_looksAtHeld_2 rfl rfl ?_
    refine bf_aload_n 0 dX12_looksAtHeld_3 rfl rfl ?_
    refine fg_X12_11 dX12_looksAtHeld_4 rfl hv0 ?_
    refine bf_iconst (v := 1) dX12_looksAtHeld_7 (by decide) ?_
    refine bf_iald dX12_looksAtHeld_8 (kr_12_0 hv0) (by rw [(kl_12_0 hv0)]; decide) ?_
    refine bf_icmp_ge 50 dX12_looksAtHeld_9 (by decide) (fun c1 => ?_) (fun c1 => ?_)
    · have hf := (if_pos c1).symm.trans hf
      refine bf_perm [] rfl ?_
      exact hK _ _ hf
    · have hf := (if_neg c1).symm.trans hf
      refine bf_aload_n 0 dX12_looksAtHeld_12 rfl rfl ?_
      refine fg_X12_40 dX12_looksAtHeld_13 rfl hv0 ?_
      refine bf_iload_n 1 dX12_looksAtHeld_16 rfl rfl ?_
      refine bf_aload_n 0 dX12_looksAtHeld_17 rfl rfl ?_
      refine bf_iload_n 1 dX12_looksAtHeld_18 rfl rfl ?_
      obtain ⟨r3, e2, hf⟩ := bf_bind hf
      have hCe2 := ok_X12_isWire (Γ := Γ) (ad := ad) hv0 e2
      refine cv_X12_73 1 dX12_looksAtHeld_19 rfl ⟨Nat.le_of_ble_eq_true rfl, Nat.le_of_ble_eq_true rfl⟩ (Nat.le_of_ble_eq_true rfl) hv0 hCe2 ?_
      refine bf_if_eq 42 dX12_looksAtHeld_22 (by decide) (fun c4 => ?_) (fun c4 => ?_)
      · have hf := (if_pos c4).symm.trans hf
        refine bf_iconst (v := 0) dX12_looksAtHeld_42 (by decide) ?_
        rcases Decidable.em (bf_ok v1 8) with c5 | c5
        · have hf := (if_pos c5).symm.trans hf
          refine bf_iast dX12_looksAtHeld_43 (kr_12_18 hv0) (by rw [(kl_12_18 hv0)]; exact c5) ?_
          refine bf_iinc 1 (v := _ + (1 : Int32)) (lv2 := [(1, .int _), (0, .ref _)]) dX12_looksAtHeld_44 rfl (by rfl) (by decide) rfl ?_
          refine bf_goto 2 dX12_looksAtHeld_47 (by decide) ?_
          refine bf_perm [1, 0] rfl ?_
          exact ih _ _ _ hf
        · exact absurd ((if_neg c5).symm.trans hf) (by simp)
      · have hf := (if_neg c4).symm.trans hf
        refine bf_aload_n 0 dX12_looksAtHeld_25 rfl rfl ?_
        refine fg_X12_40 dX12_looksAtHeld_26 rfl hv0 ?_
        refine bf_iload_n 1 dX12_looksAtHeld_29 rfl rfl ?_
        rcases Decidable.em (bf_ok v1 8) with c6 | c6
        · have hf := (if_pos c6).symm.trans hf
          refine bf_iald dX12_looksAtHeld_30 (kr_12_18 hv0) (by rw [(kl_12_18 hv0)]; exact c6) ?_
          refine bf_aload_n 0 dX12_looksAtHeld_31 rfl rfl ?_
          refine bf_iload_n 1 dX12_looksAtHeld_32 rfl rfl ?_
          obtain ⟨r8, e7, hf⟩ := bf_bind hf
          have hCe7 := ok_X12_tokens (Γ := Γ) (ad := ad) hv0 e7
          refine cv_X12_76 0 dX12_looksAtHeld_33 rfl ⟨Nat.le_of_ble_eq_true rfl, Nat.le_of_ble_eq_true rfl⟩ (Nat.le_of_ble_eq_true rfl) hv0 hCe7 ?_
          refine bf_mmax dX12_looksAtHeld_36 wl_X12_142 wt_Jmax wi_J9 wc_Jmax (Nat.le_of_ble_eq_true rfl) (Nat.le_of_ble_eq_true rfl) (Nat.zero_le _) (Nat.zero_le _) ?_
          refine bf_goto 43 dX12_looksAtHeld_39 (by decide) ?_
          rcases Decidable.em (bf_ok v1 8) with c9 | c9
          · have hf := (if_pos c9).symm.trans hf
            refine bf_iast dX12_looksAtHeld_43 (kr_12_18 hv0) (by rw [(kl_12_18 hv0)]; exact c9) ?_
            refine bf_iinc 1 (v := _ + (1 : Int32)) (lv2 := [(1, .int _), (0, .ref _)]) dX12_looksAtHeld_44 rfl (by rfl) (by decide) rfl ?_
            refine bf_goto 2 dX12_looksAtHeld_47 (by decide) ?_
            refine bf_perm [1, 0] rfl ?_
            exact ih _ _ _ hf
          · exact absurd ((if_neg c9).symm.trans hf) (by simp)
        · exact absurd ((if_neg c6).symm.trans hf) (by simp)
def f_X12_looksAtHeld (o : Nat) (I : Nat → Nat → Int32) (L : Nat → Nat → Int64) : Option (bf_St) :=
  (f_X12_looksAtHeld_2 o (fun I10 L10 => (some (I10, L10))) 400 (0 : Int32) I L)
set_option maxRecDepth 100000 in
set_option maxHeartbeats 4000000 in
theorem ok_X12_looksAtHeld {Γ : bf_Gm} {ad : Nat → Nat} {o : Nat} {I : Nat → Nat → Int32} {L : Nat → Nat → Int64} (hk : bf_kd o = 12) {r : bf_St} (hf : f_X12_looksAtHeld o I L = some r) : bf_Cn Γ 2 mu_X12_looksAtHeld 0 0 [.ref (ad o)] (bf_S ad I L) (fun q h => q = none ∧ h = bf_S ad r.1 r.2) := by
  refine bf_met rfl (Nat.le_of_ble_eq_true rfl) ?_
  unfold f_X12_looksAtHeld at hf
  refine bf_iconst (v := 0) dX12_looksAtHeld_0 (by decide) ?_
  refine bf_istore_n (lv2 := [(1, .int _), (0, .ref _)]) dX12_looksAtHeld_1 rfl (by decide) rfl ?_
  refine bf_perm [1, 0] rfl ?_
  refine ok_X12_looksAtHeld_2 hk (fun I10 L10 hf => ?_) _ _ _ _  hf
  obtain rfl := Option.some.inj hf
  exact bf_vret dX12_looksAtHeld_50 rfl (Nat.le_refl _) (Nat.le_refl _) ⟨rfl, rfl⟩
def f_X12_starts_2 (v0 : Nat) (K : (Nat → Nat → Int32) → (Nat → Nat → Int64) → Option (bf_St)) : Nat → Int32 → (Nat → Nat → Int32) → (Nat → Nat → Int64) → Option (bf_St)
  | 0, _, _, _ => none
  | n + 1, v1, I, L =>
    (if (6 : Int32) ≤ v1 then (K I L) else (if (I (v0 + 1) (0 : Int32).toNatClampNeg) ≤ v1 then (if bf_ok v1 6 then (f_X12_starts_2 v0 K n (v1 + (1 : Int32)) (bf_u I (v0 + 9) v1.toNatClampNeg (0 : Int32)) L) else none) else (if bf_ok v1 6 then (if bf_ok v1 6 then (f_X12_starts_2 v0 K n (v1 + (1 : Int32)) (bf_u I (v0 + 9) v1.toNatClampNeg (I (v0 + 8) v1.toNatClampNeg)) L) else none) else none)))
set_option maxRecDepth 100000 in
set_option maxHeartbeats 4000000 in
theorem ok_X12_starts_2 {Γ : bf_Gm} {ad : Nat → Nat} {v0 : Nat} (hv0 : bf_kd v0 = 12) {r : bf_St} {K : (Nat → Nat → Int32) → (Nat → Nat → Int64) → Option (bf_St)} (hK : ∀ (I : Nat → Nat → Int32) (L : Nat → Nat → Int64), K  I L = some r → bf_Go Γ (bf_rm 0 0 0) mu_X12_starts bf_E0 (bf_Z Γ (fun q h => q = none ∧ h = bf_S ad r.1 r.2) 0 0) (0, 0) 40 [] [] (bf_S ad I L)) : ∀ (n : Nat) (v1 : Int32) (I : Nat → Nat → Int32) (L : Nat → Nat → Int64), f_X12_starts_2 v0 K n v1 I L = some r → bf_Go Γ (bf_rm 0 0 0) mu_X12_starts bf_E0 (bf_Z Γ (fun q h => q = none ∧ h = bf_S ad r.1 r.2) 0 0) (0, 0) 2 [(0, .ref (ad v0)), (1, .int v1)] [] (bf_S ad I L) := by
  intro n
  induction n with
  | zero => intro v1 I L hf; exact absurd (show none = some r from hf) (by simp)
  | succ n ih =>
    intro v1 I L hf
    rw [f_X12_starts_2] at hf
    refine bf_iload_n 1 dX12_starts_2 rfl rfl ?_
    refine bf_bipush (v := 6) dX12_starts_3 (by decide) ?_
    refine bf_icmp_ge 40 dX12_starts_5 (by decide) (fun c1 => ?_) (fun c1 => ?_)
    · have hf := (if_pos c1).symm.trans hf
      refine bf_perm [] rfl ?_
      exact hK _ _ hf
    · have hf := (if_neg c1).symm.trans hf
      refine bf_aload_n 0 dX12_starts_8 rfl rfl ?_
      refine fg_X12_37 dX12_starts_9 rfl hv0 ?_
      refine bf_iload_n 1 dX12_starts_12 rfl rfl ?_
      refine bf_iload_n 1 dX12_starts_13 rfl rfl ?_
      refine bf_aload_n 0 dX12_starts_14 rfl rfl ?_
      refine fg_X12_11 dX12_starts_15 rfl hv0 ?_
      refine bf_iconst (v := 0) dX12_starts_18 (by decide) ?_
      refine bf_iald dX12_starts_19 (kr_12_0 hv0) (by rw [(kl_12_0 hv0)]; decide) ?_
      refine bf_icmp_ge 32 dX12_starts_20 (by decide) (fun c2 => ?_) (fun c2 => ?_)
      · have hf := (if_pos c2).symm.trans hf
        refine bf_iconst (v := 0) dX12_starts_32 (by decide) ?_
        rcases Decidable.em (bf_ok v1 6) with c3 | c3
        · have hf := (if_pos c3).symm.trans hf
          refine bf_iast dX12_starts_33 (kr_12_17 hv0) (by rw [(kl_12_17 hv0)]; exact c3) ?_
          refine bf_iinc 1 (v := _ + (1 : Int32)) (lv2 := [(1, .int _), (0, .ref _)]) dX12_starts_34 rfl (by rfl) (by decide) rfl ?_
          refine bf_goto 2 dX12_starts_37 (by decide) ?_
          refine bf_perm [1, 0] rfl ?_
          exact ih _ _ _ hf
        · exact absurd ((if_neg c3).symm.trans hf) (by simp)
      · have hf := (if_neg c2).symm.trans hf
        refine bf_aload_n 0 dX12_starts_23 rfl rfl ?_
        refine fg_X12_34 dX12_starts_24 rfl hv0 ?_
        refine bf_iload_n 1 dX12_starts_27 rfl rfl ?_
        rcases Decidable.em (bf_ok v1 6) with c4 | c4
        · have hf := (if_pos c4).symm.trans hf
          refine bf_iald dX12_starts_28 (kr_12_16 hv0) (by rw [(kl_12_16 hv0)]; exact c4) ?_
          refine bf_goto 33 dX12_starts_29 (by decide) ?_
          rcases Decidable.em (bf_ok v1 6) with c5 | c5
          · have hf := (if_pos c5).symm.trans hf
            refine bf_iast dX12_starts_33 (kr_12_17 hv0) (by rw [(kl_12_17 hv0)]; exact c5) ?_
            refine bf_iinc 1 (v := _ + (1 : Int32)) (lv2 := [(1, .int _), (0, .ref _)]) dX12_starts_34 rfl (by rfl) (by decide) rfl ?_
            refine bf_goto 2 dX12_starts_37 (by decide) ?_
            refine bf_perm [1, 0] rfl ?_
            exact ih _ _ _ hf
          · exact absurd ((if_neg c5).symm.trans hf) (by simp)
        · exact absurd ((if_neg c4).symm.trans hf) (by simp)
def f_X12_starts (o : Nat) (I : Nat → Nat → Int32) (L : Nat → Nat → Int64) : Option (bf_St) :=
  (f_X12_starts_2 o (fun I6 L6 => (some (I6, L6))) 400 (0 : Int32) I L)
set_option maxRecDepth 100000 in
set_option maxHeartbeats 4000000 in
theorem ok_X12_starts {Γ : bf_Gm} {ad : Nat → Nat} {o : Nat} {I : Nat → Nat → Int32} {L : Nat → Nat → Int64} (hk : bf_kd o = 12) {r : bf_St} (hf : f_X12_starts o I L = some r) : bf_Cn Γ 0 mu_X12_starts 0 0 [.ref (ad o)] (bf_S ad I L) (fun q h => q = none ∧ h = bf_S ad r.1 r.2) := by
  refine bf_met rfl (Nat.le_of_ble_eq_true rfl) ?_
  unfold f_X12_starts at hf
  refine bf_iconst (v := 0) dX12_starts_0 (by decide) ?_
  refine bf_istore_n (lv2 := [(1, .int _), (0, .ref _)]) dX12_starts_1 rfl (by decide) rfl ?_
  refine bf_perm [1, 0] rfl ?_
  refine ok_X12_starts_2 hk (fun I6 L6 hf => ?_) _ _ _ _  hf
  obtain rfl := Option.some.inj hf
  exact bf_vret dX12_starts_40 rfl (Nat.le_refl _) (Nat.le_refl _) ⟨rfl, rfl⟩
def f_X12_nextOne_2 (v0 : Nat) (K : (Nat → Nat → Int32) → (Nat → Nat → Int64) → Option (Int32 × bf_St)) : Nat → Int32 → (Nat → Nat → Int32) → (Nat → Nat → Int64) → Option (Int32 × bf_St)
  | 0, _, _, _ => none
  | n + 1, v1, I, L =>
    (if (I (v0 + 1) (0 : Int32).toNatClampNeg) ≤ v1 then (K I L) else (if bf_ok v1 6 then (if (I (v0 + 9) v1.toNatClampNeg) ≤ 0 then (f_X12_nextOne_2 v0 K n (v1 + (1 : Int32)) I L) else ((f_X12_canFire v0 v1 I L).bind (fun r5 => (if r5.1 = 0 then (f_X12_nextOne_2 v0 K n (v1 + (1 : Int32)) r5.2.1 r5.2.2) else (some (v1, r5.2.1, r5.2.2)))))) else none))
set_option maxRecDepth 100000 in
set_option maxHeartbeats 4000000 in
theorem ok_X12_nextOne_2 {Γ : bf_Gm} {ad : Nat → Nat} {v0 : Nat} (hv0 : bf_kd v0 = 12) {r : Int32 × bf_St} {K : (Nat → Nat → Int32) → (Nat → Nat → Int64) → Option (Int32 × bf_St)} (hK : ∀ (I : Nat → Nat → Int32) (L : Nat → Nat → Int64), K  I L = some r → bf_Go Γ (bf_rm 3 0 0) mu_X12_nextOne bf_E0 (bf_Z Γ (fun q h => q = some (.int r.1) ∧ h = bf_S ad r.2.1 r.2.2) 0 0) (0, 0) 37 [] [] (bf_S ad I L)) : ∀ (n : Nat) (v1 : Int32) (I : Nat → Nat → Int32) (L : Nat → Nat → Int64), f_X12_nextOne_2 v0 K n v1 I L = some r → bf_Go Γ (bf_rm 3 0 0) mu_X12_nextOne bf_E0 (bf_Z Γ (fun q h => q = some (.int r.1) ∧ h = bf_S ad r.2.1 r.2.2) 0 0) (0, 0) 2 [(0, .ref (ad v0)), (1, .int v1)] [] (bf_S ad I L) := by
  intro n
  induction n with
  | zero => intro v1 I L hf; exact absurd (show none = some r from hf) (by simp)
  | succ n ih =>
    intro v1 I L hf
    rw [f_X12_nextOne_2] at hf
    refine bf_iload_n 1 dX12_nextOne_2 rfl rfl ?_
    refine bf_aload_n 0 dX12_nextOne_3 rfl rfl ?_
    refine fg_X12_11 dX12_nextOne_4 rfl hv0 ?_
    refine bf_iconst (v := 0) dX12_nextOne_7 (by decide) ?_
    refine bf_iald dX12_nextOne_8 (kr_12_0 hv0) (by rw [(kl_12_0 hv0)]; decide) ?_
    refine bf_icmp_ge 37 dX12_nextOne_9 (by decide) (fun c1 => ?_) (fun c1 => ?_)
    · have hf := (if_pos c1).symm.trans hf
      refine bf_perm [] rfl ?_
      exact hK _ _ hf
    · have hf := (if_neg c1).symm.trans hf
      refine bf_aload_n 0 dX12_nextOne_12 rfl rfl ?_
      refine fg_X12_37 dX12_nextOne_13 rfl hv0 ?_
      refine bf_iload_n 1 dX12_nextOne_16 rfl rfl ?_
      rcases Decidable.em (bf_ok v1 6) with c2 | c2
      · have hf := (if_pos c2).symm.trans hf
        refine bf_iald dX12_nextOne_17 (kr_12_17 hv0) (by rw [(kl_12_17 hv0)]; exact c2) ?_
        refine bf_if_le 31 dX12_nextOne_18 (by decide) (fun c3 => ?_) (fun c3 => ?_)
        · have hf := (if_pos c3).symm.trans hf
          refine bf_iinc 1 (v := _ + (1 : Int32)) (lv2 := [(1, .int _), (0, .ref _)]) dX12_nextOne_31 rfl (by rfl) (by decide) rfl ?_
          refine bf_goto 2 dX12_nextOne_34 (by decide) ?_
          refine bf_perm [1, 0] rfl ?_
          exact ih _ _ _ hf
        · have hf := (if_neg c3).symm.trans hf
          refine bf_aload_n 0 dX12_nextOne_21 rfl rfl ?_
          refine bf_iload_n 1 dX12_nextOne_22 rfl rfl ?_
          obtain ⟨r5, e4, hf⟩ := bf_bind hf
          have hCe4 := ok_X12_canFire (Γ := Γ) (ad := ad) hv0 e4
          refine cv_X12_163 2 dX12_nextOne_23 rfl ⟨Nat.le_of_ble_eq_true rfl, Nat.le_of_ble_eq_true rfl⟩ (Nat.le_of_ble_eq_true rfl) hv0 hCe4 ?_
          refine bf_if_eq 31 dX12_nextOne_26 (by decide) (fun c6 => ?_) (fun c6 => ?_)
          · have hf := (if_pos c6).symm.trans hf
            refine bf_iinc 1 (v := _ + (1 : Int32)) (lv2 := [(1, .int _), (0, .ref _)]) dX12_nextOne_31 rfl (by rfl) (by decide) rfl ?_
            refine bf_goto 2 dX12_nextOne_34 (by decide) ?_
            refine bf_perm [1, 0] rfl ?_
            exact ih _ _ _ hf
          · have hf := (if_neg c6).symm.trans hf
            refine bf_iload_n 1 dX12_nextOne_29 rfl rfl ?_
            obtain rfl := Option.some.inj hf
            exact bf_iret dX12_nextOne_30 rfl (Nat.le_refl _) (Nat.le_refl _) ⟨rfl, rfl⟩
      · exact absurd ((if_neg c2).symm.trans hf) (by simp)
def f_X12_nextOne (o : Nat) (I : Nat → Nat → Int32) (L : Nat → Nat → Int64) : Option (Int32 × bf_St) :=
  (f_X12_nextOne_2 o (fun I7 L7 => (some ((-1 : Int32), I7, L7))) 400 (0 : Int32) I L)
set_option maxRecDepth 100000 in
set_option maxHeartbeats 4000000 in
theorem ok_X12_nextOne {Γ : bf_Gm} {ad : Nat → Nat} {o : Nat} {I : Nat → Nat → Int32} {L : Nat → Nat → Int64} (hk : bf_kd o = 12) {r : Int32 × bf_St} (hf : f_X12_nextOne o I L = some r) : bf_Cn Γ 3 mu_X12_nextOne 0 0 [.ref (ad o)] (bf_S ad I L) (fun q h => q = some (.int r.1) ∧ h = bf_S ad r.2.1 r.2.2) := by
  refine bf_met rfl (Nat.le_of_ble_eq_true rfl) ?_
  unfold f_X12_nextOne at hf
  refine bf_iconst (v := 0) dX12_nextOne_0 (by decide) ?_
  refine bf_istore_n (lv2 := [(1, .int _), (0, .ref _)]) dX12_nextOne_1 rfl (by decide) rfl ?_
  refine bf_perm [1, 0] rfl ?_
  refine ok_X12_nextOne_2 hk (fun I7 L7 hf => ?_) _ _ _ _  hf
  refine bf_iconst (v := -1) dX12_nextOne_37 (by decide) ?_
  obtain rfl := Option.some.inj hf
  exact bf_iret dX12_nextOne_38 rfl (Nat.le_refl _) (Nat.le_refl _) ⟨rfl, rfl⟩
def f_X12_leftAll_4 (v0 : Nat) (K : Int32 → (Nat → Nat → Int32) → (Nat → Nat → Int64) → Option (Int32 × bf_St)) : Nat → Int32 → Int32 → (Nat → Nat → Int32) → (Nat → Nat → Int64) → Option (Int32 × bf_St)
  | 0, _, _, _, _ => none
  | n + 1, v1, v2, I, L =>
    (if (6 : Int32) ≤ v2 then (K v1 I L) else (if bf_ok v2 6 then (f_X12_leftAll_4 v0 K n (v1 + (I (v0 + 9) v2.toNatClampNeg)) (v2 + (1 : Int32)) I L) else none))
set_option maxRecDepth 100000 in
set_option maxHeartbeats 4000000 in
theorem ok_X12_leftAll_4 {Γ : bf_Gm} {ad : Nat → Nat} {v0 : Nat} (hv0 : bf_kd v0 = 12) {r : Int32 × bf_St} {K : Int32 → (Nat → Nat → Int32) → (Nat → Nat → Int64) → Option (Int32 × bf_St)} (hK : ∀ (v1 : Int32) (I : Nat → Nat → Int32) (L : Nat → Nat → Int64), K v1 I L = some r → bf_Go Γ (bf_rm 0 0 0) mu_X12_leftAll bf_E0 (bf_Z Γ (fun q h => q = some (.int r.1) ∧ h = bf_S ad r.2.1 r.2.2) 0 0) (0, 0) 25 [(1, .int v1)] [] (bf_S ad I L)) : ∀ (n : Nat) (v1 : Int32) (v2 : Int32) (I : Nat → Nat → Int32) (L : Nat → Nat → Int64), f_X12_leftAll_4 v0 K n v1 v2 I L = some r → bf_Go Γ (bf_rm 0 0 0) mu_X12_leftAll bf_E0 (bf_Z Γ (fun q h => q = some (.int r.1) ∧ h = bf_S ad r.2.1 r.2.2) 0 0) (0, 0) 4 [(0, .ref (ad v0)), (1, .int v1), (2, .int v2)] [] (bf_S ad I L) := by
  intro n
  induction n with
  | zero => intro v1 v2 I L hf; exact absurd (show none = some r from hf) (by simp)
  | succ n ih =>
    intro v1 v2 I L hf
    rw [f_X12_leftAll_4] at hf
    refine bf_iload_n 2 dX12_leftAll_4 rfl rfl ?_
    refine bf_bipush (v := 6) dX12_leftAll_5 (by decide) ?_
    refine bf_icmp_ge 25 dX12_leftAll_7 (by decide) (fun c1 => ?_) (fun c1 => ?_)
    · have hf := (if_pos c1).symm.trans hf
      refine bf_perm [1] rfl ?_
      exact hK _ _ _ hf
    · have hf := (if_neg c1).symm.trans hf
      refine bf_iload_n 1 dX12_leftAll_10 rfl rfl ?_
      refine bf_aload_n 0 dX12_leftAll_11 rfl rfl ?_
      refine fg_X12_37 dX12_leftAll_12 rfl hv0 ?_
      refine bf_iload_n 2 dX12_leftAll_15 rfl rfl ?_
      rcases Decidable.em (bf_ok v2 6) with c2 | c2
      · have hf := (if_pos c2).symm.trans hf
        refine bf_iald dX12_leftAll_16 (kr_12_17 hv0) (by rw [(kl_12_17 hv0)]; exact c2) ?_
        refine bf_iadd dX12_leftAll_17 ?_
        refine bf_istore_n (lv2 := [(1, .int _), (0, .ref _), (2, .int _)]) dX12_leftAll_18 rfl (by decide) rfl ?_
        refine bf_iinc 2 (v := _ + (1 : Int32)) (lv2 := [(2, .int _), (1, .int _), (0, .ref _)]) dX12_leftAll_19 rfl (by rfl) (by decide) rfl ?_
        refine bf_goto 4 dX12_leftAll_22 (by decide) ?_
        refine bf_perm [2, 1, 0] rfl ?_
        exact ih _ _ _ _ hf
      · exact absurd ((if_neg c2).symm.trans hf) (by simp)
def f_X12_leftAll (o : Nat) (I : Nat → Nat → Int32) (L : Nat → Nat → Int64) : Option (Int32 × bf_St) :=
  (f_X12_leftAll_4 o (fun k1_3 I3 L3 => (some (k1_3, I3, L3))) 400 (0 : Int32) (0 : Int32) I L)
set_option maxRecDepth 100000 in
set_option maxHeartbeats 4000000 in
theorem ok_X12_leftAll {Γ : bf_Gm} {ad : Nat → Nat} {o : Nat} {I : Nat → Nat → Int32} {L : Nat → Nat → Int64} (hk : bf_kd o = 12) {r : Int32 × bf_St} (hf : f_X12_leftAll o I L = some r) : bf_Cn Γ 0 mu_X12_leftAll 0 0 [.ref (ad o)] (bf_S ad I L) (fun q h => q = some (.int r.1) ∧ h = bf_S ad r.2.1 r.2.2) := by
  refine bf_met rfl (Nat.le_of_ble_eq_true rfl) ?_
  unfold f_X12_leftAll at hf
  refine bf_iconst (v := 0) dX12_leftAll_0 (by decide) ?_
  refine bf_istore_n (lv2 := [(1, .int _), (0, .ref _)]) dX12_leftAll_1 rfl (by decide) rfl ?_
  refine bf_iconst (v := 0) dX12_leftAll_2 (by decide) ?_
  refine bf_istore_n (lv2 := [(2, .int _), (1, .int _), (0, .ref _)]) dX12_leftAll_3 rfl (by decide) rfl ?_
  refine bf_perm [2, 1, 0] rfl ?_
  refine ok_X12_leftAll_4 hk (fun k1_3 I3 L3 hf => ?_) _ _ _ _ _  hf
  refine bf_iload_n 0 dX12_leftAll_25 rfl rfl ?_
  obtain rfl := Option.some.inj hf
  exact bf_iret dX12_leftAll_26 rfl (Nat.le_refl _) (Nat.le_refl _) ⟨rfl, rfl⟩
def f_X12_goes_12 (v0 : Nat) (K : (Nat → Nat → Int32) → (Nat → Nat → Int64) → Option (Int32 × bf_St)) : Nat → Int32 → (Nat → Nat → Int32) → (Nat → Nat → Int64) → Option (Int32 × bf_St)
  | 0, _, _, _ => none
  | n + 1, v1, I, L =>
    (if (8 : Int32) ≤ v1 then (K I L) else (if bf_ok v1 8 then (f_X12_goes_12 v0 K n (v1 + (1 : Int32)) (bf_u I (v0 + 10) v1.toNatClampNeg (0 : Int32)) L) else none))
set_option maxRecDepth 100000 in
set_option maxHeartbeats 4000000 in
theorem ok_X12_goes_12 {Γ : bf_Gm} {ad : Nat → Nat} {v0 : Nat} (hv0 : bf_kd v0 = 12) {r : Int32 × bf_St} {K : (Nat → Nat → Int32) → (Nat → Nat → Int64) → Option (Int32 × bf_St)} (hK : ∀ (I : Nat → Nat → Int32) (L : Nat → Nat → Int64), K  I L = some r → bf_Go Γ (bf_rm 4 0 0) mu_X12_goes bf_E0 (bf_Z Γ (fun q h => q = some (.int r.1) ∧ h = bf_S ad r.2.1 r.2.2) 0 0) (0, 0) 31 [(0, .ref (ad v0))] [] (bf_S ad I L)) : ∀ (n : Nat) (v1 : Int32) (I : Nat → Nat → Int32) (L : Nat → Nat → Int64), f_X12_goes_12 v0 K n v1 I L = some r → bf_Go Γ (bf_rm 4 0 0) mu_X12_goes bf_E0 (bf_Z Γ (fun q h => q = some (.int r.1) ∧ h = bf_S ad r.2.1 r.2.2) 0 0) (0, 0) 12 [(0, .ref (ad v0)), (1, .int v1)] [] (bf_S ad I L) := by
  intro n
  induction n with
  | zero => intro v1 I L hf; exact absurd (show none = some r from hf) (by simp)
  | succ n ih =>
    intro v1 I L hf
    rw [f_X12_goes_12] at hf
    refine bf_iload_n 1 dX12_goes_12 rfl rfl ?_
    refine bf_bipush (v := 8) dX12_goes_13 (by decide) ?_
    refine bf_icmp_ge 31 dX12_goes_15 (by decide) (fun c3 => ?_) (fun c3 => ?_)
    · have hf := (if_pos c3).symm.trans hf
      refine bf_perm [0] rfl ?_
      exact hK _ _ hf
    · have hf := (if_neg c3).symm.trans hf
      refine bf_aload_n 0 dX12_goes_18 rfl rfl ?_
      refine fg_X12_40 dX12_goes_19 rfl hv0 ?_
      refine bf_iload_n 1 dX12_goes_22 rfl rfl ?_
      refine bf_iconst (v := 0) dX12_goes_23 (by decide) ?_
      rcases Decidable.em (bf_ok v1 8) with c4 | c4
      · have hf := (if_pos c4).symm.trans hf
        refine bf_iast dX12_goes_24 (kr_12_18 hv0) (by rw [(kl_12_18 hv0)]; exact c4) ?_
        refine bf_iinc 1 (v := _ + (1 : Int32)) (lv2 := [(1, .int _), (0, .ref _)]) dX12_goes_25 rfl (by rfl) (by decide) rfl ?_
        refine bf_goto 12 dX12_goes_28 (by decide) ?_
        refine bf_perm [1, 0] rfl ?_
        exact ih _ _ _ hf
      · exact absurd ((if_neg c4).symm.trans hf) (by simp)
def f_X12_goes_42 (v0 : Nat) (K : (Nat → Nat → Int32) → (Nat → Nat → Int64) → Option (Int32 × bf_St)) : Nat → Int32 → Int32 → (Nat → Nat → Int32) → (Nat → Nat → Int64) → Option (Int32 × bf_St)
  | 0, _, _, _, _ => none
  | n + 1, v1, v2, I, L =>
    (if v2 < 0 then (K I L) else ((f_X12_fires v0 v2 I L).bind (fun r12 => (if bf_ok v2 6 then (if bf_ok v2 6 then (if v1 = ((bf_u r12.2.1 (v0 + 9) v2.toNatClampNeg ((r12.2.1 (v0 + 9) v2.toNatClampNeg) - (1 : Int32))) v0 19) then ((f_X12_looksAtHeld v0 (bf_u (bf_u r12.2.1 (v0 + 9) v2.toNatClampNeg ((r12.2.1 (v0 + 9) v2.toNatClampNeg) - (1 : Int32))) v0 20 v2) r12.2.2).bind (fun r21 => ((f_X12_nextOne v0 r21.1 r21.2).bind (fun r23 => (f_X12_goes_42 v0 K n (v1 + (1 : Int32)) r23.1 r23.2.1 r23.2.2))))) else ((f_X12_looksAtHeld v0 (bf_u (bf_u r12.2.1 (v0 + 9) v2.toNatClampNeg ((r12.2.1 (v0 + 9) v2.toNatClampNeg) - (1 : Int32))) v0 20 ((bf_u r12.2.1 (v0 + 9) v2.toNatClampNeg ((r12.2.1 (v0 + 9) v2.toNatClampNeg) - (1 : Int32))) v0 20)) r12.2.2).bind (fun r17 => ((f_X12_nextOne v0 r17.1 r17.2).bind (fun r19 => (f_X12_goes_42 v0 K n (v1 + (1 : Int32)) r19.1 r19.2.1 r19.2.2)))))) else none) else none))))
set_option maxRecDepth 100000 in
set_option maxHeartbeats 4000000 in
theorem ok_X12_goes_42 {Γ : bf_Gm} {ad : Nat → Nat} {v0 : Nat} (hv0 : bf_kd v0 = 12) {r : Int32 × bf_St} {K : (Nat → Nat → Int32) → (Nat → Nat → Int64) → Option (Int32 × bf_St)} (hK : ∀ (I : Nat → Nat → Int32) (L : Nat → Nat → Int64), K  I L = some r → bf_Go Γ (bf_rm 4 0 0) mu_X12_goes bf_E0 (bf_Z Γ (fun q h => q = some (.int r.1) ∧ h = bf_S ad r.2.1 r.2.2) 0 0) (0, 0) 97 [(0, .ref (ad v0))] [] (bf_S ad I L)) : ∀ (n : Nat) (v1 : Int32) (v2 : Int32) (I : Nat → Nat → Int32) (L : Nat → Nat → Int64), f_X12_goes_42 v0 K n v1 v2 I L = some r → bf_Go Γ (bf_rm 4 0 0) mu_X12_goes bf_E0 (bf_Z Γ (fun q h => q = some (.int r.1) ∧ h = bf_S ad r.2.1 r.2.2) 0 0) (0, 0) 42 [(0, .ref (ad v0)), (1, .int v1), (2, .int v2)] [] (bf_S ad I L) := by
  intro n
  induction n with
  | zero => intro v1 v2 I L hf; exact absurd (show none = some r from hf) (by simp)
  | succ n ih =>
    intro v1 v2 I L hf
    rw [f_X12_goes_42] at hf
    refine bf_iload_n 2 dX12_goes_42 rfl rfl ?_
    refine bf_if_lt 97 dX12_goes_43 (by decide) (fun c10 => ?_) (fun c10 => ?_)
    · have hf := (if_pos c10).symm.trans hf
      refine bf_perm [0] rfl ?_
      exact hK _ _ hf
    · have hf := (if_neg c10).symm.trans hf
      refine bf_aload_n 0 dX12_goes_46 rfl rfl ?_
      refine bf_iload_n 2 dX12_goes_47 rfl rfl ?_
      obtain ⟨r12, e11, hf⟩ := bf_bind hf
      have hCe11 := ok_X12_fires (Γ := Γ) (ad := ad) hv0 e11
      refine cv_X12_166 2 dX12_goes_48 rfl ⟨Nat.le_of_ble_eq_true rfl, Nat.le_of_ble_eq_true rfl⟩ (Nat.le_of_ble_eq_true rfl) hv0 hCe11 ?_
      refine bf_istore_n (lv2 := [(3, .int _), (0, .ref _), (1, .int _), (2, .int _)]) dX12_goes_51 rfl (by decide) rfl ?_
      refine bf_aload_n 1 dX12_goes_52 rfl rfl ?_
      refine fg_X12_37 dX12_goes_53 rfl hv0 ?_
      refine bf_iload_n 3 dX12_goes_56 rfl rfl ?_
      refine bf_dup2 dX12_goes_57 rfl rfl ?_
      rcases Decidable.em (bf_ok v2 6) with c13 | c13
      · have hf := (if_pos c13).symm.trans hf
        refine bf_iald dX12_goes_58 (kr_12_17 hv0) (by rw [(kl_12_17 hv0)]; exact c13) ?_
        refine bf_iconst (v := 1) dX12_goes_59 (by decide) ?_
        refine bf_isub dX12_goes_60 ?_
        rcases Decidable.em (bf_ok v2 6) with c14 | c14
        · have hf := (if_pos c14).symm.trans hf
          refine bf_iast dX12_goes_61 (kr_12_17 hv0) (by rw [(kl_12_17 hv0)]; exact c14) ?_
          refine bf_aload_n 1 dX12_goes_62 rfl rfl ?_
          refine bf_iload_n 2 dX12_goes_63 rfl rfl ?_
          refine bf_aload_n 1 dX12_goes_64 rfl rfl ?_
          refine fg_X12_207 dX12_goes_65 rfl hv0 ?_
          refine bf_icmp_ne 75 dX12_goes_68 (by decide) (fun c15 => ?_) (fun c15 => ?_)
          · have hf := (if_neg c15).symm.trans hf
            refine bf_aload_n 1 dX12_goes_75 rfl rfl ?_
            refine fg_X12_197 dX12_goes_76 rfl hv0 ?_
            refine fp_X12_197 dX12_goes_79 rfl hv0 ?_
            refine bf_iinc 2 (v := _ + (1 : Int32)) (lv2 := [(1, .int _), (3, .int _), (0, .ref _), (2, .int _)]) dX12_goes_82 rfl (by rfl) (by decide) rfl ?_
            refine bf_aload_n 2 dX12_goes_85 rfl rfl ?_
            obtain ⟨r17, e16, hf⟩ := bf_bind hf
            have hCe16 := ok_X12_looksAtHeld (Γ := Γ) (ad := ad) hv0 e16
            refine cv_X12_200 2 dX12_goes_86 rfl ⟨Nat.le_of_ble_eq_true rfl, Nat.le_of_ble_eq_true rfl⟩ (Nat.le_of_ble_eq_true rfl) hv0 hCe16 ?_
            refine bf_aload_n 2 dX12_goes_89 rfl rfl ?_
            obtain ⟨r19, e18, hf⟩ := bf_bind hf
            have hCe18 := ok_X12_nextOne (Γ := Γ) (ad := ad) hv0 e18
            refine cv_X12_203 3 dX12_goes_90 rfl ⟨Nat.le_of_ble_eq_true rfl, Nat.le_of_ble_eq_true rfl⟩ (Nat.le_of_ble_eq_true rfl) hv0 hCe18 ?_
            refine bf_istore_n (lv2 := [(2, .int _), (1, .int _), (3, .int _), (0, .ref _)]) dX12_goes_93 rfl (by decide) rfl ?_
            refine bf_goto 42 dX12_goes_94 (by decide) ?_
            refine bf_perm [3, 1, 0] rfl ?_
            exact ih _ _ _ _ hf
          · have hf := (if_pos c15).symm.trans hf
            refine bf_iload_n 3 dX12_goes_71 rfl rfl ?_
            refine bf_goto 79 dX12_goes_72 (by decide) ?_
            refine fp_X12_197 dX12_goes_79 rfl hv0 ?_
            refine bf_iinc 2 (v := _ + (1 : Int32)) (lv2 := [(1, .int _), (3, .int _), (0, .ref _), (2, .int _)]) dX12_goes_82 rfl (by rfl) (by decide) rfl ?_
            refine bf_aload_n 2 dX12_goes_85 rfl rfl ?_
            obtain ⟨r21, e20, hf⟩ := bf_bind hf
            have hCe20 := ok_X12_looksAtHeld (Γ := Γ) (ad := ad) hv0 e20
            refine cv_X12_200 2 dX12_goes_86 rfl ⟨Nat.le_of_ble_eq_true rfl, Nat.le_of_ble_eq_true rfl⟩ (Nat.le_of_ble_eq_true rfl) hv0 hCe20 ?_
            refine bf_aload_n 2 dX12_goes_89 rfl rfl ?_
            obtain ⟨r23, e22, hf⟩ := bf_bind hf
            have hCe22 := ok_X12_nextOne (Γ := Γ) (ad := ad) hv0 e22
            refine cv_X12_203 3 dX12_goes_90 rfl ⟨Nat.le_of_ble_eq_true rfl, Nat.le_of_ble_eq_true rfl⟩ (Nat.le_of_ble_eq_true rfl) hv0 hCe22 ?_
            refine bf_istore_n (lv2 := [(2, .int _), (1, .int _), (3, .int _), (0, .ref _)]) dX12_goes_93 rfl (by decide) rfl ?_
            refine bf_goto 42 dX12_goes_94 (by decide) ?_
            refine bf_perm [3, 1, 0] rfl ?_
            exact ih _ _ _ _ hf
        · exact absurd ((if_neg c14).symm.trans hf) (by simp)
      · exact absurd ((if_neg c13).symm.trans hf) (by simp)
def f_X12_goes_p31 (v0 : Nat) (I : Nat → Nat → Int32) (L : Nat → Nat → Int64) : Option (Int32 × bf_St) :=
  ((f_X12_looksAtHeld v0 I L).bind (fun r7 => ((f_X12_nextOne v0 r7.1 r7.2).bind (fun r9 => (f_X12_goes_42 v0 (fun I24 L24 => ((f_X12_leftAll v0 I24 L24).bind (fun r26 => (if r26.1 = 0 then (some ((1 : Int32), r26.2.1, r26.2.2)) else (some ((0 : Int32), r26.2.1, r26.2.2)))))) 400 (0 : Int32) r9.1 r9.2.1 r9.2.2)))))
set_option maxRecDepth 100000 in
set_option maxHeartbeats 4000000 in
theorem ok_X12_goes_p31 {Γ : bf_Gm} {ad : Nat → Nat} {v0 : Nat} {I : Nat → Nat → Int32} {L : Nat → Nat → Int64} (hv0 : bf_kd v0 = 12) {r : Int32 × bf_St} (hf : f_X12_goes_p31 v0 I L = some r) : bf_Go Γ (bf_rm 4 0 0) mu_X12_goes bf_E0 (bf_Z Γ (fun q h => q = some (.int r.1) ∧ h = bf_S ad r.2.1 r.2.2) 0 0) (0, 0) 31 [(0, .ref (ad v0))] [] (bf_S ad I L) := by
  unfold f_X12_goes_p31 at hf
  refine bf_aload_n 0 dX12_goes_31 rfl rfl ?_
  obtain ⟨r7, e6, hf⟩ := bf_bind hf
  have hCe6 := ok_X12_looksAtHeld (Γ := Γ) (ad := ad) hv0 e6
  refine cv_X12_200 2 dX12_goes_32 rfl ⟨Nat.le_of_ble_eq_true rfl, Nat.le_of_ble_eq_true rfl⟩ (Nat.le_of_ble_eq_true rfl) hv0 hCe6 ?_
  refine bf_iconst (v := 0) dX12_goes_35 (by decide) ?_
  refine bf_istore_n (lv2 := [(1, .int _), (0, .ref _)]) dX12_goes_36 rfl (by decide) rfl ?_
  refine bf_aload_n 1 dX12_goes_37 rfl rfl ?_
  obtain ⟨r9, e8, hf⟩ := bf_bind hf
  have hCe8 := ok_X12_nextOne (Γ := Γ) (ad := ad) hv0 e8
  refine cv_X12_203 3 dX12_goes_38 rfl ⟨Nat.le_of_ble_eq_true rfl, Nat.le_of_ble_eq_true rfl⟩ (Nat.le_of_ble_eq_true rfl) hv0 hCe8 ?_
  refine bf_istore_n (lv2 := [(2, .int _), (1, .int _), (0, .ref _)]) dX12_goes_41 rfl (by decide) rfl ?_
  refine bf_perm [2, 1, 0] rfl ?_
  refine ok_X12_goes_42 hv0 (fun I24 L24 hf => ?_) _ _ _ _ _  hf
  refine bf_aload_n 0 dX12_goes_97 rfl rfl ?_
  obtain ⟨r26, e25, hf⟩ := bf_bind hf
  have hCe25 := ok_X12_leftAll (Γ := Γ) (ad := ad) hv0 e25
  refine cv_X12_210 0 dX12_goes_98 rfl ⟨Nat.le_of_ble_eq_true rfl, Nat.le_of_ble_eq_true rfl⟩ (Nat.le_of_ble_eq_true rfl) hv0 hCe25 ?_
  refine bf_if_ne 108 dX12_goes_101 (by decide) (fun c27 => ?_) (fun c27 => ?_)
  · have hf := (if_neg c27).symm.trans hf
    refine bf_iconst (v := 0) dX12_goes_108 (by decide) ?_
    obtain rfl := Option.some.inj hf
    exact bf_zret dX12_goes_109 rfl rfl (Nat.le_refl _) (Nat.le_refl _) ⟨rfl, rfl⟩
  · have hf := (if_pos c27).symm.trans hf
    refine bf_iconst (v := 1) dX12_goes_104 (by decide) ?_
    refine bf_goto 109 dX12_goes_105 (by decide) ?_
    obtain rfl := Option.some.inj hf
    exact bf_zret dX12_goes_109 rfl rfl (Nat.le_refl _) (Nat.le_refl _) ⟨rfl, rfl⟩
def f_X12_goes (o : Nat) (I : Nat → Nat → Int32) (L : Nat → Nat → Int64) : Option (Int32 × bf_St) :=
  ((f_X12_starts o I L).bind (fun r2 => (f_X12_goes_12 o (fun I5 L5 => (f_X12_goes_p31 o I5 L5)) 400 (0 : Int32) (bf_u r2.1 o 20 (-5 : Int32)) r2.2)))
set_option maxRecDepth 100000 in
set_option maxHeartbeats 4000000 in
theorem ok_X12_goes {Γ : bf_Gm} {ad : Nat → Nat} {o : Nat} {I : Nat → Nat → Int32} {L : Nat → Nat → Int64} (hk : bf_kd o = 12) {r : Int32 × bf_St} (hf : f_X12_goes o I L = some r) : bf_Cn Γ 4 mu_X12_goes 0 0 [.ref (ad o)] (bf_S ad I L) (fun q h => q = some (.int r.1) ∧ h = bf_S ad r.2.1 r.2.2) := by
  refine bf_met rfl (Nat.le_of_ble_eq_true rfl) ?_
  unfold f_X12_goes at hf
  refine bf_aload_n 0 dX12_goes_0 rfl rfl ?_
  obtain ⟨r2, e1, hf⟩ := bf_bind hf
  have hCe1 := ok_X12_starts (Γ := Γ) (ad := ad) hk e1
  refine cv_X12_194 0 dX12_goes_1 rfl ⟨Nat.le_of_ble_eq_true rfl, Nat.le_of_ble_eq_true rfl⟩ (Nat.le_of_ble_eq_true rfl) hk hCe1 ?_
  refine bf_aload_n 0 dX12_goes_4 rfl rfl ?_
  refine bf_bipush (v := -5) dX12_goes_5 (by decide) ?_
  refine fp_X12_197 dX12_goes_7 rfl hk ?_
  refine bf_iconst (v := 0) dX12_goes_10 (by decide) ?_
  refine bf_istore_n (lv2 := [(1, .int _), (0, .ref _)]) dX12_goes_11 rfl (by decide) rfl ?_
  refine bf_perm [1, 0] rfl ?_
  refine ok_X12_goes_12 hk (fun I5 L5 hf => ?_) _ _ _ _  hf
  exact ok_X12_goes_p31 hk  hf
def f_X12_periods_2 (v0 : Nat) (v1 : Int32) (K : Int32 → (Nat → Nat → Int32) → (Nat → Nat → Int64) → Option (Int32 × bf_St)) : Nat → Int32 → (Nat → Nat → Int32) → (Nat → Nat → Int64) → Option (Int32 × bf_St)
  | 0, _, _, _ => none
  | n + 1, v2, I, L =>
    (if v1 ≤ v2 then (K v2 I L) else ((f_X12_copies (v0 + 1) (v0 + 11) I L).bind (fun r3 => ((f_X12_goes v0 r3.1 r3.2).bind (fun r5 => (if r5.1 = 0 then ((f_X12_copies (v0 + 11) (v0 + 1) r5.2.1 r5.2.2).bind (fun r8 => (some (v2, r8.1, r8.2)))) else (f_X12_periods_2 v0 v1 K n (v2 + (1 : Int32)) r5.2.1 r5.2.2)))))))
set_option maxRecDepth 100000 in
set_option maxHeartbeats 4000000 in
theorem ok_X12_periods_2 {Γ : bf_Gm} {ad : Nat → Nat} {v0 : Nat} {v1 : Int32} (hv0 : bf_kd v0 = 12) {r : Int32 × bf_St} {K : Int32 → (Nat → Nat → Int32) → (Nat → Nat → Int64) → Option (Int32 × bf_St)} (hK : ∀ (v2 : Int32) (I : Nat → Nat → Int32) (L : Nat → Nat → Int64), K v2 I L = some r → bf_Go Γ (bf_rm 5 0 0) mu_X12_periods bf_E0 (bf_Z Γ (fun q h => q = some (.int r.1) ∧ h = bf_S ad r.2.1 r.2.2) 0 0) (0, 0) 44 [(2, .int v2)] [] (bf_S ad I L)) : ∀ (n : Nat) (v2 : Int32) (I : Nat → Nat → Int32) (L : Nat → Nat → Int64), f_X12_periods_2 v0 v1 K n v2 I L = some r → bf_Go Γ (bf_rm 5 0 0) mu_X12_periods bf_E0 (bf_Z Γ (fun q h => q = some (.int r.1) ∧ h = bf_S ad r.2.1 r.2.2) 0 0) (0, 0) 2 [(0, .ref (ad v0)), (1, .int v1), (2, .int v2)] [] (bf_S ad I L) := by
  intro n
  induction n with
  | zero => intro v2 I L hf; exact absurd (show none = some r from hf) (by simp)
  | succ n ih =>
    intro v2 I L hf
    rw [f_X12_periods_2] at hf
    refine bf_iload_n 2 dX12_periods_2 rfl rfl ?_
    refine bf_iload_n 1 dX12_periods_3 rfl rfl ?_
    refine bf_icmp_ge 44 dX12_periods_4 (by decide) (fun c1 => ?_) (fun c1 => ?_)
    · have hf := (if_pos c1).symm.trans hf
      refine bf_perm [2] rfl ?_
      exact hK _ _ _ hf
    · have hf := (if_neg c1).symm.trans hf
      refine bf_aload_n 0 dX12_periods_7 rfl rfl ?_
      refine fg_X12_11 dX12_periods_8 rfl hv0 ?_
      refine bf_aload_n 0 dX12_periods_11 rfl rfl ?_
      refine fg_X12_43 dX12_periods_12 rfl hv0 ?_
      obtain ⟨r3, e2, hf⟩ := bf_bind hf
      have hCe2 := ok_X12_copies (Γ := Γ) (ad := ad) (kr_12_0 hv0) (kr_12_21 hv0) e2
      refine cv_X12_213 0 dX12_periods_15 rfl ⟨Nat.le_of_ble_eq_true rfl, Nat.le_of_ble_eq_true rfl⟩ (Nat.le_of_ble_eq_true rfl) hCe2 ?_
      refine bf_aload_n 0 dX12_periods_18 rfl rfl ?_
      obtain ⟨r5, e4, hf⟩ := bf_bind hf
      have hCe4 := ok_X12_goes (Γ := Γ) (ad := ad) hv0 e4
      refine cv_X12_217 4 dX12_periods_19 rfl ⟨Nat.le_of_ble_eq_true rfl, Nat.le_of_ble_eq_true rfl⟩ (Nat.le_of_ble_eq_true rfl) hv0 hCe4 ?_
      refine bf_if_ne 38 dX12_periods_22 (by decide) (fun c6 => ?_) (fun c6 => ?_)
      · have hf := (if_neg c6).symm.trans hf
        refine bf_iinc 2 (v := _ + (1 : Int32)) (lv2 := [(2, .int _), (0, .ref _), (1, .int _)]) dX12_periods_38 rfl (by rfl) (by decide) rfl ?_
        refine bf_goto 2 dX12_periods_41 (by decide) ?_
        refine bf_perm [1, 2, 0] rfl ?_
        exact ih _ _ _ hf
      · have hf := (if_pos c6).symm.trans hf
        refine bf_aload_n 0 dX12_periods_25 rfl rfl ?_
        refine fg_X12_43 dX12_periods_26 rfl hv0 ?_
        refine bf_aload_n 0 dX12_periods_29 rfl rfl ?_
        refine fg_X12_11 dX12_periods_30 rfl hv0 ?_
        obtain ⟨r8, e7, hf⟩ := bf_bind hf
        have hCe7 := ok_X12_copies (Γ := Γ) (ad := ad) (kr_12_21 hv0) (kr_12_0 hv0) e7
        refine cv_X12_213 0 dX12_periods_33 rfl ⟨Nat.le_of_ble_eq_true rfl, Nat.le_of_ble_eq_true rfl⟩ (Nat.le_of_ble_eq_true rfl) hCe7 ?_
        refine bf_iload_n 2 dX12_periods_36 rfl rfl ?_
        obtain rfl := Option.some.inj hf
        exact bf_iret dX12_periods_37 rfl (Nat.le_refl _) (Nat.le_refl _) ⟨rfl, rfl⟩
def f_X12_periods (o : Nat) (a0 : Int32) (I : Nat → Nat → Int32) (L : Nat → Nat → Int64) : Option (Int32 × bf_St) :=
  (f_X12_periods_2 o a0 (fun k2_9 I9 L9 => (some (k2_9, I9, L9))) 400 (0 : Int32) I L)
set_option maxRecDepth 100000 in
set_option maxHeartbeats 4000000 in
theorem ok_X12_periods {Γ : bf_Gm} {ad : Nat → Nat} {o : Nat} {a0 : Int32} {I : Nat → Nat → Int32} {L : Nat → Nat → Int64} (hk : bf_kd o = 12) {r : Int32 × bf_St} (hf : f_X12_periods o a0 I L = some r) : bf_Cn Γ 5 mu_X12_periods 0 0 [.ref (ad o), .int a0] (bf_S ad I L) (fun q h => q = some (.int r.1) ∧ h = bf_S ad r.2.1 r.2.2) := by
  refine bf_met rfl (Nat.le_of_ble_eq_true rfl) ?_
  unfold f_X12_periods at hf
  refine bf_iconst (v := 0) dX12_periods_0 (by decide) ?_
  refine bf_istore_n (lv2 := [(2, .int _), (0, .ref _), (1, .int _)]) dX12_periods_1 rfl (by decide) rfl ?_
  refine bf_perm [1, 2, 0] rfl ?_
  refine ok_X12_periods_2 hk (fun k2_9 I9 L9 hf => ?_) _ _ _ _  hf
  refine bf_iload_n 0 dX12_periods_44 rfl rfl ?_
  obtain rfl := Option.some.inj hf
  exact bf_iret dX12_periods_45 rfl (Nat.le_refl _) (Nat.le_refl _) ⟨rfl, rfl⟩
def f_X12_period (o : Nat) (a0 : Int32) (I : Nat → Nat → Int32) (L : Nat → Nat → Int64) : Option (Int32 × bf_St) :=
  ((f_X12_in (a0).toInt64 (0 : Int64) (9 : Int64) I L).bind (fun r2 => (if r2.1 = 0 then (some ((-2 : Int32), r2.2.1, r2.2.2)) else ((f_X12_isEven o r2.2.1 r2.2.2).bind (fun r5 => (if r5.1 = 0 then (some ((-3 : Int32), r5.2.1, r5.2.2)) else ((f_X12_periods o a0 r5.2.1 r5.2.2).bind (fun r8 => (some (r8.1, r8.2.1, r8.2.2))))))))))
set_option maxRecDepth 100000 in
set_option maxHeartbeats 4000000 in
theorem ok_X12_period {Γ : bf_Gm} {ad : Nat → Nat} {o : Nat} {a0 : Int32} {I : Nat → Nat → Int32} {L : Nat → Nat → Int64} (hk : bf_kd o = 12) {r : Int32 × bf_St} (hf : f_X12_period o a0 I L = some r) : bf_Cn Γ 6 mu_X12_period 0 0 [.ref (ad o), .int a0] (bf_S ad I L) (fun q h => q = some (.int r.1) ∧ h = bf_S ad r.2.1 r.2.2) := by
  refine bf_met rfl (Nat.le_of_ble_eq_true rfl) ?_
  unfold f_X12_period at hf
  refine bf_iload_n 1 dX12_period_0 rfl rfl ?_
  refine bf_i2l dX12_period_1 ?_
  refine bf_lconst (v := 0) dX12_period_2 (by decide) ?_
  refine bf_ldc2 dX12_period_3 wk_X12_67 ?_
  obtain ⟨r2, e1, hf⟩ := bf_bind hf
  have hCe1 := ok_X12_in (Γ := Γ) (ad := ad)  e1
  refine cv_X12_61 0 dX12_period_6 rfl ⟨Nat.le_of_ble_eq_true rfl, Nat.le_of_ble_eq_true rfl⟩ (Nat.le_of_ble_eq_true rfl) hCe1 ?_
  refine bf_if_ne 15 dX12_period_9 (by decide) (fun c3 => ?_) (fun c3 => ?_)
  · have hf := (if_neg c3).symm.trans hf
    refine bf_aload_n 0 dX12_period_15 rfl rfl ?_
    obtain ⟨r5, e4, hf⟩ := bf_bind hf
    have hCe4 := ok_X12_isEven (Γ := Γ) (ad := ad) hk e4
    refine cv_X12_220 3 dX12_period_16 rfl ⟨Nat.le_of_ble_eq_true rfl, Nat.le_of_ble_eq_true rfl⟩ (Nat.le_of_ble_eq_true rfl) hk hCe4 ?_
    refine bf_if_eq 30 dX12_period_19 (by decide) (fun c6 => ?_) (fun c6 => ?_)
    · have hf := (if_pos c6).symm.trans hf
      refine bf_bipush (v := -3) dX12_period_30 (by decide) ?_
      obtain rfl := Option.some.inj hf
      exact bf_iret dX12_period_32 rfl (Nat.le_refl _) (Nat.le_refl _) ⟨rfl, rfl⟩
    · have hf := (if_neg c6).symm.trans hf
      refine bf_aload_n 0 dX12_period_22 rfl rfl ?_
      refine bf_iload_n 1 dX12_period_23 rfl rfl ?_
      obtain ⟨r8, e7, hf⟩ := bf_bind hf
      have hCe7 := ok_X12_periods (Γ := Γ) (ad := ad) hk e7
      refine cv_X12_223 5 dX12_period_24 rfl ⟨Nat.le_of_ble_eq_true rfl, Nat.le_of_ble_eq_true rfl⟩ (Nat.le_of_ble_eq_true rfl) hk hCe7 ?_
      refine bf_goto 32 dX12_period_27 (by decide) ?_
      obtain rfl := Option.some.inj hf
      exact bf_iret dX12_period_32 rfl (Nat.le_refl _) (Nat.le_refl _) ⟨rfl, rfl⟩
  · have hf := (if_pos c3).symm.trans hf
    refine bf_bipush (v := -2) dX12_period_12 (by decide) ?_
    obtain rfl := Option.some.inj hf
    exact bf_iret dX12_period_14 rfl (Nat.le_refl _) (Nat.le_refl _) ⟨rfl, rfl⟩
def f_X12_thinks (o : Nat) (I : Nat → Nat → Int32) (L : Nat → Nat → Int64) : Option (Int32 × bf_St) :=
  ((f_X12_copies (o + 1) (o + 2) I L).bind (fun r2 => ((f_X12_goes o r2.1 r2.2).bind (fun r4 => ((f_X12_copies (o + 2) (o + 1) r4.2.1 r4.2.2).bind (fun r6 => (if r4.1 = 0 then (some ((0 : Int32), r6.1, r6.2)) else (some ((1 : Int32), r6.1, r6.2)))))))))
set_option maxRecDepth 100000 in
set_option maxHeartbeats 4000000 in
theorem ok_X12_thinks {Γ : bf_Gm} {ad : Nat → Nat} {o : Nat} {I : Nat → Nat → Int32} {L : Nat → Nat → Int64} (hk : bf_kd o = 12) {r : Int32 × bf_St} (hf : f_X12_thinks o I L = some r) : bf_Cn Γ 5 mu_X12_thinks 0 0 [.ref (ad o)] (bf_S ad I L) (fun q h => q = some (.int r.1) ∧ h = bf_S ad r.2.1 r.2.2) := by
  refine bf_met rfl (Nat.le_of_ble_eq_true rfl) ?_
  unfold f_X12_thinks at hf
  refine bf_aload_n 0 dX12_thinks_0 rfl rfl ?_
  refine fg_X12_11 dX12_thinks_1 rfl hk ?_
  refine bf_aload_n 0 dX12_thinks_4 rfl rfl ?_
  refine fg_X12_15 dX12_thinks_5 rfl hk ?_
  obtain ⟨r2, e1, hf⟩ := bf_bind hf
  have hCe1 := ok_X12_copies (Γ := Γ) (ad := ad) (kr_12_0 hk) (kr_12_1 hk) e1
  refine cv_X12_213 0 dX12_thinks_8 rfl ⟨Nat.le_of_ble_eq_true rfl, Nat.le_of_ble_eq_true rfl⟩ (Nat.le_of_ble_eq_true rfl) hCe1 ?_
  refine bf_aload_n 0 dX12_thinks_11 rfl rfl ?_
  obtain ⟨r4, e3, hf⟩ := bf_bind hf
  have hCe3 := ok_X12_goes (Γ := Γ) (ad := ad) hk e3
  refine cv_X12_217 4 dX12_thinks_12 rfl ⟨Nat.le_of_ble_eq_true rfl, Nat.le_of_ble_eq_true rfl⟩ (Nat.le_of_ble_eq_true rfl) hk hCe3 ?_
  refine bf_istore_n (lv2 := [(1, .int _), (0, .ref _)]) dX12_thinks_15 rfl (by decide) rfl ?_
  refine bf_aload_n 1 dX12_thinks_16 rfl rfl ?_
  refine fg_X12_15 dX12_thinks_17 rfl hk ?_
  refine bf_aload_n 1 dX12_thinks_20 rfl rfl ?_
  refine fg_X12_11 dX12_thinks_21 rfl hk ?_
  obtain ⟨r6, e5, hf⟩ := bf_bind hf
  have hCe5 := ok_X12_copies (Γ := Γ) (ad := ad) (kr_12_1 hk) (kr_12_0 hk) e5
  refine cv_X12_213 0 dX12_thinks_24 rfl ⟨Nat.le_of_ble_eq_true rfl, Nat.le_of_ble_eq_true rfl⟩ (Nat.le_of_ble_eq_true rfl) hCe5 ?_
  refine bf_iload_n 0 dX12_thinks_27 rfl rfl ?_
  refine bf_if_eq 35 dX12_thinks_28 (by decide) (fun c7 => ?_) (fun c7 => ?_)
  · have hf := (if_pos c7).symm.trans hf
    refine bf_iconst (v := 0) dX12_thinks_35 (by decide) ?_
    obtain rfl := Option.some.inj hf
    exact bf_iret dX12_thinks_36 rfl (Nat.le_refl _) (Nat.le_refl _) ⟨rfl, rfl⟩
  · have hf := (if_neg c7).symm.trans hf
    refine bf_iconst (v := 1) dX12_thinks_31 (by decide) ?_
    refine bf_goto 36 dX12_thinks_32 (by decide) ?_
    obtain rfl := Option.some.inj hf
    exact bf_iret dX12_thinks_36 rfl (Nat.le_refl _) (Nat.le_refl _) ⟨rfl, rfl⟩
def f_X12_tokensAll_4 (v0 : Nat) (K : Int32 → (Nat → Nat → Int32) → (Nat → Nat → Int64) → Option (Int32 × bf_St)) : Nat → Int32 → Int32 → (Nat → Nat → Int32) → (Nat → Nat → Int64) → Option (Int32 × bf_St)
  | 0, _, _, _, _ => none
  | n + 1, v1, v2, I, L =>
    (if (I (v0 + 1) (1 : Int32).toNatClampNeg) ≤ v2 then (K v1 I L) else ((f_X12_isWire v0 v2 I L).bind (fun r3 => (if r3.1 = 0 then (f_X12_tokensAll_4 v0 K n (v1 + (0 : Int32)) (v2 + (1 : Int32)) r3.2.1 r3.2.2) else ((f_X12_tokens v0 v2 r3.2.1 r3.2.2).bind (fun r6 => (f_X12_tokensAll_4 v0 K n (v1 + r6.1) (v2 + (1 : Int32)) r6.2.1 r6.2.2)))))))
set_option maxRecDepth 100000 in
set_option maxHeartbeats 4000000 in
theorem ok_X12_tokensAll_4 {Γ : bf_Gm} {ad : Nat → Nat} {v0 : Nat} (hv0 : bf_kd v0 = 12) {r : Int32 × bf_St} {K : Int32 → (Nat → Nat → Int32) → (Nat → Nat → Int64) → Option (Int32 × bf_St)} (hK : ∀ (v1 : Int32) (I : Nat → Nat → Int32) (L : Nat → Nat → Int64), K v1 I L = some r → bf_Go Γ (bf_rm 2 0 0) mu_X12_tokensAll bf_E0 (bf_Z Γ (fun q h => q = some (.int r.1) ∧ h = bf_S ad r.2.1 r.2.2) 0 0) (0, 0) 40 [(1, .int v1)] [] (bf_S ad I L)) : ∀ (n : Nat) (v1 : Int32) (v2 : Int32) (I : Nat → Nat → Int32) (L : Nat → Nat → Int64), f_X12_tokensAll_4 v0 K n v1 v2 I L = some r → bf_Go Γ (bf_rm 2 0 0) mu_X12_tokensAll bf_E0 (bf_Z Γ (fun q h => q = some (.int r.1) ∧ h = bf_S ad r.2.1 r.2.2) 0 0) (0, 0) 4 [(0, .ref (ad v0)), (1, .int v1), (2, .int v2)] [] (bf_S ad I L) := by
  intro n
  induction n with
  | zero => intro v1 v2 I L hf; exact absurd (show none = some r from hf) (by simp)
  | succ n ih =>
    intro v1 v2 I L hf
    rw [f_X12_tokensAll_4] at hf
    refine bf_iload_n 2 dX12_tokensAll_4 rfl rfl ?_
    refine bf_aload_n 0 dX12_tokensAll_5 rfl rfl ?_
    refine fg_X12_11 dX12_tokensAll_6 rfl hv0 ?_
    refine bf_iconst (v := 1) dX12_tokensAll_9 (by decide) ?_
    refine bf_iald dX12_tokensAll_10 (kr_12_0 hv0) (by rw [(kl_12_0 hv0)]; decide) ?_
    refine bf_icmp_ge 40 dX12_tokensAll_11 (by decide) (fun c1 => ?_) (fun c1 => ?_)
    · have hf := (if_pos c1).symm.trans hf
      refine bf_perm [1] rfl ?_
      exact hK _ _ _ hf
    · have hf := (if_neg c1).symm.trans hf
      refine bf_iload_n 1 dX12_tokensAll_14 rfl rfl ?_
      refine bf_aload_n 0 dX12_tokensAll_15 rfl rfl ?_
      refine bf_iload_n 2 dX12_tokensAll_16 rfl rfl ?_
      obtain ⟨r3, e2, hf⟩ := bf_bind hf
      have hCe2 := ok_X12_isWire (Γ := Γ) (ad := ad) hv0 e2
      refine cv_X12_73 1 dX12_tokensAll_17 rfl ⟨Nat.le_of_ble_eq_true rfl, Nat.le_of_ble_eq_true rfl⟩ (Nat.le_of_ble_eq_true rfl) hv0 hCe2 ?_
      refine bf_if_eq 31 dX12_tokensAll_20 (by decide) (fun c4 => ?_) (fun c4 => ?_)
      · have hf := (if_pos c4).symm.trans hf
        refine bf_iconst (v := 0) dX12_tokensAll_31 (by decide) ?_
        refine bf_iadd dX12_tokensAll_32 ?_
        refine bf_istore_n (lv2 := [(1, .int _), (0, .ref _), (2, .int _)]) dX12_tokensAll_33 rfl (by decide) rfl ?_
        refine bf_iinc 2 (v := _ + (1 : Int32)) (lv2 := [(2, .int _), (1, .int _), (0, .ref _)]) dX12_tokensAll_34 rfl (by rfl) (by decide) rfl ?_
        refine bf_goto 4 dX12_tokensAll_37 (by decide) ?_
        refine bf_perm [2, 1, 0] rfl ?_
        exact ih _ _ _ _ hf
      · have hf := (if_neg c4).symm.trans hf
        refine bf_aload_n 0 dX12_tokensAll_23 rfl rfl ?_
        refine bf_iload_n 2 dX12_tokensAll_24 rfl rfl ?_
        obtain ⟨r6, e5, hf⟩ := bf_bind hf
        have hCe5 := ok_X12_tokens (Γ := Γ) (ad := ad) hv0 e5
        refine cv_X12_76 0 dX12_tokensAll_25 rfl ⟨Nat.le_of_ble_eq_true rfl, Nat.le_of_ble_eq_true rfl⟩ (Nat.le_of_ble_eq_true rfl) hv0 hCe5 ?_
        refine bf_goto 32 dX12_tokensAll_28 (by decide) ?_
        refine bf_iadd dX12_tokensAll_32 ?_
        refine bf_istore_n (lv2 := [(1, .int _), (0, .ref _), (2, .int _)]) dX12_tokensAll_33 rfl (by decide) rfl ?_
        refine bf_iinc 2 (v := _ + (1 : Int32)) (lv2 := [(2, .int _), (1, .int _), (0, .ref _)]) dX12_tokensAll_34 rfl (by rfl) (by decide) rfl ?_
        refine bf_goto 4 dX12_tokensAll_37 (by decide) ?_
        refine bf_perm [2, 1, 0] rfl ?_
        exact ih _ _ _ _ hf
def f_X12_tokensAll (o : Nat) (I : Nat → Nat → Int32) (L : Nat → Nat → Int64) : Option (Int32 × bf_St) :=
  (f_X12_tokensAll_4 o (fun k1_7 I7 L7 => (some (k1_7, I7, L7))) 400 (0 : Int32) (0 : Int32) I L)
set_option maxRecDepth 100000 in
set_option maxHeartbeats 4000000 in
theorem ok_X12_tokensAll {Γ : bf_Gm} {ad : Nat → Nat} {o : Nat} {I : Nat → Nat → Int32} {L : Nat → Nat → Int64} (hk : bf_kd o = 12) {r : Int32 × bf_St} (hf : f_X12_tokensAll o I L = some r) : bf_Cn Γ 2 mu_X12_tokensAll 0 0 [.ref (ad o)] (bf_S ad I L) (fun q h => q = some (.int r.1) ∧ h = bf_S ad r.2.1 r.2.2) := by
  refine bf_met rfl (Nat.le_of_ble_eq_true rfl) ?_
  unfold f_X12_tokensAll at hf
  refine bf_iconst (v := 0) dX12_tokensAll_0 (by decide) ?_
  refine bf_istore_n (lv2 := [(1, .int _), (0, .ref _)]) dX12_tokensAll_1 rfl (by decide) rfl ?_
  refine bf_iconst (v := 0) dX12_tokensAll_2 (by decide) ?_
  refine bf_istore_n (lv2 := [(2, .int _), (1, .int _), (0, .ref _)]) dX12_tokensAll_3 rfl (by decide) rfl ?_
  refine bf_perm [2, 1, 0] rfl ?_
  refine ok_X12_tokensAll_4 hk (fun k1_7 I7 L7 hf => ?_) _ _ _ _ _  hf
  refine bf_iload_n 0 dX12_tokensAll_40 rfl rfl ?_
  obtain rfl := Option.some.inj hf
  exact bf_iret dX12_tokensAll_41 rfl (Nat.le_refl _) (Nat.le_refl _) ⟨rfl, rfl⟩
def f_X12_timesAll_4 (v0 : Nat) (K : Int32 → (Nat → Nat → Int32) → (Nat → Nat → Int64) → Option (Int32 × bf_St)) : Nat → Int32 → Int32 → (Nat → Nat → Int32) → (Nat → Nat → Int64) → Option (Int32 × bf_St)
  | 0, _, _, _, _ => none
  | n + 1, v1, v2, I, L =>
    (if (I (v0 + 1) (0 : Int32).toNatClampNeg) ≤ v2 then (K v1 I L) else (if bf_ok v2 6 then (f_X12_timesAll_4 v0 K n (v1 + (I (v0 + 8) v2.toNatClampNeg)) (v2 + (1 : Int32)) I L) else none))
set_option maxRecDepth 100000 in
set_option maxHeartbeats 4000000 in
theorem ok_X12_timesAll_4 {Γ : bf_Gm} {ad : Nat → Nat} {v0 : Nat} (hv0 : bf_kd v0 = 12) {r : Int32 × bf_St} {K : Int32 → (Nat → Nat → Int32) → (Nat → Nat → Int64) → Option (Int32 × bf_St)} (hK : ∀ (v1 : Int32) (I : Nat → Nat → Int32) (L : Nat → Nat → Int64), K v1 I L = some r → bf_Go Γ (bf_rm 0 0 0) mu_X12_timesAll bf_E0 (bf_Z Γ (fun q h => q = some (.int r.1) ∧ h = bf_S ad r.2.1 r.2.2) 0 0) (0, 0) 29 [(1, .int v1)] [] (bf_S ad I L)) : ∀ (n : Nat) (v1 : Int32) (v2 : Int32) (I : Nat → Nat → Int32) (L : Nat → Nat → Int64), f_X12_timesAll_4 v0 K n v1 v2 I L = some r → bf_Go Γ (bf_rm 0 0 0) mu_X12_timesAll bf_E0 (bf_Z Γ (fun q h => q = some (.int r.1) ∧ h = bf_S ad r.2.1 r.2.2) 0 0) (0, 0) 4 [(0, .ref (ad v0)), (1, .int v1), (2, .int v2)] [] (bf_S ad I L) := by
  intro n
  induction n with
  | zero => intro v1 v2 I L hf; exact absurd (show none = some r from hf) (by simp)
  | succ n ih =>
    intro v1 v2 I L hf
    rw [f_X12_timesAll_4] at hf
    refine bf_iload_n 2 dX12_timesAll_4 rfl rfl ?_
    refine bf_aload_n 0 dX12_timesAll_5 rfl rfl ?_
    refine fg_X12_11 dX12_timesAll_6 rfl hv0 ?_
    refine bf_iconst (v := 0) dX12_timesAll_9 (by decide) ?_
    refine bf_iald dX12_timesAll_10 (kr_12_0 hv0) (by rw [(kl_12_0 hv0)]; decide) ?_
    refine bf_icmp_ge 29 dX12_timesAll_11 (by decide) (fun c1 => ?_) (fun c1 => ?_)
    · have hf := (if_pos c1).symm.trans hf
      refine bf_perm [1] rfl ?_
      exact hK _ _ _ hf
    · have hf := (if_neg c1).symm.trans hf
      refine bf_iload_n 1 dX12_timesAll_14 rfl rfl ?_
      refine bf_aload_n 0 dX12_timesAll_15 rfl rfl ?_
      refine fg_X12_34 dX12_timesAll_16 rfl hv0 ?_
      refine bf_iload_n 2 dX12_timesAll_19 rfl rfl ?_
      rcases Decidable.em (bf_ok v2 6) with c2 | c2
      · have hf := (if_pos c2).symm.trans hf
        refine bf_iald dX12_timesAll_20 (kr_12_16 hv0) (by rw [(kl_12_16 hv0)]; exact c2) ?_
        refine bf_iadd dX12_timesAll_21 ?_
        refine bf_istore_n (lv2 := [(1, .int _), (0, .ref _), (2, .int _)]) dX12_timesAll_22 rfl (by decide) rfl ?_
        refine bf_iinc 2 (v := _ + (1 : Int32)) (lv2 := [(2, .int _), (1, .int _), (0, .ref _)]) dX12_timesAll_23 rfl (by rfl) (by decide) rfl ?_
        refine bf_goto 4 dX12_timesAll_26 (by decide) ?_
        refine bf_perm [2, 1, 0] rfl ?_
        exact ih _ _ _ _ hf
      · exact absurd ((if_neg c2).symm.trans hf) (by simp)
def f_X12_timesAll (o : Nat) (I : Nat → Nat → Int32) (L : Nat → Nat → Int64) : Option (Int32 × bf_St) :=
  (f_X12_timesAll_4 o (fun k1_3 I3 L3 => (some (k1_3, I3, L3))) 400 (0 : Int32) (0 : Int32) I L)
set_option maxRecDepth 100000 in
set_option maxHeartbeats 4000000 in
theorem ok_X12_timesAll {Γ : bf_Gm} {ad : Nat → Nat} {o : Nat} {I : Nat → Nat → Int32} {L : Nat → Nat → Int64} (hk : bf_kd o = 12) {r : Int32 × bf_St} (hf : f_X12_timesAll o I L = some r) : bf_Cn Γ 0 mu_X12_timesAll 0 0 [.ref (ad o)] (bf_S ad I L) (fun q h => q = some (.int r.1) ∧ h = bf_S ad r.2.1 r.2.2) := by
  refine bf_met rfl (Nat.le_of_ble_eq_true rfl) ?_
  unfold f_X12_timesAll at hf
  refine bf_iconst (v := 0) dX12_timesAll_0 (by decide) ?_
  refine bf_istore_n (lv2 := [(1, .int _), (0, .ref _)]) dX12_timesAll_1 rfl (by decide) rfl ?_
  refine bf_iconst (v := 0) dX12_timesAll_2 (by decide) ?_
  refine bf_istore_n (lv2 := [(2, .int _), (1, .int _), (0, .ref _)]) dX12_timesAll_3 rfl (by decide) rfl ?_
  refine bf_perm [2, 1, 0] rfl ?_
  refine ok_X12_timesAll_4 hk (fun k1_3 I3 L3 hf => ?_) _ _ _ _ _  hf
  refine bf_iload_n 0 dX12_timesAll_29 rfl rfl ?_
  obtain rfl := Option.some.inj hf
  exact bf_iret dX12_timesAll_30 rfl (Nat.le_refl _) (Nat.le_refl _) ⟨rfl, rfl⟩
def f_X12_hold_9 (v0 : Nat) (K : Int32 → (Nat → Nat → Int32) → (Nat → Nat → Int64) → Option (Int32 × bf_St)) : Nat → Int32 → Int32 → (Nat → Nat → Int32) → (Nat → Nat → Int64) → Option (Int32 × bf_St)
  | 0, _, _, _, _ => none
  | n + 1, v2, v3, I, L =>
    (if (8 : Int32) ≤ v3 then (K v2 I L) else (if bf_ok v3 8 then (f_X12_hold_9 v0 K n (v2 + (I (v0 + 10) v3.toNatClampNeg)) (v3 + (1 : Int32)) I L) else none))
set_option maxRecDepth 100000 in
set_option maxHeartbeats 4000000 in
theorem ok_X12_hold_9 {Γ : bf_Gm} {ad : Nat → Nat} {v0 : Nat} (hv0 : bf_kd v0 = 12) {r : Int32 × bf_St} {K : Int32 → (Nat → Nat → Int32) → (Nat → Nat → Int64) → Option (Int32 × bf_St)} (hK : ∀ (v2 : Int32) (I : Nat → Nat → Int32) (L : Nat → Nat → Int64), K v2 I L = some r → bf_Go Γ (bf_rm 6 0 0) mu_X12_hold bf_E0 (bf_Z Γ (fun q h => q = some (.int r.1) ∧ h = bf_S ad r.2.1 r.2.2) 0 0) (0, 0) 30 [(2, .int v2)] [] (bf_S ad I L)) : ∀ (n : Nat) (v2 : Int32) (v3 : Int32) (I : Nat → Nat → Int32) (L : Nat → Nat → Int64), f_X12_hold_9 v0 K n v2 v3 I L = some r → bf_Go Γ (bf_rm 6 0 0) mu_X12_hold bf_E0 (bf_Z Γ (fun q h => q = some (.int r.1) ∧ h = bf_S ad r.2.1 r.2.2) 0 0) (0, 0) 9 [(0, .ref (ad v0)), (2, .int v2), (3, .int v3)] [] (bf_S ad I L) := by
  intro n
  induction n with
  | zero => intro v2 v3 I L hf; exact absurd (show none = some r from hf) (by simp)
  | succ n ih =>
    intro v2 v3 I L hf
    rw [f_X12_hold_9] at hf
    refine bf_iload_n 2 dX12_hold_9 rfl rfl ?_
    refine bf_bipush (v := 8) dX12_hold_10 (by decide) ?_
    refine bf_icmp_ge 30 dX12_hold_12 (by decide) (fun c3 => ?_) (fun c3 => ?_)
    · have hf := (if_pos c3).symm.trans hf
      refine bf_perm [1] rfl ?_
      exact hK _ _ _ hf
    · have hf := (if_neg c3).symm.trans hf
      refine bf_iload_n 1 dX12_hold_15 rfl rfl ?_
      refine bf_aload_n 0 dX12_hold_16 rfl rfl ?_
      refine fg_X12_40 dX12_hold_17 rfl hv0 ?_
      refine bf_iload_n 2 dX12_hold_20 rfl rfl ?_
      rcases Decidable.em (bf_ok v3 8) with c4 | c4
      · have hf := (if_pos c4).symm.trans hf
        refine bf_iald dX12_hold_21 (kr_12_18 hv0) (by rw [(kl_12_18 hv0)]; exact c4) ?_
        refine bf_iadd dX12_hold_22 ?_
        refine bf_istore_n (lv2 := [(2, .int _), (0, .ref _), (3, .int _)]) dX12_hold_23 rfl (by decide) rfl ?_
        refine bf_iinc 2 (v := _ + (1 : Int32)) (lv2 := [(3, .int _), (2, .int _), (0, .ref _)]) dX12_hold_24 rfl (by rfl) (by decide) rfl ?_
        refine bf_goto 9 dX12_hold_27 (by decide) ?_
        refine bf_perm [2, 1, 0] rfl ?_
        exact ih _ _ _ _ hf
      · exact absurd ((if_neg c4).symm.trans hf) (by simp)
def f_X12_hold (o : Nat) (I : Nat → Nat → Int32) (L : Nat → Nat → Int64) : Option (Int32 × bf_St) :=
  ((f_X12_thinks o I L).bind (fun r2 => (f_X12_hold_9 o (fun k2_5 I5 L5 => (some (k2_5, I5, L5))) 400 (0 : Int32) (0 : Int32) r2.2.1 r2.2.2)))
set_option maxRecDepth 100000 in
set_option maxHeartbeats 4000000 in
theorem ok_X12_hold {Γ : bf_Gm} {ad : Nat → Nat} {o : Nat} {I : Nat → Nat → Int32} {L : Nat → Nat → Int64} (hk : bf_kd o = 12) {r : Int32 × bf_St} (hf : f_X12_hold o I L = some r) : bf_Cn Γ 6 mu_X12_hold 0 0 [.ref (ad o)] (bf_S ad I L) (fun q h => q = some (.int r.1) ∧ h = bf_S ad r.2.1 r.2.2) := by
  refine bf_met rfl (Nat.le_of_ble_eq_true rfl) ?_
  unfold f_X12_hold at hf
  refine bf_aload_n 0 dX12_hold_0 rfl rfl ?_
  obtain ⟨r2, e1, hf⟩ := bf_bind hf
  have hCe1 := ok_X12_thinks (Γ := Γ) (ad := ad) hk e1
  refine cv_X12_226 5 dX12_hold_1 rfl ⟨Nat.le_of_ble_eq_true rfl, Nat.le_of_ble_eq_true rfl⟩ (Nat.le_of_ble_eq_true rfl) hk hCe1 ?_
  refine bf_istore_n (lv2 := [(1, .int _), (0, .ref _)]) dX12_hold_4 rfl (by decide) rfl ?_
  refine bf_iconst (v := 0) dX12_hold_5 (by decide) ?_
  refine bf_istore_n (lv2 := [(2, .int _), (1, .int _), (0, .ref _)]) dX12_hold_6 rfl (by decide) rfl ?_
  refine bf_iconst (v := 0) dX12_hold_7 (by decide) ?_
  refine bf_istore_n (lv2 := [(3, .int _), (2, .int _), (1, .int _), (0, .ref _)]) dX12_hold_8 rfl (by decide) rfl ?_
  refine bf_perm [3, 1, 0] rfl ?_
  refine ok_X12_hold_9 hk (fun k2_5 I5 L5 hf => ?_) _ _ _ _ _  hf
  refine bf_iload_n 0 dX12_hold_30 rfl rfl ?_
  obtain rfl := Option.some.inj hf
  exact bf_iret dX12_hold_31 rfl (Nat.le_refl _) (Nat.le_refl _) ⟨rfl, rfl⟩
def f_X12_moves_2 (v0 : Nat) (v1 : Int32) (v2 : Int32) (K : (Nat → Nat → Int32) → (Nat → Nat → Int64) → Option (bf_St)) : Nat → Int32 → (Nat → Nat → Int32) → (Nat → Nat → Int64) → Option (bf_St)
  | 0, _, _, _ => none
  | n + 1, v3, I, L =>
    (if (I (v0 + 1) (1 : Int32).toNatClampNeg) ≤ v3 then (K I L) else ((f_X12_isWire v0 v3 I L).bind (fun r3 => (if r3.1 = 0 then ((f_X12_isWire v0 v3 r3.2.1 r3.2.2).bind (fun r6 => (if r6.1 = 0 then (if bf_ok (((74 : Int32) + ((105 : Int32) * v3)) + (5 : Int32)) 914 then (if bf_ok (((74 : Int32) + ((105 : Int32) * v3)) + (5 : Int32)) 914 then (f_X12_moves_2 v0 v1 v2 K n (v3 + (1 : Int32)) (bf_u r6.2.1 (v0 + 1) (((74 : Int32) + ((105 : Int32) * v3)) + (5 : Int32)).toNatClampNeg ((r6.2.1 (v0 + 1) (((74 : Int32) + ((105 : Int32) * v3)) + (5 : Int32)).toNatClampNeg) + (v2 * ((0 : Int32) - (0 : Int32))))) r6.2.2) else none) else none) else ((f_X12_to v0 v3 r6.2.1 r6.2.2).bind (fun r11 => (if r11.1 = v1 then ((f_X12_takes v0 v3 r11.2.1 r11.2.2).bind (fun r16 => (if bf_ok (((74 : Int32) + ((105 : Int32) * v3)) + (5 : Int32)) 914 then (if bf_ok (((74 : Int32) + ((105 : Int32) * v3)) + (5 : Int32)) 914 then (f_X12_moves_2 v0 v1 v2 K n (v3 + (1 : Int32)) (bf_u r16.2.1 (v0 + 1) (((74 : Int32) + ((105 : Int32) * v3)) + (5 : Int32)).toNatClampNeg ((r16.2.1 (v0 + 1) (((74 : Int32) + ((105 : Int32) * v3)) + (5 : Int32)).toNatClampNeg) + (v2 * ((0 : Int32) - r16.1)))) r16.2.2) else none) else none))) else (if bf_ok (((74 : Int32) + ((105 : Int32) * v3)) + (5 : Int32)) 914 then (if bf_ok (((74 : Int32) + ((105 : Int32) * v3)) + (5 : Int32)) 914 then (f_X12_moves_2 v0 v1 v2 K n (v3 + (1 : Int32)) (bf_u r11.2.1 (v0 + 1) (((74 : Int32) + ((105 : Int32) * v3)) + (5 : Int32)).toNatClampNeg ((r11.2.1 (v0 + 1) (((74 : Int32) + ((105 : Int32) * v3)) + (5 : Int32)).toNatClampNeg) + (v2 * ((0 : Int32) - (0 : Int32))))) r11.2.2) else none) else none))))))) else ((f_X12_from v0 v3 r3.2.1 r3.2.2).bind (fun r20 => (if r20.1 = v1 then ((f_X12_puts v0 v3 r20.2.1 r20.2.2).bind (fun r37 => ((f_X12_isWire v0 v3 r37.2.1 r37.2.2).bind (fun r39 => (if r39.1 = 0 then (if bf_ok (((74 : Int32) + ((105 : Int32) * v3)) + (5 : Int32)) 914 then (if bf_ok (((74 : Int32) + ((105 : Int32) * v3)) + (5 : Int32)) 914 then (f_X12_moves_2 v0 v1 v2 K n (v3 + (1 : Int32)) (bf_u r39.2.1 (v0 + 1) (((74 : Int32) + ((105 : Int32) * v3)) + (5 : Int32)).toNatClampNeg ((r39.2.1 (v0 + 1) (((74 : Int32) + ((105 : Int32) * v3)) + (5 : Int32)).toNatClampNeg) + (v2 * (r37.1 - (0 : Int32))))) r39.2.2) else none) else none) else ((f_X12_to v0 v3 r39.2.1 r39.2.2).bind (fun r44 => (if r44.1 = v1 then ((f_X12_takes v0 v3 r44.2.1 r44.2.2).bind (fun r49 => (if bf_ok (((74 : Int32) + ((105 : Int32) * v3)) + (5 : Int32)) 914 then (if bf_ok (((74 : Int32) + ((105 : Int32) * v3)) + (5 : Int32)) 914 then (f_X12_moves_2 v0 v1 v2 K n (v3 + (1 : Int32)) (bf_u r49.2.1 (v0 + 1) (((74 : Int32) + ((105 : Int32) * v3)) + (5 : Int32)).toNatClampNeg ((r49.2.1 (v0 + 1) (((74 : Int32) + ((105 : Int32) * v3)) + (5 : Int32)).toNatClampNeg) + (v2 * (r37.1 - r49.1)))) r49.2.2) else none) else none))) else (if bf_ok (((74 : Int32) + ((105 : Int32) * v3)) + (5 : Int32)) 914 then (if bf_ok (((74 : Int32) + ((105 : Int32) * v3)) + (5 : Int32)) 914 then (f_X12_moves_2 v0 v1 v2 K n (v3 + (1 : Int32)) (bf_u r44.2.1 (v0 + 1) (((74 : Int32) + ((105 : Int32) * v3)) + (5 : Int32)).toNatClampNeg ((r44.2.1 (v0 + 1) (((74 : Int32) + ((105 : Int32) * v3)) + (5 : Int32)).toNatClampNeg) + (v2 * (r37.1 - (0 : Int32))))) r44.2.2) else none) else none))))))))) else ((f_X12_isWire v0 v3 r20.2.1 r20.2.2).bind (fun r23 => (if r23.1 = 0 then (if bf_ok (((74 : Int32) + ((105 : Int32) * v3)) + (5 : Int32)) 914 then (if bf_ok (((74 : Int32) + ((105 : Int32) * v3)) + (5 : Int32)) 914 then (f_X12_moves_2 v0 v1 v2 K n (v3 + (1 : Int32)) (bf_u r23.2.1 (v0 + 1) (((74 : Int32) + ((105 : Int32) * v3)) + (5 : Int32)).toNatClampNeg ((r23.2.1 (v0 + 1) (((74 : Int32) + ((105 : Int32) * v3)) + (5 : Int32)).toNatClampNeg) + (v2 * ((0 : Int32) - (0 : Int32))))) r23.2.2) else none) else none) else ((f_X12_to v0 v3 r23.2.1 r23.2.2).bind (fun r28 => (if r28.1 = v1 then ((f_X12_takes v0 v3 r28.2.1 r28.2.2).bind (fun r33 => (if bf_ok (((74 : Int32) + ((105 : Int32) * v3)) + (5 : Int32)) 914 then (if bf_ok (((74 : Int32) + ((105 : Int32) * v3)) + (5 : Int32)) 914 then (f_X12_moves_2 v0 v1 v2 K n (v3 + (1 : Int32)) (bf_u r33.2.1 (v0 + 1) (((74 : Int32) + ((105 : Int32) * v3)) + (5 : Int32)).toNatClampNeg ((r33.2.1 (v0 + 1) (((74 : Int32) + ((105 : Int32) * v3)) + (5 : Int32)).toNatClampNeg) + (v2 * ((0 : Int32) - r33.1)))) r33.2.2) else none) else none))) else (if bf_ok (((74 : Int32) + ((105 : Int32) * v3)) + (5 : Int32)) 914 then (if bf_ok (((74 : Int32) + ((105 : Int32) * v3)) + (5 : Int32)) 914 then (f_X12_moves_2 v0 v1 v2 K n (v3 + (1 : Int32)) (bf_u r28.2.1 (v0 + 1) (((74 : Int32) + ((105 : Int32) * v3)) + (5 : Int32)).toNatClampNeg ((r28.2.1 (v0 + 1) (((74 : Int32) + ((105 : Int32) * v3)) + (5 : Int32)).toNatClampNeg) + (v2 * ((0 : Int32) - (0 : Int32))))) r28.2.2) else none) else none))))))))))))))
set_option maxRecDepth 100000 in
set_option maxHeartbeats 4000000 in
theorem ok_X12_moves_2 {Γ : bf_Gm} {ad : Nat → Nat} {v0 : Nat} {v1 : Int32} {v2 : Int32} (hv0 : bf_kd v0 = 12) {r : bf_St} {K : (Nat → Nat → Int32) → (Nat → Nat → Int64) → Option (bf_St)} (hK : ∀ (I : Nat → Nat → Int32) (L : Nat → Nat → Int64), K  I L = some r → bf_Go Γ (bf_rm 2 0 0) mu_X12_moves bf_E0 (bf_Z Γ (fun q h => q = none ∧ h = bf_S ad r.1 r.2) 0 0) (0, 0) 94 [] [] (bf_S ad I L)) : ∀ (n : Nat) (v3 : Int32) (I : Nat → Nat → Int32) (L : Nat → Nat → Int64), f_X12_moves_2 v0 v1 v2 K n v3 I L = some r → bf_Go Γ (bf_rm 2 0 0) mu_X12_moves bf_E0 (bf_Z Γ (fun q h => q = none ∧ h = bf_S ad r.1 r.2) 0 0) (0, 0) 2 [(0, .ref (ad v0)), (1, .int v1), (2, .int v2), (3, .int v3)] [] (bf_S ad I L) := by
  intro n
  induction n with
  | zero => intro v3 I L hf; exact absurd (show none = some r from hf) (by simp)
  | succ n ih =>
    intro v3 I L hf
    rw [f_X12_moves_2] at hf
    refine bf_iload_n 3 dX12_moves_2 rfl rfl ?_
    refine bf_aload_n 0 dX12_moves_3 rfl rfl ?_
    refine fg_X12_11 dX12_moves_4 rfl hv0 ?_
    refine bf_iconst (v := 1) dX12_moves_7 (by decide) ?_
    refine bf_iald dX12_moves_8 (kr_12_0 hv0) (by rw [(kl_12_0 hv0)]; decide) ?_
    refine bf_icmp_ge 94 dX12_moves_9 (by decide) (fun c1 => ?_) (fun c1 => ?_)
    · have hf := (if_pos c1).symm.trans hf
      refine bf_perm [] rfl ?_
      exact hK _ _ hf
    · have hf := (if_neg c1).symm.trans hf
      refine bf_aload_n 0 dX12_moves_12 rfl rfl ?_
      refine bf_iload_n 3 dX12_moves_13 rfl rfl ?_
      obtain ⟨r3, e2, hf⟩ := bf_bind hf
      have hCe2 := ok_X12_isWire (Γ := Γ) (ad := ad) hv0 e2
      refine cv_X12_73 1 dX12_moves_14 rfl ⟨Nat.le_of_ble_eq_true rfl, Nat.le_of_ble_eq_true rfl⟩ (Nat.le_of_ble_eq_true rfl) hv0 hCe2 ?_
      refine bf_if_eq 37 dX12_moves_17 (by decide) (fun c4 => ?_) (fun c4 => ?_)
      · have hf := (if_pos c4).symm.trans hf
        refine bf_iconst (v := 0) dX12_moves_37 (by decide) ?_
        refine bf_aload_n 0 dX12_moves_38 rfl rfl ?_
        refine bf_iload_n 3 dX12_moves_39 rfl rfl ?_
        obtain ⟨r6, e5, hf⟩ := bf_bind hf
        have hCe5 := ok_X12_isWire (Γ := Γ) (ad := ad) hv0 e5
        refine cv_X12_73 1 dX12_moves_40 rfl ⟨Nat.le_of_ble_eq_true rfl, Nat.le_of_ble_eq_true rfl⟩ (Nat.le_of_ble_eq_true rfl) hv0 hCe5 ?_
        refine bf_if_eq 63 dX12_moves_43 (by decide) (fun c7 => ?_) (fun c7 => ?_)
        · have hf := (if_pos c7).symm.trans hf
          refine bf_iconst (v := 0) dX12_moves_63 (by decide) ?_
          refine bf_isub dX12_moves_64 ?_
          refine bf_istore (lv2 := [(4, .int _), (0, .ref _), (1, .int _), (2, .int _), (3, .int _)]) dX12_moves_65 (by decide) rfl ?_
          refine bf_aload_n 1 dX12_moves_67 rfl rfl ?_
          refine fg_X12_11 dX12_moves_68 rfl hv0 ?_
          refine bf_bipush (v := 74) dX12_moves_71 (by decide) ?_
          refine bf_bipush (v := 105) dX12_moves_73 (by decide) ?_
          refine bf_iload_n 4 dX12_moves_75 rfl rfl ?_
          refine bf_imul dX12_moves_76 ?_
          refine bf_iadd dX12_moves_77 ?_
          refine bf_iconst (v := 5) dX12_moves_78 (by decide) ?_
          refine bf_iadd dX12_moves_79 ?_
          refine bf_dup2 dX12_moves_80 rfl rfl ?_
          rcases Decidable.em (bf_ok (((74 : Int32) + ((105 : Int32) * v3)) + (5 : Int32)) 914) with c8 | c8
          · have hf := (if_pos c8).symm.trans hf
            refine bf_iald dX12_moves_81 (kr_12_0 hv0) (by rw [(kl_12_0 hv0)]; exact c8) ?_
            refine bf_iload_n 3 dX12_moves_82 rfl rfl ?_
            refine bf_iload 0 dX12_moves_83 rfl ?_
            refine bf_imul dX12_moves_85 ?_
            refine bf_iadd dX12_moves_86 ?_
            rcases Decidable.em (bf_ok (((74 : Int32) + ((105 : Int32) * v3)) + (5 : Int32)) 914) with c9 | c9
            · have hf := (if_pos c9).symm.trans hf
              refine bf_iast dX12_moves_87 (kr_12_0 hv0) (by rw [(kl_12_0 hv0)]; exact c9) ?_
              refine bf_iinc 4 (v := _ + (1 : Int32)) (lv2 := [(3, .int _), (4, .int _), (0, .ref _), (1, .int _), (2, .int _)]) dX12_moves_88 rfl (by rfl) (by decide) rfl ?_
              refine bf_goto 2 dX12_moves_91 (by decide) ?_
              refine bf_perm [2, 3, 4, 0] rfl ?_
              exact ih _ _ _ hf
            · exact absurd ((if_neg c9).symm.trans hf) (by simp)
          · exact absurd ((if_neg c8).symm.trans hf) (by simp)
        · have hf := (if_neg c7).symm.trans hf
          refine bf_aload_n 0 dX12_moves_46 rfl rfl ?_
          refine bf_iload_n 3 dX12_moves_47 rfl rfl ?_
          obtain ⟨r11, e10, hf⟩ := bf_bind hf
          have hCe10 := ok_X12_to (Γ := Γ) (ad := ad) hv0 e10
          refine cv_X12_121 0 dX12_moves_48 rfl ⟨Nat.le_of_ble_eq_true rfl, Nat.le_of_ble_eq_true rfl⟩ (Nat.le_of_ble_eq_true rfl) hv0 hCe10 ?_
          refine bf_iload_n 1 dX12_moves_51 rfl rfl ?_
          refine bf_icmp_ne 63 dX12_moves_52 (by decide) (fun c12 => ?_) (fun c12 => ?_)
          · have hf := (if_neg c12).symm.trans hf
            refine bf_iconst (v := 0) dX12_moves_63 (by decide) ?_
            refine bf_isub dX12_moves_64 ?_
            refine bf_istore (lv2 := [(4, .int _), (0, .ref _), (1, .int _), (2, .int _), (3, .int _)]) dX12_moves_65 (by decide) rfl ?_
            refine bf_aload_n 1 dX12_moves_67 rfl rfl ?_
            refine fg_X12_11 dX12_moves_68 rfl hv0 ?_
            refine bf_bipush (v := 74) dX12_moves_71 (by decide) ?_
            refine bf_bipush (v := 105) dX12_moves_73 (by decide) ?_
            refine bf_iload_n 4 dX12_moves_75 rfl rfl ?_
            refine bf_imul dX12_moves_76 ?_
            refine bf_iadd dX12_moves_77 ?_
            refine bf_iconst (v := 5) dX12_moves_78 (by decide) ?_
            refine bf_iadd dX12_moves_79 ?_
            refine bf_dup2 dX12_moves_80 rfl rfl ?_
            rcases Decidable.em (bf_ok (((74 : Int32) + ((105 : Int32) * v3)) + (5 : Int32)) 914) with c13 | c13
            · have hf := (if_pos c13).symm.trans hf
              refine bf_iald dX12_moves_81 (kr_12_0 hv0) (by rw [(kl_12_0 hv0)]; exact c13) ?_
              refine bf_iload_n 3 dX12_moves_82 rfl rfl ?_
              refine bf_iload 0 dX12_moves_83 rfl ?_
              refine bf_imul dX12_moves_85 ?_
              refine bf_iadd dX12_moves_86 ?_
              rcases Decidable.em (bf_ok (((74 : Int32) + ((105 : Int32) * v3)) + (5 : Int32)) 914) with c14 | c14
              · have hf := (if_pos c14).symm.trans hf
                refine bf_iast dX12_moves_87 (kr_12_0 hv0) (by rw [(kl_12_0 hv0)]; exact c14) ?_
                refine bf_iinc 4 (v := _ + (1 : Int32)) (lv2 := [(3, .int _), (4, .int _), (0, .ref _), (1, .int _), (2, .int _)]) dX12_moves_88 rfl (by rfl) (by decide) rfl ?_
                refine bf_goto 2 dX12_moves_91 (by decide) ?_
                refine bf_perm [2, 3, 4, 0] rfl ?_
                exact ih _ _ _ hf
              · exact absurd ((if_neg c14).symm.trans hf) (by simp)
            · exact absurd ((if_neg c13).symm.trans hf) (by simp)
          · have hf := (if_pos c12).symm.trans hf
            refine bf_aload_n 0 dX12_moves_55 rfl rfl ?_
            refine bf_iload_n 3 dX12_moves_56 rfl rfl ?_
            obtain ⟨r16, e15, hf⟩ := bf_bind hf
            have hCe15 := ok_X12_takes (Γ := Γ) (ad := ad) hv0 e15
            refine cv_X12_124 0 dX12_moves_57 rfl ⟨Nat.le_of_ble_eq_true rfl, Nat.le_of_ble_eq_true rfl⟩ (Nat.le_of_ble_eq_true rfl) hv0 hCe15 ?_
            refine bf_goto 64 dX12_moves_60 (by decide) ?_
            refine bf_isub dX12_moves_64 ?_
            refine bf_istore (lv2 := [(4, .int _), (0, .ref _), (1, .int _), (2, .int _), (3, .int _)]) dX12_moves_65 (by decide) rfl ?_
            refine bf_aload_n 1 dX12_moves_67 rfl rfl ?_
            refine fg_X12_11 dX12_moves_68 rfl hv0 ?_
            refine bf_bipush (v := 74) dX12_moves_71 (by decide) ?_
            refine bf_bipush (v := 105) dX12_moves_73 (by decide) ?_
            refine bf_iload_n 4 dX12_moves_75 rfl rfl ?_
            refine bf_imul dX12_moves_76 ?_
            refine bf_iadd dX12_moves_77 ?_
            refine bf_iconst (v := 5) dX12_moves_78 (by decide) ?_
            refine bf_iadd dX12_moves_79 ?_
            refine bf_dup2 dX12_moves_80 rfl rfl ?_
            rcases Decidable.em (bf_ok (((74 : Int32) + ((105 : Int32) * v3)) + (5 : Int32)) 914) with c17 | c17
            · have hf := (if_pos c17).symm.trans hf
              refine bf_iald dX12_moves_81 (kr_12_0 hv0) (by rw [(kl_12_0 hv0)]; exact c17) ?_
              refine bf_iload_n 3 dX12_moves_82 rfl rfl ?_
              refine bf_iload 0 dX12_moves_83 rfl ?_
              refine bf_imul dX12_moves_85 ?_
              refine bf_iadd dX12_moves_86 ?_
              rcases Decidable.em (bf_ok (((74 : Int32) + ((105 : Int32) * v3)) + (5 : Int32)) 914) with c18 | c18
              · have hf := (if_pos c18).symm.trans hf
                refine bf_iast dX12_moves_87 (kr_12_0 hv0) (by rw [(kl_12_0 hv0)]; exact c18) ?_
                refine bf_iinc 4 (v := _ + (1 : Int32)) (lv2 := [(3, .int _), (4, .int _), (0, .ref _), (1, .int _), (2, .int _)]) dX12_moves_88 rfl (by rfl) (by decide) rfl ?_
                refine bf_goto 2 dX12_moves_91 (by decide) ?_
                refine bf_perm [2, 3, 4, 0] rfl ?_
                exact ih _ _ _ hf
              · exact absurd ((if_neg c18).symm.trans hf) (by simp)
            · exact absurd ((if_neg c17).symm.trans hf) (by simp)
      · have hf := (if_neg c4).symm.trans hf
        refine bf_aload_n 0 dX12_moves_20 rfl rfl ?_
        refine bf_iload_n 3 dX12_moves_21 rfl rfl ?_
        obtain ⟨r20, e19, hf⟩ := bf_bind hf
        have hCe19 := ok_X12_from (Γ := Γ) (ad := ad) hv0 e19
        refine cv_X12_127 0 dX12_moves_22 rfl ⟨Nat.le_of_ble_eq_true rfl, Nat.le_of_ble_eq_true rfl⟩ (Nat.le_of_ble_eq_true rfl) hv0 hCe19 ?_
        refine bf_iload_n 1 dX12_moves_25 rfl rfl ?_
        refine bf_icmp_ne 37 dX12_moves_26 (by decide) (fun c21 => ?_) (fun c21 => ?_)
        · have hf := (if_neg c21).symm.trans hf
          refine bf_iconst (v := 0) dX12_moves_37 (by decide) ?_
          refine bf_aload_n 0 dX12_moves_38 rfl rfl ?_
          refine bf_iload_n 3 dX12_moves_39 rfl rfl ?_
          obtain ⟨r23, e22, hf⟩ := bf_bind hf
          have hCe22 := ok_X12_isWire (Γ := Γ) (ad := ad) hv0 e22
          refine cv_X12_73 1 dX12_moves_40 rfl ⟨Nat.le_of_ble_eq_true rfl, Nat.le_of_ble_eq_true rfl⟩ (Nat.le_of_ble_eq_true rfl) hv0 hCe22 ?_
          refine bf_if_eq 63 dX12_moves_43 (by decide) (fun c24 => ?_) (fun c24 => ?_)
          · have hf := (if_pos c24).symm.trans hf
            refine bf_iconst (v := 0) dX12_moves_63 (by decide) ?_
            refine bf_isub dX12_moves_64 ?_
            refine bf_istore (lv2 := [(4, .int _), (0, .ref _), (1, .int _), (2, .int _), (3, .int _)]) dX12_moves_65 (by decide) rfl ?_
            refine bf_aload_n 1 dX12_moves_67 rfl rfl ?_
            refine fg_X12_11 dX12_moves_68 rfl hv0 ?_
            refine bf_bipush (v := 74) dX12_moves_71 (by decide) ?_
            refine bf_bipush (v := 105) dX12_moves_73 (by decide) ?_
            refine bf_iload_n 4 dX12_moves_75 rfl rfl ?_
            refine bf_imul dX12_moves_76 ?_
            refine bf_iadd dX12_moves_77 ?_
            refine bf_iconst (v := 5) dX12_moves_78 (by decide) ?_
            refine bf_iadd dX12_moves_79 ?_
            refine bf_dup2 dX12_moves_80 rfl rfl ?_
            rcases Decidable.em (bf_ok (((74 : Int32) + ((105 : Int32) * v3)) + (5 : Int32)) 914) with c25 | c25
            · have hf := (if_pos c25).symm.trans hf
              refine bf_iald dX12_moves_81 (kr_12_0 hv0) (by rw [(kl_12_0 hv0)]; exact c25) ?_
              refine bf_iload_n 3 dX12_moves_82 rfl rfl ?_
              refine bf_iload 0 dX12_moves_83 rfl ?_
              refine bf_imul dX12_moves_85 ?_
              refine bf_iadd dX12_moves_86 ?_
              rcases Decidable.em (bf_ok (((74 : Int32) + ((105 : Int32) * v3)) + (5 : Int32)) 914) with c26 | c26
              · have hf := (if_pos c26).symm.trans hf
                refine bf_iast dX12_moves_87 (kr_12_0 hv0) (by rw [(kl_12_0 hv0)]; exact c26) ?_
                refine bf_iinc 4 (v := _ + (1 : Int32)) (lv2 := [(3, .int _), (4, .int _), (0, .ref _), (1, .int _), (2, .int _)]) dX12_moves_88 rfl (by rfl) (by decide) rfl ?_
                refine bf_goto 2 dX12_moves_91 (by decide) ?_
                refine bf_perm [2, 3, 4, 0] rfl ?_
                exact ih _ _ _ hf
              · exact absurd ((if_neg c26).symm.trans hf) (by simp)
            · exact absurd ((if_neg c25).symm.trans hf) (by simp)
          · have hf := (if_neg c24).symm.trans hf
            refine bf_aload_n 0 dX12_moves_46 rfl rfl ?_
            refine bf_iload_n 3 dX12_moves_47 rfl rfl ?_
            obtain ⟨r28, e27, hf⟩ := bf_bind hf
            have hCe27 := ok_X12_to (Γ := Γ) (ad := ad) hv0 e27
            refine cv_X12_121 0 dX12_moves_48 rfl ⟨Nat.le_of_ble_eq_true rfl, Nat.le_of_ble_eq_true rfl⟩ (Nat.le_of_ble_eq_true rfl) hv0 hCe27 ?_
            refine bf_iload_n 1 dX12_moves_51 rfl rfl ?_
            refine bf_icmp_ne 63 dX12_moves_52 (by decide) (fun c29 => ?_) (fun c29 => ?_)
            · have hf := (if_neg c29).symm.trans hf
              refine bf_iconst (v := 0) dX12_moves_63 (by decide) ?_
              refine bf_isub dX12_moves_64 ?_
              refine bf_istore (lv2 := [(4, .int _), (0, .ref _), (1, .int _), (2, .int _), (3, .int _)]) dX12_moves_65 (by decide) rfl ?_
              refine bf_aload_n 1 dX12_moves_67 rfl rfl ?_
              refine fg_X12_11 dX12_moves_68 rfl hv0 ?_
              refine bf_bipush (v := 74) dX12_moves_71 (by decide) ?_
              refine bf_bipush (v := 105) dX12_moves_73 (by decide) ?_
              refine bf_iload_n 4 dX12_moves_75 rfl rfl ?_
              refine bf_imul dX12_moves_76 ?_
              refine bf_iadd dX12_moves_77 ?_
              refine bf_iconst (v := 5) dX12_moves_78 (by decide) ?_
              refine bf_iadd dX12_moves_79 ?_
              refine bf_dup2 dX12_moves_80 rfl rfl ?_
              rcases Decidable.em (bf_ok (((74 : Int32) + ((105 : Int32) * v3)) + (5 : Int32)) 914) with c30 | c30
              · have hf := (if_pos c30).symm.trans hf
                refine bf_iald dX12_moves_81 (kr_12_0 hv0) (by rw [(kl_12_0 hv0)]; exact c30) ?_
                refine bf_iload_n 3 dX12_moves_82 rfl rfl ?_
                refine bf_iload 0 dX12_moves_83 rfl ?_
                refine bf_imul dX12_moves_85 ?_
                refine bf_iadd dX12_moves_86 ?_
                rcases Decidable.em (bf_ok (((74 : Int32) + ((105 : Int32) * v3)) + (5 : Int32)) 914) with c31 | c31
                · have hf := (if_pos c31).symm.trans hf
                  refine bf_iast dX12_moves_87 (kr_12_0 hv0) (by rw [(kl_12_0 hv0)]; exact c31) ?_
                  refine bf_iinc 4 (v := _ + (1 : Int32)) (lv2 := [(3, .int _), (4, .int _), (0, .ref _), (1, .int _), (2, .int _)]) dX12_moves_88 rfl (by rfl) (by decide) rfl ?_
                  refine bf_goto 2 dX12_moves_91 (by decide) ?_
                  refine bf_perm [2, 3, 4, 0] rfl ?_
                  exact ih _ _ _ hf
                · exact absurd ((if_neg c31).symm.trans hf) (by simp)
              · exact absurd ((if_neg c30).symm.trans hf) (by simp)
            · have hf := (if_pos c29).symm.trans hf
              refine bf_aload_n 0 dX12_moves_55 rfl rfl ?_
              refine bf_iload_n 3 dX12_moves_56 rfl rfl ?_
              obtain ⟨r33, e32, hf⟩ := bf_bind hf
              have hCe32 := ok_X12_takes (Γ := Γ) (ad := ad) hv0 e32
              refine cv_X12_124 0 dX12_moves_57 rfl ⟨Nat.le_of_ble_eq_true rfl, Nat.le_of_ble_eq_true rfl⟩ (Nat.le_of_ble_eq_true rfl) hv0 hCe32 ?_
              refine bf_goto 64 dX12_moves_60 (by decide) ?_
              refine bf_isub dX12_moves_64 ?_
              refine bf_istore (lv2 := [(4, .int _), (0, .ref _), (1, .int _), (2, .int _), (3, .int _)]) dX12_moves_65 (by decide) rfl ?_
              refine bf_aload_n 1 dX12_moves_67 rfl rfl ?_
              refine fg_X12_11 dX12_moves_68 rfl hv0 ?_
              refine bf_bipush (v := 74) dX12_moves_71 (by decide) ?_
              refine bf_bipush (v := 105) dX12_moves_73 (by decide) ?_
              refine bf_iload_n 4 dX12_moves_75 rfl rfl ?_
              refine bf_imul dX12_moves_76 ?_
              refine bf_iadd dX12_moves_77 ?_
              refine bf_iconst (v := 5) dX12_moves_78 (by decide) ?_
              refine bf_iadd dX12_moves_79 ?_
              refine bf_dup2 dX12_moves_80 rfl rfl ?_
              rcases Decidable.em (bf_ok (((74 : Int32) + ((105 : Int32) * v3)) + (5 : Int32)) 914) with c34 | c34
              · have hf := (if_pos c34).symm.trans hf
                refine bf_iald dX12_moves_81 (kr_12_0 hv0) (by rw [(kl_12_0 hv0)]; exact c34) ?_
                refine bf_iload_n 3 dX12_moves_82 rfl rfl ?_
                refine bf_iload 0 dX12_moves_83 rfl ?_
                refine bf_imul dX12_moves_85 ?_
                refine bf_iadd dX12_moves_86 ?_
                rcases Decidable.em (bf_ok (((74 : Int32) + ((105 : Int32) * v3)) + (5 : Int32)) 914) with c35 | c35
                · have hf := (if_pos c35).symm.trans hf
                  refine bf_iast dX12_moves_87 (kr_12_0 hv0) (by rw [(kl_12_0 hv0)]; exact c35) ?_
                  refine bf_iinc 4 (v := _ + (1 : Int32)) (lv2 := [(3, .int _), (4, .int _), (0, .ref _), (1, .int _), (2, .int _)]) dX12_moves_88 rfl (by rfl) (by decide) rfl ?_
                  refine bf_goto 2 dX12_moves_91 (by decide) ?_
                  refine bf_perm [2, 3, 4, 0] rfl ?_
                  exact ih _ _ _ hf
                · exact absurd ((if_neg c35).symm.trans hf) (by simp)
              · exact absurd ((if_neg c34).symm.trans hf) (by simp)
        · have hf := (if_pos c21).symm.trans hf
          refine bf_aload_n 0 dX12_moves_29 rfl rfl ?_
          refine bf_iload_n 3 dX12_moves_30 rfl rfl ?_
          obtain ⟨r37, e36, hf⟩ := bf_bind hf
          have hCe36 := ok_X12_puts (Γ := Γ) (ad := ad) hv0 e36
          refine cv_X12_130 0 dX12_moves_31 rfl ⟨Nat.le_of_ble_eq_true rfl, Nat.le_of_ble_eq_true rfl⟩ (Nat.le_of_ble_eq_true rfl) hv0 hCe36 ?_
          refine bf_goto 38 dX12_moves_34 (by decide) ?_
          refine bf_aload_n 0 dX12_moves_38 rfl rfl ?_
          refine bf_iload_n 3 dX12_moves_39 rfl rfl ?_
          obtain ⟨r39, e38, hf⟩ := bf_bind hf
          have hCe38 := ok_X12_isWire (Γ := Γ) (ad := ad) hv0 e38
          refine cv_X12_73 1 dX12_moves_40 rfl ⟨Nat.le_of_ble_eq_true rfl, Nat.le_of_ble_eq_true rfl⟩ (Nat.le_of_ble_eq_true rfl) hv0 hCe38 ?_
          refine bf_if_eq 63 dX12_moves_43 (by decide) (fun c40 => ?_) (fun c40 => ?_)
          · have hf := (if_pos c40).symm.trans hf
            refine bf_iconst (v := 0) dX12_moves_63 (by decide) ?_
            refine bf_isub dX12_moves_64 ?_
            refine bf_istore (lv2 := [(4, .int _), (0, .ref _), (1, .int _), (2, .int _), (3, .int _)]) dX12_moves_65 (by decide) rfl ?_
            refine bf_aload_n 1 dX12_moves_67 rfl rfl ?_
            refine fg_X12_11 dX12_moves_68 rfl hv0 ?_
            refine bf_bipush (v := 74) dX12_moves_71 (by decide) ?_
            refine bf_bipush (v := 105) dX12_moves_73 (by decide) ?_
            refine bf_iload_n 4 dX12_moves_75 rfl rfl ?_
            refine bf_imul dX12_moves_76 ?_
            refine bf_iadd dX12_moves_77 ?_
            refine bf_iconst (v := 5) dX12_moves_78 (by decide) ?_
            refine bf_iadd dX12_moves_79 ?_
            refine bf_dup2 dX12_moves_80 rfl rfl ?_
            rcases Decidable.em (bf_ok (((74 : Int32) + ((105 : Int32) * v3)) + (5 : Int32)) 914) with c41 | c41
            · have hf := (if_pos c41).symm.trans hf
              refine bf_iald dX12_moves_81 (kr_12_0 hv0) (by rw [(kl_12_0 hv0)]; exact c41) ?_
              refine bf_iload_n 3 dX12_moves_82 rfl rfl ?_
              refine bf_iload 0 dX12_moves_83 rfl ?_
              refine bf_imul dX12_moves_85 ?_
              refine bf_iadd dX12_moves_86 ?_
              rcases Decidable.em (bf_ok (((74 : Int32) + ((105 : Int32) * v3)) + (5 : Int32)) 914) with c42 | c42
              · have hf := (if_pos c42).symm.trans hf
                refine bf_iast dX12_moves_87 (kr_12_0 hv0) (by rw [(kl_12_0 hv0)]; exact c42) ?_
                refine bf_iinc 4 (v := _ + (1 : Int32)) (lv2 := [(3, .int _), (4, .int _), (0, .ref _), (1, .int _), (2, .int _)]) dX12_moves_88 rfl (by rfl) (by decide) rfl ?_
                refine bf_goto 2 dX12_moves_91 (by decide) ?_
                refine bf_perm [2, 3, 4, 0] rfl ?_
                exact ih _ _ _ hf
              · exact absurd ((if_neg c42).symm.trans hf) (by simp)
            · exact absurd ((if_neg c41).symm.trans hf) (by simp)
          · have hf := (if_neg c40).symm.trans hf
            refine bf_aload_n 0 dX12_moves_46 rfl rfl ?_
            refine bf_iload_n 3 dX12_moves_47 rfl rfl ?_
            obtain ⟨r44, e43, hf⟩ := bf_bind hf
            have hCe43 := ok_X12_to (Γ := Γ) (ad := ad) hv0 e43
            refine cv_X12_121 0 dX12_moves_48 rfl ⟨Nat.le_of_ble_eq_true rfl, Nat.le_of_ble_eq_true rfl⟩ (Nat.le_of_ble_eq_true rfl) hv0 hCe43 ?_
            refine bf_iload_n 1 dX12_moves_51 rfl rfl ?_
            refine bf_icmp_ne 63 dX12_moves_52 (by decide) (fun c45 => ?_) (fun c45 => ?_)
            · have hf := (if_neg c45).symm.trans hf
              refine bf_iconst (v := 0) dX12_moves_63 (by decide) ?_
              refine bf_isub dX12_moves_64 ?_
              refine bf_istore (lv2 := [(4, .int _), (0, .ref _), (1, .int _), (2, .int _), (3, .int _)]) dX12_moves_65 (by decide) rfl ?_
              refine bf_aload_n 1 dX12_moves_67 rfl rfl ?_
              refine fg_X12_11 dX12_moves_68 rfl hv0 ?_
              refine bf_bipush (v := 74) dX12_moves_71 (by decide) ?_
              refine bf_bipush (v := 105) dX12_moves_73 (by decide) ?_
              refine bf_iload_n 4 dX12_moves_75 rfl rfl ?_
              refine bf_imul dX12_moves_76 ?_
              refine bf_iadd dX12_moves_77 ?_
              refine bf_iconst (v := 5) dX12_moves_78 (by decide) ?_
              refine bf_iadd dX12_moves_79 ?_
              refine bf_dup2 dX12_moves_80 rfl rfl ?_
              rcases Decidable.em (bf_ok (((74 : Int32) + ((105 : Int32) * v3)) + (5 : Int32)) 914) with c46 | c46
              · have hf := (if_pos c46).symm.trans hf
                refine bf_iald dX12_moves_81 (kr_12_0 hv0) (by rw [(kl_12_0 hv0)]; exact c46) ?_
                refine bf_iload_n 3 dX12_moves_82 rfl rfl ?_
                refine bf_iload 0 dX12_moves_83 rfl ?_
                refine bf_imul dX12_moves_85 ?_
                refine bf_iadd dX12_moves_86 ?_
                rcases Decidable.em (bf_ok (((74 : Int32) + ((105 : Int32) * v3)) + (5 : Int32)) 914) with c47 | c47
                · have hf := (if_pos c47).symm.trans hf
                  refine bf_iast dX12_moves_87 (kr_12_0 hv0) (by rw [(kl_12_0 hv0)]; exact c47) ?_
                  refine bf_iinc 4 (v := _ + (1 : Int32)) (lv2 := [(3, .int _), (4, .int _), (0, .ref _), (1, .int _), (2, .int _)]) dX12_moves_88 rfl (by rfl) (by decide) rfl ?_
                  refine bf_goto 2 dX12_moves_91 (by decide) ?_
                  refine bf_perm [2, 3, 4, 0] rfl ?_
                  exact ih _ _ _ hf
                · exact absurd ((if_neg c47).symm.trans hf) (by simp)
              · exact absurd ((if_neg c46).symm.trans hf) (by simp)
            · have hf := (if_pos c45).symm.trans hf
              refine bf_aload_n 0 dX12_moves_55 rfl rfl ?_
              refine bf_iload_n 3 dX12_moves_56 rfl rfl ?_
              obtain ⟨r49, e48, hf⟩ := bf_bind hf
              have hCe48 := ok_X12_takes (Γ := Γ) (ad := ad) hv0 e48
              refine cv_X12_124 0 dX12_moves_57 rfl ⟨Nat.le_of_ble_eq_true rfl, Nat.le_of_ble_eq_true rfl⟩ (Nat.le_of_ble_eq_true rfl) hv0 hCe48 ?_
              refine bf_goto 64 dX12_moves_60 (by decide) ?_
              refine bf_isub dX12_moves_64 ?_
              refine bf_istore (lv2 := [(4, .int _), (0, .ref _), (1, .int _), (2, .int _), (3, .int _)]) dX12_moves_65 (by decide) rfl ?_
              refine bf_aload_n 1 dX12_moves_67 rfl rfl ?_
              refine fg_X12_11 dX12_moves_68 rfl hv0 ?_
              refine bf_bipush (v := 74) dX12_moves_71 (by decide) ?_
              refine bf_bipush (v := 105) dX12_moves_73 (by decide) ?_
              refine bf_iload_n 4 dX12_moves_75 rfl rfl ?_
              refine bf_imul dX12_moves_76 ?_
              refine bf_iadd dX12_moves_77 ?_
              refine bf_iconst (v := 5) dX12_moves_78 (by decide) ?_
              refine bf_iadd dX12_moves_79 ?_
              refine bf_dup2 dX12_moves_80 rfl rfl ?_
              rcases Decidable.em (bf_ok (((74 : Int32) + ((105 : Int32) * v3)) + (5 : Int32)) 914) with c50 | c50
              · have hf := (if_pos c50).symm.trans hf
                refine bf_iald dX12_moves_81 (kr_12_0 hv0) (by rw [(kl_12_0 hv0)]; exact c50) ?_
                refine bf_iload_n 3 dX12_moves_82 rfl rfl ?_
                refine bf_iload 0 dX12_moves_83 rfl ?_
                refine bf_imul dX12_moves_85 ?_
                refine bf_iadd dX12_moves_86 ?_
                rcases Decidable.em (bf_ok (((74 : Int32) + ((105 : Int32) * v3)) + (5 : Int32)) 914) with c51 | c51
                · have hf := (if_pos c51).symm.trans hf
                  refine bf_iast dX12_moves_87 (kr_12_0 hv0) (by rw [(kl_12_0 hv0)]; exact c51) ?_
                  refine bf_iinc 4 (v := _ + (1 : Int32)) (lv2 := [(3, .int _), (4, .int _), (0, .ref _), (1, .int _), (2, .int _)]) dX12_moves_88 rfl (by rfl) (by decide) rfl ?_
                  refine bf_goto 2 dX12_moves_91 (by decide) ?_
                  refine bf_perm [2, 3, 4, 0] rfl ?_
                  exact ih _ _ _ hf
                · exact absurd ((if_neg c51).symm.trans hf) (by simp)
              · exact absurd ((if_neg c50).symm.trans hf) (by simp)
def f_X12_moves (o : Nat) (a0 : Int32) (a1 : Int32) (I : Nat → Nat → Int32) (L : Nat → Nat → Int64) : Option (bf_St) :=
  (f_X12_moves_2 o a0 a1 (fun I52 L52 => (some (I52, L52))) 400 (0 : Int32) I L)
set_option maxRecDepth 100000 in
set_option maxHeartbeats 4000000 in
theorem ok_X12_moves {Γ : bf_Gm} {ad : Nat → Nat} {o : Nat} {a0 : Int32} {a1 : Int32} {I : Nat → Nat → Int32} {L : Nat → Nat → Int64} (hk : bf_kd o = 12) {r : bf_St} (hf : f_X12_moves o a0 a1 I L = some r) : bf_Cn Γ 2 mu_X12_moves 0 0 [.ref (ad o), .int a0, .int a1] (bf_S ad I L) (fun q h => q = none ∧ h = bf_S ad r.1 r.2) := by
  refine bf_met rfl (Nat.le_of_ble_eq_true rfl) ?_
  unfold f_X12_moves at hf
  refine bf_iconst (v := 0) dX12_moves_0 (by decide) ?_
  refine bf_istore_n (lv2 := [(3, .int _), (0, .ref _), (1, .int _), (2, .int _)]) dX12_moves_1 rfl (by decide) rfl ?_
  refine bf_perm [1, 2, 3, 0] rfl ?_
  refine ok_X12_moves_2 hk (fun I52 L52 hf => ?_) _ _ _ _  hf
  obtain rfl := Option.some.inj hf
  exact bf_vret dX12_moves_94 rfl (Nat.le_refl _) (Nat.le_refl _) ⟨rfl, rfl⟩
