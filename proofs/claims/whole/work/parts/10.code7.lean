def f_X12_sign (o : Nat) (a0 : Int32) (I : Nat → Nat → Int32) (L : Nat → Nat → Int64) : Option (Int32 × bf_St) :=
  ((f_X12_byteAt o (I o 6) I L).bind (fun r2 => (if r2.1 = a0 then (some ((1 : Int32), (bf_u r2.2.1 o 6 ((r2.2.1 o 6) + (1 : Int32))), r2.2.2)) else (some ((0 : Int32), r2.2.1, r2.2.2)))))
set_option maxRecDepth 100000 in
set_option maxHeartbeats 4000000 in
theorem ok_X12_sign {Γ : bf_Gm} {ad : Nat → Nat} {o : Nat} {a0 : Int32} {I : Nat → Nat → Int32} {L : Nat → Nat → Int64} (hk : bf_kd o = 12) {r : Int32 × bf_St} (hf : f_X12_sign o a0 I L = some r) : bf_Cn Γ 1 mu_X12_sign 0 0 [.ref (ad o), .int a0] (bf_S ad I L) (fun q h => q = some (.int r.1) ∧ h = bf_S ad r.2.1 r.2.2) := by
  refine bf_met rfl (Nat.le_of_ble_eq_true rfl) ?_
  unfold f_X12_sign at hf
  refine bf_aload_n 0 dX12_sign_0 rfl rfl ?_
  refine bf_aload_n 0 dX12_sign_1 rfl rfl ?_
  refine fg_X12_90 dX12_sign_2 rfl hk ?_
  obtain ⟨r2, e1, hf⟩ := bf_bind hf
  have hCe1 := ok_X12_byteAt (Γ := Γ) (ad := ad) hk e1
  refine cv_X12_93 0 dX12_sign_5 rfl ⟨Nat.le_of_ble_eq_true rfl, Nat.le_of_ble_eq_true rfl⟩ (Nat.le_of_ble_eq_true rfl) hk hCe1 ?_
  refine bf_iload_n 1 dX12_sign_8 rfl rfl ?_
  refine bf_icmp_eq 14 dX12_sign_9 (by decide) (fun c3 => ?_) (fun c3 => ?_)
  · have hf := (if_pos c3).symm.trans hf
    refine bf_aload_n 0 dX12_sign_14 rfl rfl ?_
    refine bf_dup dX12_sign_15 rfl ?_
    refine fg_X12_90 dX12_sign_16 rfl hk ?_
    refine bf_iconst (v := 1) dX12_sign_19 (by decide) ?_
    refine bf_iadd dX12_sign_20 ?_
    refine fp_X12_90 dX12_sign_21 rfl hk ?_
    refine bf_iconst (v := 1) dX12_sign_24 (by decide) ?_
    obtain rfl := Option.some.inj hf
    exact bf_zret dX12_sign_25 rfl rfl (Nat.le_refl _) (Nat.le_refl _) ⟨rfl, rfl⟩
  · have hf := (if_neg c3).symm.trans hf
    refine bf_iconst (v := 0) dX12_sign_12 (by decide) ?_
    obtain rfl := Option.some.inj hf
    exact bf_zret dX12_sign_13 rfl rfl (Nat.le_refl _) (Nat.le_refl _) ⟨rfl, rfl⟩
def f_X12_number_4 (v0 : Nat) (v1 : Int32) (K : Int32 → Int32 → (Nat → Nat → Int32) → (Nat → Nat → Int64) → Option (Int32 × bf_St)) : Nat → Int32 → Int32 → (Nat → Nat → Int32) → (Nat → Nat → Int64) → Option (Int32 × bf_St)
  | 0, _, _, _, _ => none
  | n + 1, v2, v3, I, L =>
    (if (3 : Int32) ≤ v2 then (K v2 v3 I L) else ((f_X12_byteAt v0 (I v0 6) I L).bind (fun r3 => ((f_X12_in (r3.1).toInt64 (48 : Int64) (57 : Int64) r3.2.1 r3.2.2).bind (fun r5 => (if r5.1 = 0 then (K v2 v3 r5.2.1 r5.2.2) else ((f_X12_byteAt v0 (r5.2.1 v0 6) r5.2.1 r5.2.2).bind (fun r8 => (f_X12_number_4 v0 v1 K n (v2 + (1 : Int32)) ((((10 : Int32) * v3) + r8.1) - (48 : Int32)) (bf_u r8.2.1 v0 6 ((r8.2.1 v0 6) + (1 : Int32))) r8.2.2)))))))))
set_option maxRecDepth 100000 in
set_option maxHeartbeats 4000000 in
theorem ok_X12_number_4 {Γ : bf_Gm} {ad : Nat → Nat} {v0 : Nat} {v1 : Int32} (hv0 : bf_kd v0 = 12) {r : Int32 × bf_St} {K : Int32 → Int32 → (Nat → Nat → Int32) → (Nat → Nat → Int64) → Option (Int32 × bf_St)} (hK : ∀ (v2 : Int32) (v3 : Int32) (I : Nat → Nat → Int32) (L : Nat → Nat → Int64), K v2 v3 I L = some r → bf_Go Γ (bf_rm 1 0 0) mu_X12_number bf_E0 (bf_Z Γ (fun q h => q = some (.int r.1) ∧ h = bf_S ad r.2.1 r.2.2) 0 0) (0, 0) 63 [(0, .ref (ad v0)), (1, .int v1), (2, .int v2), (3, .int v3)] [] (bf_S ad I L)) : ∀ (n : Nat) (v2 : Int32) (v3 : Int32) (I : Nat → Nat → Int32) (L : Nat → Nat → Int64), f_X12_number_4 v0 v1 K n v2 v3 I L = some r → bf_Go Γ (bf_rm 1 0 0) mu_X12_number bf_E0 (bf_Z Γ (fun q h => q = some (.int r.1) ∧ h = bf_S ad r.2.1 r.2.2) 0 0) (0, 0) 4 [(0, .ref (ad v0)), (1, .int v1), (2, .int v2), (3, .int v3)] [] (bf_S ad I L) := by
  intro n
  induction n with
  | zero => intro v2 v3 I L hf; exact absurd (show none = some r from hf) (by simp)
  | succ n ih =>
    intro v2 v3 I L hf
    rw [f_X12_number_4] at hf
    refine bf_iload_n 2 dX12_number_4 rfl rfl ?_
    refine bf_iconst (v := 3) dX12_number_5 (by decide) ?_
    refine bf_icmp_ge 63 dX12_number_6 (by decide) (fun c1 => ?_) (fun c1 => ?_)
    · have hf := (if_pos c1).symm.trans hf
      exact hK _ _ _ _ hf
    · have hf := (if_neg c1).symm.trans hf
      refine bf_aload_n 0 dX12_number_9 rfl rfl ?_
      refine bf_aload_n 0 dX12_number_10 rfl rfl ?_
      refine fg_X12_90 dX12_number_11 rfl hv0 ?_
      obtain ⟨r3, e2, hf⟩ := bf_bind hf
      have hCe2 := ok_X12_byteAt (Γ := Γ) (ad := ad) hv0 e2
      refine cv_X12_93 0 dX12_number_14 rfl ⟨Nat.le_of_ble_eq_true rfl, Nat.le_of_ble_eq_true rfl⟩ (Nat.le_of_ble_eq_true rfl) hv0 hCe2 ?_
      refine bf_i2l dX12_number_17 ?_
      refine bf_ldc2 dX12_number_18 wk_X12_96 ?_
      refine bf_ldc2 dX12_number_21 wk_X12_98 ?_
      obtain ⟨r5, e4, hf⟩ := bf_bind hf
      have hCe4 := ok_X12_in (Γ := Γ) (ad := ad)  e4
      refine cv_X12_61 0 dX12_number_24 rfl ⟨Nat.le_of_ble_eq_true rfl, Nat.le_of_ble_eq_true rfl⟩ (Nat.le_of_ble_eq_true rfl) hCe4 ?_
      refine bf_if_eq 63 dX12_number_27 (by decide) (fun c6 => ?_) (fun c6 => ?_)
      · have hf := (if_pos c6).symm.trans hf
        exact hK _ _ _ _ hf
      · have hf := (if_neg c6).symm.trans hf
        refine bf_bipush (v := 10) dX12_number_30 (by decide) ?_
        refine bf_iload_n 3 dX12_number_32 rfl rfl ?_
        refine bf_imul dX12_number_33 ?_
        refine bf_aload_n 0 dX12_number_34 rfl rfl ?_
        refine bf_aload_n 0 dX12_number_35 rfl rfl ?_
        refine fg_X12_90 dX12_number_36 rfl hv0 ?_
        obtain ⟨r8, e7, hf⟩ := bf_bind hf
        have hCe7 := ok_X12_byteAt (Γ := Γ) (ad := ad) hv0 e7
        refine cv_X12_93 0 dX12_number_39 rfl ⟨Nat.le_of_ble_eq_true rfl, Nat.le_of_ble_eq_true rfl⟩ (Nat.le_of_ble_eq_true rfl) hv0 hCe7 ?_
        refine bf_iadd dX12_number_42 ?_
        refine bf_bipush (v := 48) dX12_number_43 (by decide) ?_
        refine bf_isub dX12_number_45 ?_
        refine bf_istore_n (lv2 := [(3, .int _), (0, .ref _), (1, .int _), (2, .int _)]) dX12_number_46 rfl (by decide) rfl ?_
        refine bf_aload_n 1 dX12_number_47 rfl rfl ?_
        refine bf_dup dX12_number_48 rfl ?_
        refine fg_X12_90 dX12_number_49 rfl hv0 ?_
        refine bf_iconst (v := 1) dX12_number_52 (by decide) ?_
        refine bf_iadd dX12_number_53 ?_
        refine fp_X12_90 dX12_number_54 rfl hv0 ?_
        refine bf_iinc 3 (v := _ + (1 : Int32)) (lv2 := [(2, .int _), (3, .int _), (0, .ref _), (1, .int _)]) dX12_number_57 rfl (by rfl) (by decide) rfl ?_
        refine bf_goto 4 dX12_number_60 (by decide) ?_
        refine bf_perm [2, 3, 0, 1] rfl ?_
        exact ih _ _ _ _ hf
def f_X12_number_p63 (v0 : Nat) (v1 : Int32) (v2 : Int32) (v3 : Int32) (I : Nat → Nat → Int32) (L : Nat → Nat → Int64) : Option (Int32 × bf_St) :=
  (if bf_ok v1 88 then (if v2 ≤ 0 then (some ((0 : Int32), (bf_u I (v0 + 5) v1.toNatClampNeg v3), L)) else (some ((1 : Int32), (bf_u I (v0 + 5) v1.toNatClampNeg v3), L))) else none)
set_option maxRecDepth 100000 in
set_option maxHeartbeats 4000000 in
theorem ok_X12_number_p63 {Γ : bf_Gm} {ad : Nat → Nat} {v0 : Nat} {v1 : Int32} {v2 : Int32} {v3 : Int32} {I : Nat → Nat → Int32} {L : Nat → Nat → Int64} (hv0 : bf_kd v0 = 12) {r : Int32 × bf_St} (hf : f_X12_number_p63 v0 v1 v2 v3 I L = some r) : bf_Go Γ (bf_rm 1 0 0) mu_X12_number bf_E0 (bf_Z Γ (fun q h => q = some (.int r.1) ∧ h = bf_S ad r.2.1 r.2.2) 0 0) (0, 0) 63 [(0, .ref (ad v0)), (1, .int v1), (2, .int v2), (3, .int v3)] [] (bf_S ad I L) := by
  unfold f_X12_number_p63 at hf
  refine bf_aload_n 0 dX12_number_63 rfl rfl ?_
  refine fg_X12_24 dX12_number_64 rfl hv0 ?_
  refine bf_iload_n 1 dX12_number_67 rfl rfl ?_
  refine bf_iload_n 3 dX12_number_68 rfl rfl ?_
  rcases Decidable.em (bf_ok v1 88) with c10 | c10
  · have hf := (if_pos c10).symm.trans hf
    refine bf_iast dX12_number_69 (kr_12_7 hv0) (by rw [(kl_12_7 hv0)]; exact c10) ?_
    refine bf_iload_n 2 dX12_number_70 rfl rfl ?_
    refine bf_if_le 78 dX12_number_71 (by decide) (fun c11 => ?_) (fun c11 => ?_)
    · have hf := (if_pos c11).symm.trans hf
      refine bf_iconst (v := 0) dX12_number_78 (by decide) ?_
      obtain rfl := Option.some.inj hf
      exact bf_zret dX12_number_79 rfl rfl (Nat.le_refl _) (Nat.le_refl _) ⟨rfl, rfl⟩
    · have hf := (if_neg c11).symm.trans hf
      refine bf_iconst (v := 1) dX12_number_74 (by decide) ?_
      refine bf_goto 79 dX12_number_75 (by decide) ?_
      obtain rfl := Option.some.inj hf
      exact bf_zret dX12_number_79 rfl rfl (Nat.le_refl _) (Nat.le_refl _) ⟨rfl, rfl⟩
  · exact absurd ((if_neg c10).symm.trans hf) (by simp)
def f_X12_number (o : Nat) (a0 : Int32) (I : Nat → Nat → Int32) (L : Nat → Nat → Int64) : Option (Int32 × bf_St) :=
  (f_X12_number_4 o a0 (fun k2_9 k3_9 I9 L9 => (f_X12_number_p63 o a0 k2_9 k3_9 I9 L9)) 400 (0 : Int32) (0 : Int32) I L)
set_option maxRecDepth 100000 in
set_option maxHeartbeats 4000000 in
theorem ok_X12_number {Γ : bf_Gm} {ad : Nat → Nat} {o : Nat} {a0 : Int32} {I : Nat → Nat → Int32} {L : Nat → Nat → Int64} (hk : bf_kd o = 12) {r : Int32 × bf_St} (hf : f_X12_number o a0 I L = some r) : bf_Cn Γ 1 mu_X12_number 0 0 [.ref (ad o), .int a0] (bf_S ad I L) (fun q h => q = some (.int r.1) ∧ h = bf_S ad r.2.1 r.2.2) := by
  refine bf_met rfl (Nat.le_of_ble_eq_true rfl) ?_
  unfold f_X12_number at hf
  refine bf_iconst (v := 0) dX12_number_0 (by decide) ?_
  refine bf_istore_n (lv2 := [(2, .int _), (0, .ref _), (1, .int _)]) dX12_number_1 rfl (by decide) rfl ?_
  refine bf_iconst (v := 0) dX12_number_2 (by decide) ?_
  refine bf_istore_n (lv2 := [(3, .int _), (2, .int _), (0, .ref _), (1, .int _)]) dX12_number_3 rfl (by decide) rfl ?_
  refine bf_perm [2, 3, 1, 0] rfl ?_
  refine ok_X12_number_4 hk (fun k2_9 k3_9 I9 L9 hf => ?_) _ _ _ _ _  hf
  exact ok_X12_number_p63 hk  hf
def f_X12_isClause_117 (v0 : Nat) (v1 : Int32) (K : (Nat → Nat → Int32) → (Nat → Nat → Int64) → Option (Int32 × bf_St)) : Nat → (Nat → Nat → Int32) → (Nat → Nat → Int64) → Option (Int32 × bf_St)
  | 0, _, _ => none
  | n + 1, I, L =>
    (if bf_ok (v1 + (4 : Int32)) 88 then ((f_X12_number v0 ((v1 + (5 : Int32)) + ((bf_u I v0 6 ((I v0 6) + (1 : Int32))) (v0 + 5) (v1 + (4 : Int32)).toNatClampNeg)) (bf_u I v0 6 ((I v0 6) + (1 : Int32))) L).bind (fun r12 => (if r12.1 = 0 then (some ((0 : Int32), r12.2.1, r12.2.2)) else (if bf_ok (v1 + (4 : Int32)) 88 then (if bf_ok (v1 + (4 : Int32)) 88 then (if bf_ok (v1 + (4 : Int32)) 88 then (if (6 : Int32) ≤ ((bf_u r12.2.1 (v0 + 5) (v1 + (4 : Int32)).toNatClampNeg ((r12.2.1 (v0 + 5) (v1 + (4 : Int32)).toNatClampNeg) + (1 : Int32))) (v0 + 5) (v1 + (4 : Int32)).toNatClampNeg) then (K (bf_u r12.2.1 (v0 + 5) (v1 + (4 : Int32)).toNatClampNeg ((r12.2.1 (v0 + 5) (v1 + (4 : Int32)).toNatClampNeg) + (1 : Int32))) r12.2.2) else ((f_X12_byteAt v0 ((bf_u r12.2.1 (v0 + 5) (v1 + (4 : Int32)).toNatClampNeg ((r12.2.1 (v0 + 5) (v1 + (4 : Int32)).toNatClampNeg) + (1 : Int32))) v0 6) (bf_u r12.2.1 (v0 + 5) (v1 + (4 : Int32)).toNatClampNeg ((r12.2.1 (v0 + 5) (v1 + (4 : Int32)).toNatClampNeg) + (1 : Int32))) r12.2.2).bind (fun r19 => (if r19.1 = (44 : Int32) then (f_X12_isClause_117 v0 v1 K n r19.2.1 r19.2.2) else (K r19.2.1 r19.2.2))))) else none) else none) else none)))) else none)
set_option maxRecDepth 100000 in
set_option maxHeartbeats 4000000 in
theorem ok_X12_isClause_117 {Γ : bf_Gm} {ad : Nat → Nat} {v0 : Nat} {v1 : Int32} (hv0 : bf_kd v0 = 12) {r : Int32 × bf_St} {K : (Nat → Nat → Int32) → (Nat → Nat → Int64) → Option (Int32 × bf_St)} (hK : ∀ (I : Nat → Nat → Int32) (L : Nat → Nat → Int64), K  I L = some r → bf_Go Γ (bf_rm 2 0 0) mu_X12_isClause bf_E0 (bf_Z Γ (fun q h => q = some (.int r.1) ∧ h = bf_S ad r.2.1 r.2.2) 0 0) (0, 0) 186 [] [] (bf_S ad I L)) : ∀ (n : Nat) (I : Nat → Nat → Int32) (L : Nat → Nat → Int64), f_X12_isClause_117 v0 v1 K n  I L = some r → bf_Go Γ (bf_rm 2 0 0) mu_X12_isClause bf_E0 (bf_Z Γ (fun q h => q = some (.int r.1) ∧ h = bf_S ad r.2.1 r.2.2) 0 0) (0, 0) 117 [(0, .ref (ad v0)), (1, .int v1)] [] (bf_S ad I L) := by
  intro n
  induction n with
  | zero => intro I L hf; exact absurd (show none = some r from hf) (by simp)
  | succ n ih =>
    intro I L hf
    rw [f_X12_isClause_117] at hf
    refine bf_aload_n 0 dX12_isClause_117 rfl rfl ?_
    refine bf_dup dX12_isClause_118 rfl ?_
    refine fg_X12_90 dX12_isClause_119 rfl hv0 ?_
    refine bf_iconst (v := 1) dX12_isClause_122 (by decide) ?_
    refine bf_iadd dX12_isClause_123 ?_
    refine fp_X12_90 dX12_isClause_124 rfl hv0 ?_
    refine bf_aload_n 0 dX12_isClause_127 rfl rfl ?_
    refine bf_iload_n 1 dX12_isClause_128 rfl rfl ?_
    refine bf_iconst (v := 5) dX12_isClause_129 (by decide) ?_
    refine bf_iadd dX12_isClause_130 ?_
    refine bf_aload_n 0 dX12_isClause_131 rfl rfl ?_
    refine fg_X12_24 dX12_isClause_132 rfl hv0 ?_
    refine bf_iload_n 1 dX12_isClause_135 rfl rfl ?_
    refine bf_iconst (v := 4) dX12_isClause_136 (by decide) ?_
    refine bf_iadd dX12_isClause_137 ?_
    rcases Decidable.em (bf_ok (v1 + (4 : Int32)) 88) with c10 | c10
    · have hf := (if_pos c10).symm.trans hf
      refine bf_iald dX12_isClause_138 (kr_12_7 hv0) (by rw [(kl_12_7 hv0)]; exact c10) ?_
      refine bf_iadd dX12_isClause_139 ?_
      obtain ⟨r12, e11, hf⟩ := bf_bind hf
      have hCe11 := ok_X12_number (Γ := Γ) (ad := ad) hv0 e11
      refine cv_X12_110 1 dX12_isClause_140 rfl ⟨Nat.le_of_ble_eq_true rfl, Nat.le_of_ble_eq_true rfl⟩ (Nat.le_of_ble_eq_true rfl) hv0 hCe11 ?_
      refine bf_if_ne 148 dX12_isClause_143 (by decide) (fun c13 => ?_) (fun c13 => ?_)
      · have hf := (if_neg c13).symm.trans hf
        refine bf_aload_n 0 dX12_isClause_148 rfl rfl ?_
        refine fg_X12_24 dX12_isClause_149 rfl hv0 ?_
        refine bf_iload_n 1 dX12_isClause_152 rfl rfl ?_
        refine bf_iconst (v := 4) dX12_isClause_153 (by decide) ?_
        refine bf_iadd dX12_isClause_154 ?_
        refine bf_dup2 dX12_isClause_155 rfl rfl ?_
        rcases Decidable.em (bf_ok (v1 + (4 : Int32)) 88) with c14 | c14
        · have hf := (if_pos c14).symm.trans hf
          refine bf_iald dX12_isClause_156 (kr_12_7 hv0) (by rw [(kl_12_7 hv0)]; exact c14) ?_
          refine bf_iconst (v := 1) dX12_isClause_157 (by decide) ?_
          refine bf_iadd dX12_isClause_158 ?_
          rcases Decidable.em (bf_ok (v1 + (4 : Int32)) 88) with c15 | c15
          · have hf := (if_pos c15).symm.trans hf
            refine bf_iast dX12_isClause_159 (kr_12_7 hv0) (by rw [(kl_12_7 hv0)]; exact c15) ?_
            refine bf_aload_n 0 dX12_isClause_160 rfl rfl ?_
            refine fg_X12_24 dX12_isClause_161 rfl hv0 ?_
            refine bf_iload_n 1 dX12_isClause_164 rfl rfl ?_
            refine bf_iconst (v := 4) dX12_isClause_165 (by decide) ?_
            refine bf_iadd dX12_isClause_166 ?_
            rcases Decidable.em (bf_ok (v1 + (4 : Int32)) 88) with c16 | c16
            · have hf := (if_pos c16).symm.trans hf
              refine bf_iald dX12_isClause_167 (kr_12_7 hv0) (by rw [(kl_12_7 hv0)]; exact c16) ?_
              refine bf_bipush (v := 6) dX12_isClause_168 (by decide) ?_
              refine bf_icmp_ge 186 dX12_isClause_170 (by decide) (fun c17 => ?_) (fun c17 => ?_)
              · have hf := (if_pos c17).symm.trans hf
                refine bf_perm [] rfl ?_
                exact hK _ _ hf
              · have hf := (if_neg c17).symm.trans hf
                refine bf_aload_n 0 dX12_isClause_173 rfl rfl ?_
                refine bf_aload_n 0 dX12_isClause_174 rfl rfl ?_
                refine fg_X12_90 dX12_isClause_175 rfl hv0 ?_
                obtain ⟨r19, e18, hf⟩ := bf_bind hf
                have hCe18 := ok_X12_byteAt (Γ := Γ) (ad := ad) hv0 e18
                refine cv_X12_93 0 dX12_isClause_178 rfl ⟨Nat.le_of_ble_eq_true rfl, Nat.le_of_ble_eq_true rfl⟩ (Nat.le_of_ble_eq_true rfl) hv0 hCe18 ?_
                refine bf_bipush (v := 44) dX12_isClause_181 (by decide) ?_
                refine bf_icmp_eq 117 dX12_isClause_183 (by decide) (fun c20 => ?_) (fun c20 => ?_)
                · have hf := (if_pos c20).symm.trans hf
                  exact ih _ _ hf
                · have hf := (if_neg c20).symm.trans hf
                  refine bf_perm [] rfl ?_
                  exact hK _ _ hf
            · exact absurd ((if_neg c16).symm.trans hf) (by simp)
          · exact absurd ((if_neg c15).symm.trans hf) (by simp)
        · exact absurd ((if_neg c14).symm.trans hf) (by simp)
      · have hf := (if_pos c13).symm.trans hf
        refine bf_iconst (v := 0) dX12_isClause_146 (by decide) ?_
        obtain rfl := Option.some.inj hf
        exact bf_zret dX12_isClause_147 rfl rfl (Nat.le_refl _) (Nat.le_refl _) ⟨rfl, rfl⟩
    · exact absurd ((if_neg c10).symm.trans hf) (by simp)
def f_X12_isClause_p97 (v0 : Nat) (v1 : Int32) (s0 : Int32) (I : Nat → Nat → Int32) (L : Nat → Nat → Int64) : Option (Int32 × bf_St) :=
  (if s0 = 0 then (if s0 = 0 ∨ s0 = 1 then some (s0, I, L) else none) else ((f_X12_byteAt v0 (I v0 6) I L).bind (fun r8 => (if r8.1 = (43 : Int32) then (f_X12_isClause_117 v0 v1 (fun I21 L21 => (some ((1 : Int32), I21, L21))) 400 r8.2.1 r8.2.2) else (if s0 = 0 ∨ s0 = 1 then some (s0, r8.2.1, r8.2.2) else none)))))
set_option maxRecDepth 100000 in
set_option maxHeartbeats 4000000 in
theorem ok_X12_isClause_p97 {Γ : bf_Gm} {ad : Nat → Nat} {v0 : Nat} {v1 : Int32} {s0 : Int32} {I : Nat → Nat → Int32} {L : Nat → Nat → Int64} (hv0 : bf_kd v0 = 12) {r : Int32 × bf_St} (hf : f_X12_isClause_p97 v0 v1 s0 I L = some r) : bf_Go Γ (bf_rm 2 0 0) mu_X12_isClause bf_E0 (bf_Z Γ (fun q h => q = some (.int r.1) ∧ h = bf_S ad r.2.1 r.2.2) 0 0) (0, 0) 97 [(0, .ref (ad v0)), (1, .int v1)] [.int s0] (bf_S ad I L) := by
  unfold f_X12_isClause_p97 at hf
  refine bf_istore_n (lv2 := [(2, .int _), (0, .ref _), (1, .int _)]) dX12_isClause_97 rfl (by decide) rfl ?_
  refine bf_iload_n 0 dX12_isClause_98 rfl rfl ?_
  refine bf_if_eq 115 dX12_isClause_99 (by decide) (fun c5 => ?_) (fun c5 => ?_)
  · have hf := (if_pos c5).symm.trans hf
    refine bf_iload_n 0 dX12_isClause_115 rfl rfl ?_
    rcases Decidable.em (s0 = 0 ∨ s0 = 1) with c6 | c6
    · have hf := (if_pos c6).symm.trans hf
      obtain rfl := Option.some.inj hf
      exact bf_zret dX12_isClause_116 rfl (by rcases c6 with q | q <;> rw [q] <;> rfl) (Nat.le_refl _) (Nat.le_refl _) ⟨rfl, rfl⟩
    · exact absurd ((if_neg c6).symm.trans hf) (by simp)
  · have hf := (if_neg c5).symm.trans hf
    refine bf_aload_n 1 dX12_isClause_102 rfl rfl ?_
    refine bf_aload_n 1 dX12_isClause_103 rfl rfl ?_
    refine fg_X12_90 dX12_isClause_104 rfl hv0 ?_
    obtain ⟨r8, e7, hf⟩ := bf_bind hf
    have hCe7 := ok_X12_byteAt (Γ := Γ) (ad := ad) hv0 e7
    refine cv_X12_93 0 dX12_isClause_107 rfl ⟨Nat.le_of_ble_eq_true rfl, Nat.le_of_ble_eq_true rfl⟩ (Nat.le_of_ble_eq_true rfl) hv0 hCe7 ?_
    refine bf_bipush (v := 43) dX12_isClause_110 (by decide) ?_
    refine bf_icmp_eq 117 dX12_isClause_112 (by decide) (fun c9 => ?_) (fun c9 => ?_)
    · have hf := (if_pos c9).symm.trans hf
      refine bf_perm [1, 2] rfl ?_
      refine ok_X12_isClause_117 hv0 (fun I21 L21 hf => ?_) _ _ _  hf
      refine bf_iconst (v := 1) dX12_isClause_186 (by decide) ?_
      obtain rfl := Option.some.inj hf
      exact bf_zret dX12_isClause_187 rfl rfl (Nat.le_refl _) (Nat.le_refl _) ⟨rfl, rfl⟩
    · have hf := (if_neg c9).symm.trans hf
      refine bf_iload_n 0 dX12_isClause_115 rfl rfl ?_
      rcases Decidable.em (s0 = 0 ∨ s0 = 1) with c22 | c22
      · have hf := (if_pos c22).symm.trans hf
        obtain rfl := Option.some.inj hf
        exact bf_zret dX12_isClause_116 rfl (by rcases c22 with q | q <;> rw [q] <;> rfl) (Nat.le_refl _) (Nat.le_refl _) ⟨rfl, rfl⟩
      · exact absurd ((if_neg c22).symm.trans hf) (by simp)
def f_X12_isClause_p96 (v0 : Nat) (v1 : Int32) (I : Nat → Nat → Int32) (L : Nat → Nat → Int64) : Option (Int32 × bf_St) :=
  (f_X12_isClause_p97 v0 v1 (0 : Int32) I L)
set_option maxRecDepth 100000 in
set_option maxHeartbeats 4000000 in
theorem ok_X12_isClause_p96 {Γ : bf_Gm} {ad : Nat → Nat} {v0 : Nat} {v1 : Int32} {I : Nat → Nat → Int32} {L : Nat → Nat → Int64} (hv0 : bf_kd v0 = 12) {r : Int32 × bf_St} (hf : f_X12_isClause_p96 v0 v1 I L = some r) : bf_Go Γ (bf_rm 2 0 0) mu_X12_isClause bf_E0 (bf_Z Γ (fun q h => q = some (.int r.1) ∧ h = bf_S ad r.2.1 r.2.2) 0 0) (0, 0) 96 [(0, .ref (ad v0)), (1, .int v1)] [] (bf_S ad I L) := by
  unfold f_X12_isClause_p96 at hf
  refine bf_iconst (v := 0) dX12_isClause_96 (by decide) ?_
  exact ok_X12_isClause_p97 hv0  hf
def f_X12_isClause (o : Nat) (I : Nat → Nat → Int32) (L : Nat → Nat → Int64) : Option (Int32 × bf_St) :=
  (if bf_ok (((11 : Int32) * (I o 8)) + (4 : Int32)) 88 then ((f_X12_digit o ((11 : Int32) * (I o 8)) (0 : Int32) (9 : Int32) (bf_u I (o + 5) (((11 : Int32) * (I o 8)) + (4 : Int32)).toNatClampNeg (0 : Int32)) L).bind (fun r3 => (if r3.1 = 0 then (f_X12_isClause_p96 o ((11 : Int32) * (I o 8)) r3.2.1 r3.2.2) else ((f_X12_sign o (58 : Int32) r3.2.1 r3.2.2).bind (fun r24 => (if r24.1 = 0 then (f_X12_isClause_p96 o ((11 : Int32) * (I o 8)) r24.2.1 r24.2.2) else ((f_X12_digit o (((11 : Int32) * (I o 8)) + (2 : Int32)) (1 : Int32) (4 : Int32) r24.2.1 r24.2.2).bind (fun r27 => (if r27.1 = 0 then (f_X12_isClause_p96 o ((11 : Int32) * (I o 8)) r27.2.1 r27.2.2) else ((f_X12_sign o (62 : Int32) r27.2.1 r27.2.2).bind (fun r30 => (if r30.1 = 0 then (f_X12_isClause_p96 o ((11 : Int32) * (I o 8)) r30.2.1 r30.2.2) else ((f_X12_digit o (((11 : Int32) * (I o 8)) + (1 : Int32)) (0 : Int32) (9 : Int32) r30.2.1 r30.2.2).bind (fun r33 => (if r33.1 = 0 then (f_X12_isClause_p96 o ((11 : Int32) * (I o 8)) r33.2.1 r33.2.2) else ((f_X12_sign o (58 : Int32) r33.2.1 r33.2.2).bind (fun r36 => (if r36.1 = 0 then (f_X12_isClause_p96 o ((11 : Int32) * (I o 8)) r36.2.1 r36.2.2) else ((f_X12_digit o (((11 : Int32) * (I o 8)) + (3 : Int32)) (1 : Int32) (4 : Int32) r36.2.1 r36.2.2).bind (fun r39 => (if r39.1 = 0 then (f_X12_isClause_p96 o ((11 : Int32) * (I o 8)) r39.2.1 r39.2.2) else (f_X12_isClause_p97 o ((11 : Int32) * (I o 8)) (1 : Int32) r39.2.1 r39.2.2)))))))))))))))))))))) else none)
set_option maxRecDepth 100000 in
set_option maxHeartbeats 4000000 in
theorem ok_X12_isClause {Γ : bf_Gm} {ad : Nat → Nat} {o : Nat} {I : Nat → Nat → Int32} {L : Nat → Nat → Int64} (hk : bf_kd o = 12) {r : Int32 × bf_St} (hf : f_X12_isClause o I L = some r) : bf_Cn Γ 2 mu_X12_isClause 0 0 [.ref (ad o)] (bf_S ad I L) (fun q h => q = some (.int r.1) ∧ h = bf_S ad r.2.1 r.2.2) := by
  refine bf_met rfl (Nat.le_of_ble_eq_true rfl) ?_
  unfold f_X12_isClause at hf
  refine bf_bipush (v := 11) dX12_isClause_0 (by decide) ?_
  refine bf_aload_n 0 dX12_isClause_2 rfl rfl ?_
  refine fg_X12_100 dX12_isClause_3 rfl hk ?_
  refine bf_imul dX12_isClause_6 ?_
  refine bf_istore_n (lv2 := [(1, .int _), (0, .ref _)]) dX12_isClause_7 rfl (by decide) rfl ?_
  refine bf_aload_n 1 dX12_isClause_8 rfl rfl ?_
  refine fg_X12_24 dX12_isClause_9 rfl hk ?_
  refine bf_iload_n 0 dX12_isClause_12 rfl rfl ?_
  refine bf_iconst (v := 4) dX12_isClause_13 (by decide) ?_
  refine bf_iadd dX12_isClause_14 ?_
  refine bf_iconst (v := 0) dX12_isClause_15 (by decide) ?_
  rcases Decidable.em (bf_ok (((11 : Int32) * (I o 8)) + (4 : Int32)) 88) with c1 | c1
  · have hf := (if_pos c1).symm.trans hf
    refine bf_iast dX12_isClause_16 (kr_12_7 hk) (by rw [(kl_12_7 hk)]; exact c1) ?_
    refine bf_aload_n 1 dX12_isClause_17 rfl rfl ?_
    refine bf_iload_n 0 dX12_isClause_18 rfl rfl ?_
    refine bf_iconst (v := 0) dX12_isClause_19 (by decide) ?_
    refine bf_bipush (v := 9) dX12_isClause_20 (by decide) ?_
    obtain ⟨r3, e2, hf⟩ := bf_bind hf
    have hCe2 := ok_X12_digit (Γ := Γ) (ad := ad) hk e2
    refine cv_X12_103 1 dX12_isClause_22 rfl ⟨Nat.le_of_ble_eq_true rfl, Nat.le_of_ble_eq_true rfl⟩ (Nat.le_of_ble_eq_true rfl) hk hCe2 ?_
    refine bf_if_eq 96 dX12_isClause_25 (by decide) (fun c4 => ?_) (fun c4 => ?_)
    · have hf := (if_pos c4).symm.trans hf
      refine bf_perm [1, 0] rfl ?_
      exact ok_X12_isClause_p96 hk  hf
    · have hf := (if_neg c4).symm.trans hf
      refine bf_aload_n 1 dX12_isClause_28 rfl rfl ?_
      refine bf_bipush (v := 58) dX12_isClause_29 (by decide) ?_
      obtain ⟨r24, e23, hf⟩ := bf_bind hf
      have hCe23 := ok_X12_sign (Γ := Γ) (ad := ad) hk e23
      refine cv_X12_107 1 dX12_isClause_31 rfl ⟨Nat.le_of_ble_eq_true rfl, Nat.le_of_ble_eq_true rfl⟩ (Nat.le_of_ble_eq_true rfl) hk hCe23 ?_
      refine bf_if_eq 96 dX12_isClause_34 (by decide) (fun c25 => ?_) (fun c25 => ?_)
      · have hf := (if_pos c25).symm.trans hf
        refine bf_perm [1, 0] rfl ?_
        exact ok_X12_isClause_p96 hk  hf
      · have hf := (if_neg c25).symm.trans hf
        refine bf_aload_n 1 dX12_isClause_37 rfl rfl ?_
        refine bf_iload_n 0 dX12_isClause_38 rfl rfl ?_
        refine bf_iconst (v := 2) dX12_isClause_39 (by decide) ?_
        refine bf_iadd dX12_isClause_40 ?_
        refine bf_iconst (v := 1) dX12_isClause_41 (by decide) ?_
        refine bf_iconst (v := 4) dX12_isClause_42 (by decide) ?_
        obtain ⟨r27, e26, hf⟩ := bf_bind hf
        have hCe26 := ok_X12_digit (Γ := Γ) (ad := ad) hk e26
        refine cv_X12_103 1 dX12_isClause_43 rfl ⟨Nat.le_of_ble_eq_true rfl, Nat.le_of_ble_eq_true rfl⟩ (Nat.le_of_ble_eq_true rfl) hk hCe26 ?_
        refine bf_if_eq 96 dX12_isClause_46 (by decide) (fun c28 => ?_) (fun c28 => ?_)
        · have hf := (if_pos c28).symm.trans hf
          refine bf_perm [1, 0] rfl ?_
          exact ok_X12_isClause_p96 hk  hf
        · have hf := (if_neg c28).symm.trans hf
          refine bf_aload_n 1 dX12_isClause_49 rfl rfl ?_
          refine bf_bipush (v := 62) dX12_isClause_50 (by decide) ?_
          obtain ⟨r30, e29, hf⟩ := bf_bind hf
          have hCe29 := ok_X12_sign (Γ := Γ) (ad := ad) hk e29
          refine cv_X12_107 1 dX12_isClause_52 rfl ⟨Nat.le_of_ble_eq_true rfl, Nat.le_of_ble_eq_true rfl⟩ (Nat.le_of_ble_eq_true rfl) hk hCe29 ?_
          refine bf_if_eq 96 dX12_isClause_55 (by decide) (fun c31 => ?_) (fun c31 => ?_)
          · have hf := (if_pos c31).symm.trans hf
            refine bf_perm [1, 0] rfl ?_
            exact ok_X12_isClause_p96 hk  hf
          · have hf := (if_neg c31).symm.trans hf
            refine bf_aload_n 1 dX12_isClause_58 rfl rfl ?_
            refine bf_iload_n 0 dX12_isClause_59 rfl rfl ?_
            refine bf_iconst (v := 1) dX12_isClause_60 (by decide) ?_
            refine bf_iadd dX12_isClause_61 ?_
            refine bf_iconst (v := 0) dX12_isClause_62 (by decide) ?_
            refine bf_bipush (v := 9) dX12_isClause_63 (by decide) ?_
            obtain ⟨r33, e32, hf⟩ := bf_bind hf
            have hCe32 := ok_X12_digit (Γ := Γ) (ad := ad) hk e32
            refine cv_X12_103 1 dX12_isClause_65 rfl ⟨Nat.le_of_ble_eq_true rfl, Nat.le_of_ble_eq_true rfl⟩ (Nat.le_of_ble_eq_true rfl) hk hCe32 ?_
            refine bf_if_eq 96 dX12_isClause_68 (by decide) (fun c34 => ?_) (fun c34 => ?_)
            · have hf := (if_pos c34).symm.trans hf
              refine bf_perm [1, 0] rfl ?_
              exact ok_X12_isClause_p96 hk  hf
            · have hf := (if_neg c34).symm.trans hf
              refine bf_aload_n 1 dX12_isClause_71 rfl rfl ?_
              refine bf_bipush (v := 58) dX12_isClause_72 (by decide) ?_
              obtain ⟨r36, e35, hf⟩ := bf_bind hf
              have hCe35 := ok_X12_sign (Γ := Γ) (ad := ad) hk e35
              refine cv_X12_107 1 dX12_isClause_74 rfl ⟨Nat.le_of_ble_eq_true rfl, Nat.le_of_ble_eq_true rfl⟩ (Nat.le_of_ble_eq_true rfl) hk hCe35 ?_
              refine bf_if_eq 96 dX12_isClause_77 (by decide) (fun c37 => ?_) (fun c37 => ?_)
              · have hf := (if_pos c37).symm.trans hf
                refine bf_perm [1, 0] rfl ?_
                exact ok_X12_isClause_p96 hk  hf
              · have hf := (if_neg c37).symm.trans hf
                refine bf_aload_n 1 dX12_isClause_80 rfl rfl ?_
                refine bf_iload_n 0 dX12_isClause_81 rfl rfl ?_
                refine bf_iconst (v := 3) dX12_isClause_82 (by decide) ?_
                refine bf_iadd dX12_isClause_83 ?_
                refine bf_iconst (v := 1) dX12_isClause_84 (by decide) ?_
                refine bf_iconst (v := 4) dX12_isClause_85 (by decide) ?_
                obtain ⟨r39, e38, hf⟩ := bf_bind hf
                have hCe38 := ok_X12_digit (Γ := Γ) (ad := ad) hk e38
                refine cv_X12_103 1 dX12_isClause_86 rfl ⟨Nat.le_of_ble_eq_true rfl, Nat.le_of_ble_eq_true rfl⟩ (Nat.le_of_ble_eq_true rfl) hk hCe38 ?_
                refine bf_if_eq 96 dX12_isClause_89 (by decide) (fun c40 => ?_) (fun c40 => ?_)
                · have hf := (if_pos c40).symm.trans hf
                  refine bf_perm [1, 0] rfl ?_
                  exact ok_X12_isClause_p96 hk  hf
                · have hf := (if_neg c40).symm.trans hf
                  refine bf_iconst (v := 1) dX12_isClause_92 (by decide) ?_
                  refine bf_goto 97 dX12_isClause_93 (by decide) ?_
                  refine bf_perm [1, 0] rfl ?_
                  exact ok_X12_isClause_p97 hk  hf
  · exact absurd ((if_neg c1).symm.trans hf) (by simp)
def f_X12_graph_12 (v0 : Nat) (K : Int32 → (Nat → Nat → Int32) → (Nat → Nat → Int64) → Option (Int32 × bf_St)) : Nat → Int32 → (Nat → Nat → Int32) → (Nat → Nat → Int64) → Option (Int32 × bf_St)
  | 0, _, _, _ => none
  | n + 1, v1, I, L =>
    (if v1 = 0 then (K v1 I L) else (if (I v0 8) = 0 then ((f_X12_isClause v0 I L).bind (fun r4 => (if r4.1 = 0 then (f_X12_graph_12 v0 K n r4.1 (bf_u r4.2.1 v0 8 ((r4.2.1 v0 8) + (0 : Int32))) r4.2.2) else (f_X12_graph_12 v0 K n r4.1 (bf_u r4.2.1 v0 8 ((r4.2.1 v0 8) + (1 : Int32))) r4.2.2)))) else (if (8 : Int32) ≤ (I v0 8) then (K v1 I L) else ((f_X12_sign v0 (59 : Int32) I L).bind (fun r8 => (if r8.1 = 0 then (K v1 r8.2.1 r8.2.2) else ((f_X12_isClause v0 r8.2.1 r8.2.2).bind (fun r11 => (if r11.1 = 0 then (f_X12_graph_12 v0 K n r11.1 (bf_u r11.2.1 v0 8 ((r11.2.1 v0 8) + (0 : Int32))) r11.2.2) else (f_X12_graph_12 v0 K n r11.1 (bf_u r11.2.1 v0 8 ((r11.2.1 v0 8) + (1 : Int32))) r11.2.2))))))))))
set_option maxRecDepth 100000 in
set_option maxHeartbeats 4000000 in
theorem ok_X12_graph_12 {Γ : bf_Gm} {ad : Nat → Nat} {v0 : Nat} (hv0 : bf_kd v0 = 12) {r : Int32 × bf_St} {K : Int32 → (Nat → Nat → Int32) → (Nat → Nat → Int64) → Option (Int32 × bf_St)} (hK : ∀ (v1 : Int32) (I : Nat → Nat → Int32) (L : Nat → Nat → Int64), K v1 I L = some r → bf_Go Γ (bf_rm 3 0 0) mu_X12_graph bf_E0 (bf_Z Γ (fun q h => q = some (.int r.1) ∧ h = bf_S ad r.2.1 r.2.2) 0 0) (0, 0) 67 [(0, .ref (ad v0)), (1, .int v1)] [] (bf_S ad I L)) : ∀ (n : Nat) (v1 : Int32) (I : Nat → Nat → Int32) (L : Nat → Nat → Int64), f_X12_graph_12 v0 K n v1 I L = some r → bf_Go Γ (bf_rm 3 0 0) mu_X12_graph bf_E0 (bf_Z Γ (fun q h => q = some (.int r.1) ∧ h = bf_S ad r.2.1 r.2.2) 0 0) (0, 0) 12 [(0, .ref (ad v0)), (1, .int v1)] [] (bf_S ad I L) := by
  intro n
  induction n with
  | zero => intro v1 I L hf; exact absurd (show none = some r from hf) (by simp)
  | succ n ih =>
    intro v1 I L hf
    rw [f_X12_graph_12] at hf
    refine bf_iload_n 1 dX12_graph_12 rfl rfl ?_
    refine bf_if_eq 67 dX12_graph_13 (by decide) (fun c1 => ?_) (fun c1 => ?_)
    · have hf := (if_pos c1).symm.trans hf
      exact hK _ _ _ hf
    · have hf := (if_neg c1).symm.trans hf
      refine bf_aload_n 0 dX12_graph_16 rfl rfl ?_
      refine fg_X12_100 dX12_graph_17 rfl hv0 ?_
      refine bf_if_eq 41 dX12_graph_20 (by decide) (fun c2 => ?_) (fun c2 => ?_)
      · have hf := (if_pos c2).symm.trans hf
        refine bf_aload_n 0 dX12_graph_41 rfl rfl ?_
        obtain ⟨r4, e3, hf⟩ := bf_bind hf
        have hCe3 := ok_X12_isClause (Γ := Γ) (ad := ad) hv0 e3
        refine cv_X12_113 2 dX12_graph_42 rfl ⟨Nat.le_of_ble_eq_true rfl, Nat.le_of_ble_eq_true rfl⟩ (Nat.le_of_ble_eq_true rfl) hv0 hCe3 ?_
        refine bf_istore_n (lv2 := [(1, .int _), (0, .ref _)]) dX12_graph_45 rfl (by decide) rfl ?_
        refine bf_aload_n 1 dX12_graph_46 rfl rfl ?_
        refine bf_dup dX12_graph_47 rfl ?_
        refine fg_X12_100 dX12_graph_48 rfl hv0 ?_
        refine bf_iload_n 0 dX12_graph_51 rfl rfl ?_
        refine bf_if_eq 59 dX12_graph_52 (by decide) (fun c5 => ?_) (fun c5 => ?_)
        · have hf := (if_pos c5).symm.trans hf
          refine bf_iconst (v := 0) dX12_graph_59 (by decide) ?_
          refine bf_iadd dX12_graph_60 ?_
          refine fp_X12_100 dX12_graph_61 rfl hv0 ?_
          refine bf_goto 12 dX12_graph_64 (by decide) ?_
          refine bf_perm [1, 0] rfl ?_
          exact ih _ _ _ hf
        · have hf := (if_neg c5).symm.trans hf
          refine bf_iconst (v := 1) dX12_graph_55 (by decide) ?_
          refine bf_goto 60 dX12_graph_56 (by decide) ?_
          refine bf_iadd dX12_graph_60 ?_
          refine fp_X12_100 dX12_graph_61 rfl hv0 ?_
          refine bf_goto 12 dX12_graph_64 (by decide) ?_
          refine bf_perm [1, 0] rfl ?_
          exact ih _ _ _ hf
      · have hf := (if_neg c2).symm.trans hf
        refine bf_aload_n 0 dX12_graph_23 rfl rfl ?_
        refine fg_X12_100 dX12_graph_24 rfl hv0 ?_
        refine bf_bipush (v := 8) dX12_graph_27 (by decide) ?_
        refine bf_icmp_ge 67 dX12_graph_29 (by decide) (fun c6 => ?_) (fun c6 => ?_)
        · have hf := (if_pos c6).symm.trans hf
          exact hK _ _ _ hf
        · have hf := (if_neg c6).symm.trans hf
          refine bf_aload_n 0 dX12_graph_32 rfl rfl ?_
          refine bf_bipush (v := 59) dX12_graph_33 (by decide) ?_
          obtain ⟨r8, e7, hf⟩ := bf_bind hf
          have hCe7 := ok_X12_sign (Γ := Γ) (ad := ad) hv0 e7
          refine cv_X12_107 1 dX12_graph_35 rfl ⟨Nat.le_of_ble_eq_true rfl, Nat.le_of_ble_eq_true rfl⟩ (Nat.le_of_ble_eq_true rfl) hv0 hCe7 ?_
          refine bf_if_eq 67 dX12_graph_38 (by decide) (fun c9 => ?_) (fun c9 => ?_)
          · have hf := (if_pos c9).symm.trans hf
            exact hK _ _ _ hf
          · have hf := (if_neg c9).symm.trans hf
            refine bf_aload_n 0 dX12_graph_41 rfl rfl ?_
            obtain ⟨r11, e10, hf⟩ := bf_bind hf
            have hCe10 := ok_X12_isClause (Γ := Γ) (ad := ad) hv0 e10
            refine cv_X12_113 2 dX12_graph_42 rfl ⟨Nat.le_of_ble_eq_true rfl, Nat.le_of_ble_eq_true rfl⟩ (Nat.le_of_ble_eq_true rfl) hv0 hCe10 ?_
            refine bf_istore_n (lv2 := [(1, .int _), (0, .ref _)]) dX12_graph_45 rfl (by decide) rfl ?_
            refine bf_aload_n 1 dX12_graph_46 rfl rfl ?_
            refine bf_dup dX12_graph_47 rfl ?_
            refine fg_X12_100 dX12_graph_48 rfl hv0 ?_
            refine bf_iload_n 0 dX12_graph_51 rfl rfl ?_
            refine bf_if_eq 59 dX12_graph_52 (by decide) (fun c12 => ?_) (fun c12 => ?_)
            · have hf := (if_pos c12).symm.trans hf
              refine bf_iconst (v := 0) dX12_graph_59 (by decide) ?_
              refine bf_iadd dX12_graph_60 ?_
              refine fp_X12_100 dX12_graph_61 rfl hv0 ?_
              refine bf_goto 12 dX12_graph_64 (by decide) ?_
              refine bf_perm [1, 0] rfl ?_
              exact ih _ _ _ hf
            · have hf := (if_neg c12).symm.trans hf
              refine bf_iconst (v := 1) dX12_graph_55 (by decide) ?_
              refine bf_goto 60 dX12_graph_56 (by decide) ?_
              refine bf_iadd dX12_graph_60 ?_
              refine fp_X12_100 dX12_graph_61 rfl hv0 ?_
              refine bf_goto 12 dX12_graph_64 (by decide) ?_
              refine bf_perm [1, 0] rfl ?_
              exact ih _ _ _ hf
def f_X12_graph_174 (v0 : Nat) (v2 : Int32) (v3 : Int32) (v4 : Int32) (v5 : Int32) (K : (Nat → Nat → Int32) → (Nat → Nat → Int64) → Option (Int32 × bf_St)) : Nat → Int32 → (Nat → Nat → Int32) → (Nat → Nat → Int64) → Option (Int32 × bf_St)
  | 0, _, _, _ => none
  | n + 1, v6, I, L =>
    (if bf_ok (v4 + (4 : Int32)) 88 then (if (I (v0 + 5) (v4 + (4 : Int32)).toNatClampNeg) ≤ v6 then (K I L) else (if bf_ok ((v4 + (5 : Int32)) + v6) 88 then ((f_X12_comes v0 v5 (I (v0 + 5) ((v4 + (5 : Int32)) + v6).toNatClampNeg) I L).bind (fun r28 => (f_X12_graph_174 v0 v2 v3 v4 v5 K n (v6 + (1 : Int32)) r28.1 r28.2))) else none)) else none)
set_option maxRecDepth 100000 in
set_option maxHeartbeats 4000000 in
theorem ok_X12_graph_174 {Γ : bf_Gm} {ad : Nat → Nat} {v0 : Nat} {v2 : Int32} {v3 : Int32} {v4 : Int32} {v5 : Int32} (hv0 : bf_kd v0 = 12) {r : Int32 × bf_St} {K : (Nat → Nat → Int32) → (Nat → Nat → Int64) → Option (Int32 × bf_St)} (hK : ∀ (I : Nat → Nat → Int32) (L : Nat → Nat → Int64), K  I L = some r → bf_Go Γ (bf_rm 3 0 0) mu_X12_graph bf_E0 (bf_Z Γ (fun q h => q = some (.int r.1) ∧ h = bf_S ad r.2.1 r.2.2) 0 0) (0, 0) 212 [(0, .ref (ad v0)), (2, .int v2), (3, .int v3)] [] (bf_S ad I L)) : ∀ (n : Nat) (v6 : Int32) (I : Nat → Nat → Int32) (L : Nat → Nat → Int64), f_X12_graph_174 v0 v2 v3 v4 v5 K n v6 I L = some r → bf_Go Γ (bf_rm 3 0 0) mu_X12_graph bf_E0 (bf_Z Γ (fun q h => q = some (.int r.1) ∧ h = bf_S ad r.2.1 r.2.2) 0 0) (0, 0) 174 [(0, .ref (ad v0)), (2, .int v2), (3, .int v3), (4, .int v4), (5, .int v5), (6, .int v6)] [] (bf_S ad I L) := by
  intro n
  induction n with
  | zero => intro v6 I L hf; exact absurd (show none = some r from hf) (by simp)
  | succ n ih =>
    intro v6 I L hf
    rw [f_X12_graph_174] at hf
    refine bf_iload 5 dX12_graph_174 rfl ?_
    refine bf_aload_n 0 dX12_graph_176 rfl rfl ?_
    refine fg_X12_24 dX12_graph_177 rfl hv0 ?_
    refine bf_iload 3 dX12_graph_180 rfl ?_
    refine bf_iconst (v := 4) dX12_graph_182 (by decide) ?_
    refine bf_iadd dX12_graph_183 ?_
    rcases Decidable.em (bf_ok (v4 + (4 : Int32)) 88) with c24 | c24
    · have hf := (if_pos c24).symm.trans hf
      refine bf_iald dX12_graph_184 (kr_12_7 hv0) (by rw [(kl_12_7 hv0)]; exact c24) ?_
      refine bf_icmp_ge 212 dX12_graph_185 (by decide) (fun c25 => ?_) (fun c25 => ?_)
      · have hf := (if_pos c25).symm.trans hf
        refine bf_perm [0, 1, 2] rfl ?_
        exact hK _ _ hf
      · have hf := (if_neg c25).symm.trans hf
        refine bf_aload_n 0 dX12_graph_188 rfl rfl ?_
        refine bf_iload 4 dX12_graph_189 rfl ?_
        refine bf_aload_n 0 dX12_graph_191 rfl rfl ?_
        refine fg_X12_24 dX12_graph_192 rfl hv0 ?_
        refine bf_iload 3 dX12_graph_195 rfl ?_
        refine bf_iconst (v := 5) dX12_graph_197 (by decide) ?_
        refine bf_iadd dX12_graph_198 ?_
        refine bf_iload 5 dX12_graph_199 rfl ?_
        refine bf_iadd dX12_graph_201 ?_
        rcases Decidable.em (bf_ok ((v4 + (5 : Int32)) + v6) 88) with c26 | c26
        · have hf := (if_pos c26).symm.trans hf
          refine bf_iald dX12_graph_202 (kr_12_7 hv0) (by rw [(kl_12_7 hv0)]; exact c26) ?_
          obtain ⟨r28, e27, hf⟩ := bf_bind hf
          have hCe27 := ok_X12_comes (Γ := Γ) (ad := ad) hv0 e27
          refine cv_X12_80 0 dX12_graph_203 rfl ⟨Nat.le_of_ble_eq_true rfl, Nat.le_of_ble_eq_true rfl⟩ (Nat.le_of_ble_eq_true rfl) hv0 hCe27 ?_
          refine bf_iinc 5 (v := _ + (1 : Int32)) (lv2 := [(6, .int _), (0, .ref _), (2, .int _), (3, .int _), (4, .int _), (5, .int _)]) dX12_graph_206 rfl (by rfl) (by decide) rfl ?_
          refine bf_goto 174 dX12_graph_209 (by decide) ?_
          refine bf_perm [1, 2, 3, 4, 5, 0] rfl ?_
          exact ih _ _ _ hf
        · exact absurd ((if_neg c26).symm.trans hf) (by simp)
    · exact absurd ((if_neg c24).symm.trans hf) (by simp)
def f_X12_graph_109 (v0 : Nat) (K : Int32 → (Nat → Nat → Int32) → (Nat → Nat → Int64) → Option (Int32 × bf_St)) : Nat → Int32 → Int32 → (Nat → Nat → Int32) → (Nat → Nat → Int64) → Option (Int32 × bf_St)
  | 0, _, _, _, _ => none
  | n + 1, v2, v3, I, L =>
    (if (I v0 8) ≤ v3 then (K v2 I L) else (if bf_ok ((11 : Int32) * v3) 88 then (if bf_ok (((11 : Int32) * v3) + (1 : Int32)) 88 then (if bf_ok (((11 : Int32) * v3) + (2 : Int32)) 88 then (if bf_ok (((11 : Int32) * v3) + (3 : Int32)) 88 then ((f_X12_wire v0 (I (v0 + 5) ((11 : Int32) * v3).toNatClampNeg) (I (v0 + 5) (((11 : Int32) * v3) + (1 : Int32)).toNatClampNeg) (I (v0 + 5) (((11 : Int32) * v3) + (2 : Int32)).toNatClampNeg) (I (v0 + 5) (((11 : Int32) * v3) + (3 : Int32)).toNatClampNeg) I L).bind (fun r22 => (if r22.1 < 0 then (f_X12_graph_109 v0 K n v2 (v3 + (1 : Int32)) r22.2.1 r22.2.2) else (f_X12_graph_174 v0 (v2 + (1 : Int32)) v3 ((11 : Int32) * v3) r22.1 (fun I29 L29 => (f_X12_graph_109 v0 K n (v2 + (1 : Int32)) (v3 + (1 : Int32)) I29 L29)) 400 (0 : Int32) r22.2.1 r22.2.2)))) else none) else none) else none) else none))
set_option maxRecDepth 100000 in
set_option maxHeartbeats 4000000 in
theorem ok_X12_graph_109 {Γ : bf_Gm} {ad : Nat → Nat} {v0 : Nat} (hv0 : bf_kd v0 = 12) {r : Int32 × bf_St} {K : Int32 → (Nat → Nat → Int32) → (Nat → Nat → Int64) → Option (Int32 × bf_St)} (hK : ∀ (v2 : Int32) (I : Nat → Nat → Int32) (L : Nat → Nat → Int64), K v2 I L = some r → bf_Go Γ (bf_rm 3 0 0) mu_X12_graph bf_E0 (bf_Z Γ (fun q h => q = some (.int r.1) ∧ h = bf_S ad r.2.1 r.2.2) 0 0) (0, 0) 218 [(2, .int v2)] [] (bf_S ad I L)) : ∀ (n : Nat) (v2 : Int32) (v3 : Int32) (I : Nat → Nat → Int32) (L : Nat → Nat → Int64), f_X12_graph_109 v0 K n v2 v3 I L = some r → bf_Go Γ (bf_rm 3 0 0) mu_X12_graph bf_E0 (bf_Z Γ (fun q h => q = some (.int r.1) ∧ h = bf_S ad r.2.1 r.2.2) 0 0) (0, 0) 109 [(0, .ref (ad v0)), (2, .int v2), (3, .int v3)] [] (bf_S ad I L) := by
  intro n
  induction n with
  | zero => intro v2 v3 I L hf; exact absurd (show none = some r from hf) (by simp)
  | succ n ih =>
    intro v2 v3 I L hf
    rw [f_X12_graph_109] at hf
    refine bf_iload_n 2 dX12_graph_109 rfl rfl ?_
    refine bf_aload_n 0 dX12_graph_110 rfl rfl ?_
    refine fg_X12_100 dX12_graph_111 rfl hv0 ?_
    refine bf_icmp_ge 218 dX12_graph_114 (by decide) (fun c16 => ?_) (fun c16 => ?_)
    · have hf := (if_pos c16).symm.trans hf
      refine bf_perm [1] rfl ?_
      exact hK _ _ _ hf
    · have hf := (if_neg c16).symm.trans hf
      refine bf_bipush (v := 11) dX12_graph_117 (by decide) ?_
      refine bf_iload_n 2 dX12_graph_119 rfl rfl ?_
      refine bf_imul dX12_graph_120 ?_
      refine bf_istore (lv2 := [(4, .int _), (0, .ref _), (2, .int _), (3, .int _)]) dX12_graph_121 (by decide) rfl ?_
      refine bf_aload_n 1 dX12_graph_123 rfl rfl ?_
      refine bf_aload_n 1 dX12_graph_124 rfl rfl ?_
      refine fg_X12_24 dX12_graph_125 rfl hv0 ?_
      refine bf_iload 0 dX12_graph_128 rfl ?_
      rcases Decidable.em (bf_ok ((11 : Int32) * v3) 88) with c17 | c17
      · have hf := (if_pos c17).symm.trans hf
        refine bf_iald dX12_graph_130 (kr_12_7 hv0) (by rw [(kl_12_7 hv0)]; exact c17) ?_
        refine bf_aload_n 1 dX12_graph_131 rfl rfl ?_
        refine fg_X12_24 dX12_graph_132 rfl hv0 ?_
        refine bf_iload 0 dX12_graph_135 rfl ?_
        refine bf_iconst (v := 1) dX12_graph_137 (by decide) ?_
        refine bf_iadd dX12_graph_138 ?_
        rcases Decidable.em (bf_ok (((11 : Int32) * v3) + (1 : Int32)) 88) with c18 | c18
        · have hf := (if_pos c18).symm.trans hf
          refine bf_iald dX12_graph_139 (kr_12_7 hv0) (by rw [(kl_12_7 hv0)]; exact c18) ?_
          refine bf_aload_n 1 dX12_graph_140 rfl rfl ?_
          refine fg_X12_24 dX12_graph_141 rfl hv0 ?_
          refine bf_iload 0 dX12_graph_144 rfl ?_
          refine bf_iconst (v := 2) dX12_graph_146 (by decide) ?_
          refine bf_iadd dX12_graph_147 ?_
          rcases Decidable.em (bf_ok (((11 : Int32) * v3) + (2 : Int32)) 88) with c19 | c19
          · have hf := (if_pos c19).symm.trans hf
            refine bf_iald dX12_graph_148 (kr_12_7 hv0) (by rw [(kl_12_7 hv0)]; exact c19) ?_
            refine bf_aload_n 1 dX12_graph_149 rfl rfl ?_
            refine fg_X12_24 dX12_graph_150 rfl hv0 ?_
            refine bf_iload 0 dX12_graph_153 rfl ?_
            refine bf_iconst (v := 3) dX12_graph_155 (by decide) ?_
            refine bf_iadd dX12_graph_156 ?_
            rcases Decidable.em (bf_ok (((11 : Int32) * v3) + (3 : Int32)) 88) with c20 | c20
            · have hf := (if_pos c20).symm.trans hf
              refine bf_iald dX12_graph_157 (kr_12_7 hv0) (by rw [(kl_12_7 hv0)]; exact c20) ?_
              obtain ⟨r22, e21, hf⟩ := bf_bind hf
              have hCe21 := ok_X12_wire (Γ := Γ) (ad := ad) hv0 e21
              refine cv_X12_117 2 dX12_graph_158 rfl ⟨Nat.le_of_ble_eq_true rfl, Nat.le_of_ble_eq_true rfl⟩ (Nat.le_of_ble_eq_true rfl) hv0 hCe21 ?_
              refine bf_istore (lv2 := [(5, .int _), (4, .int _), (0, .ref _), (2, .int _), (3, .int _)]) dX12_graph_161 (by decide) rfl ?_
              refine bf_iload 0 dX12_graph_163 rfl ?_
              refine bf_if_lt 212 dX12_graph_165 (by decide) (fun c23 => ?_) (fun c23 => ?_)
              · have hf := (if_pos c23).symm.trans hf
                refine bf_iinc 4 (v := _ + (1 : Int32)) (lv2 := [(3, .int _), (5, .int _), (4, .int _), (0, .ref _), (2, .int _)]) dX12_graph_212 rfl (by rfl) (by decide) rfl ?_
                refine bf_goto 109 dX12_graph_215 (by decide) ?_
                refine bf_perm [3, 4, 0] rfl ?_
                exact ih _ _ _ _ hf
              · have hf := (if_neg c23).symm.trans hf
                refine bf_iinc 3 (v := _ + (1 : Int32)) (lv2 := [(2, .int _), (5, .int _), (4, .int _), (0, .ref _), (3, .int _)]) dX12_graph_168 rfl (by rfl) (by decide) rfl ?_
                refine bf_iconst (v := 0) dX12_graph_171 (by decide) ?_
                refine bf_istore (lv2 := [(6, .int _), (2, .int _), (5, .int _), (4, .int _), (0, .ref _), (3, .int _)]) dX12_graph_172 (by decide) rfl ?_
                refine bf_perm [4, 1, 5, 3, 2, 0] rfl ?_
                refine ok_X12_graph_174 hv0 (fun I29 L29 hf => ?_) _ _ _ _  hf
                refine bf_iinc 2 (v := _ + (1 : Int32)) (lv2 := [(3, .int _), (0, .ref _), (2, .int _)]) dX12_graph_212 rfl (by rfl) (by decide) rfl ?_
                refine bf_goto 109 dX12_graph_215 (by decide) ?_
                refine bf_perm [1, 2, 0] rfl ?_
                exact ih _ _ _ _ hf
            · exact absurd ((if_neg c20).symm.trans hf) (by simp)
          · exact absurd ((if_neg c19).symm.trans hf) (by simp)
        · exact absurd ((if_neg c18).symm.trans hf) (by simp)
      · exact absurd ((if_neg c17).symm.trans hf) (by simp)
def f_X12_graph_p87 (v0 : Nat) (s0 : Int32) (I : Nat → Nat → Int32) (L : Nat → Nat → Int64) : Option (Int32 × bf_St) :=
  (if s0 = 0 then (some (((-10 : Int32) - ((bf_u I v0 5 (0 : Int32)) v0 6)), (bf_u I v0 5 (0 : Int32)), L)) else (f_X12_graph_109 v0 (fun k2_30 I30 L30 => (some (k2_30, I30, L30))) 400 (0 : Int32) (0 : Int32) (bf_u I v0 5 (0 : Int32)) L))
set_option maxRecDepth 100000 in
set_option maxHeartbeats 4000000 in
theorem ok_X12_graph_p87 {Γ : bf_Gm} {ad : Nat → Nat} {v0 : Nat} {s0 : Int32} {I : Nat → Nat → Int32} {L : Nat → Nat → Int64} (hv0 : bf_kd v0 = 12) {r : Int32 × bf_St} (hf : f_X12_graph_p87 v0 s0 I L = some r) : bf_Go Γ (bf_rm 3 0 0) mu_X12_graph bf_E0 (bf_Z Γ (fun q h => q = some (.int r.1) ∧ h = bf_S ad r.2.1 r.2.2) 0 0) (0, 0) 87 [(0, .ref (ad v0))] [.int s0] (bf_S ad I L) := by
  unfold f_X12_graph_p87 at hf
  refine bf_istore_n (lv2 := [(1, .int _), (0, .ref _)]) dX12_graph_87 rfl (by decide) rfl ?_
  refine bf_aload_n 1 dX12_graph_88 rfl rfl ?_
  refine bf_iconst (v := 0) dX12_graph_89 (by decide) ?_
  refine fp_X12_86 dX12_graph_90 rfl hv0 ?_
  refine bf_iload_n 0 dX12_graph_93 rfl rfl ?_
  refine bf_if_ne 105 dX12_graph_94 (by decide) (fun c15 => ?_) (fun c15 => ?_)
  · have hf := (if_neg c15).symm.trans hf
    refine bf_iconst (v := 0) dX12_graph_105 (by decide) ?_
    refine bf_istore_n (lv2 := [(2, .int _), (1, .int _), (0, .ref _)]) dX12_graph_106 rfl (by decide) rfl ?_
    refine bf_iconst (v := 0) dX12_graph_107 (by decide) ?_
    refine bf_istore_n (lv2 := [(3, .int _), (2, .int _), (1, .int _), (0, .ref _)]) dX12_graph_108 rfl (by decide) rfl ?_
    refine bf_perm [3, 1, 0] rfl ?_
    refine ok_X12_graph_109 hv0 (fun k2_30 I30 L30 hf => ?_) _ _ _ _ _  hf
    refine bf_iload_n 0 dX12_graph_218 rfl rfl ?_
    obtain rfl := Option.some.inj hf
    exact bf_iret dX12_graph_219 rfl (Nat.le_refl _) (Nat.le_refl _) ⟨rfl, rfl⟩
  · have hf := (if_pos c15).symm.trans hf
    refine bf_bipush (v := -10) dX12_graph_97 (by decide) ?_
    refine bf_aload_n 1 dX12_graph_99 rfl rfl ?_
    refine fg_X12_90 dX12_graph_100 rfl hv0 ?_
    refine bf_isub dX12_graph_103 ?_
    obtain rfl := Option.some.inj hf
    exact bf_iret dX12_graph_104 rfl (Nat.le_refl _) (Nat.le_refl _) ⟨rfl, rfl⟩
def f_X12_graph_p86 (v0 : Nat) (I : Nat → Nat → Int32) (L : Nat → Nat → Int64) : Option (Int32 × bf_St) :=
  (f_X12_graph_p87 v0 (0 : Int32) I L)
set_option maxRecDepth 100000 in
set_option maxHeartbeats 4000000 in
theorem ok_X12_graph_p86 {Γ : bf_Gm} {ad : Nat → Nat} {v0 : Nat} {I : Nat → Nat → Int32} {L : Nat → Nat → Int64} (hv0 : bf_kd v0 = 12) {r : Int32 × bf_St} (hf : f_X12_graph_p86 v0 I L = some r) : bf_Go Γ (bf_rm 3 0 0) mu_X12_graph bf_E0 (bf_Z Γ (fun q h => q = some (.int r.1) ∧ h = bf_S ad r.2.1 r.2.2) 0 0) (0, 0) 86 [(0, .ref (ad v0))] [] (bf_S ad I L) := by
  unfold f_X12_graph_p86 at hf
  refine bf_iconst (v := 0) dX12_graph_86 (by decide) ?_
  exact ok_X12_graph_p87 hv0  hf
def f_X12_graph_p67 (v0 : Nat) (v1 : Int32) (I : Nat → Nat → Int32) (L : Nat → Nat → Int64) : Option (Int32 × bf_St) :=
  (if v1 = 0 then (f_X12_graph_p86 v0 I L) else (if (I v0 6) = (I v0 5) then (f_X12_graph_p87 v0 (1 : Int32) I L) else (f_X12_graph_p86 v0 I L)))
set_option maxRecDepth 100000 in
set_option maxHeartbeats 4000000 in
theorem ok_X12_graph_p67 {Γ : bf_Gm} {ad : Nat → Nat} {v0 : Nat} {v1 : Int32} {I : Nat → Nat → Int32} {L : Nat → Nat → Int64} (hv0 : bf_kd v0 = 12) {r : Int32 × bf_St} (hf : f_X12_graph_p67 v0 v1 I L = some r) : bf_Go Γ (bf_rm 3 0 0) mu_X12_graph bf_E0 (bf_Z Γ (fun q h => q = some (.int r.1) ∧ h = bf_S ad r.2.1 r.2.2) 0 0) (0, 0) 67 [(0, .ref (ad v0)), (1, .int v1)] [] (bf_S ad I L) := by
  unfold f_X12_graph_p67 at hf
  refine bf_iload_n 1 dX12_graph_67 rfl rfl ?_
  refine bf_if_eq 86 dX12_graph_68 (by decide) (fun c14 => ?_) (fun c14 => ?_)
  · have hf := (if_pos c14).symm.trans hf
    refine bf_perm [0] rfl ?_
    exact ok_X12_graph_p86 hv0  hf
  · have hf := (if_neg c14).symm.trans hf
    refine bf_aload_n 0 dX12_graph_71 rfl rfl ?_
    refine fg_X12_90 dX12_graph_72 rfl hv0 ?_
    refine bf_aload_n 0 dX12_graph_75 rfl rfl ?_
    refine fg_X12_86 dX12_graph_76 rfl hv0 ?_
    refine bf_icmp_ne 86 dX12_graph_79 (by decide) (fun c31 => ?_) (fun c31 => ?_)
    · have hf := (if_neg c31).symm.trans hf
      refine bf_perm [0] rfl ?_
      exact ok_X12_graph_p86 hv0  hf
    · have hf := (if_pos c31).symm.trans hf
      refine bf_iconst (v := 1) dX12_graph_82 (by decide) ?_
      refine bf_goto 87 dX12_graph_83 (by decide) ?_
      refine bf_perm [0] rfl ?_
      exact ok_X12_graph_p87 hv0  hf
def f_X12_graph (o : Nat) (I : Nat → Nat → Int32) (L : Nat → Nat → Int64) : Option (Int32 × bf_St) :=
  (f_X12_graph_12 o (fun k1_13 I13 L13 => (f_X12_graph_p67 o k1_13 I13 L13)) 400 (1 : Int32) (bf_u (bf_u I o 6 (0 : Int32)) o 8 (0 : Int32)) L)
set_option maxRecDepth 100000 in
set_option maxHeartbeats 4000000 in
theorem ok_X12_graph {Γ : bf_Gm} {ad : Nat → Nat} {o : Nat} {I : Nat → Nat → Int32} {L : Nat → Nat → Int64} (hk : bf_kd o = 12) {r : Int32 × bf_St} (hf : f_X12_graph o I L = some r) : bf_Cn Γ 3 mu_X12_graph 0 0 [.ref (ad o)] (bf_S ad I L) (fun q h => q = some (.int r.1) ∧ h = bf_S ad r.2.1 r.2.2) := by
  refine bf_met rfl (Nat.le_of_ble_eq_true rfl) ?_
  unfold f_X12_graph at hf
  refine bf_aload_n 0 dX12_graph_0 rfl rfl ?_
  refine bf_iconst (v := 0) dX12_graph_1 (by decide) ?_
  refine fp_X12_90 dX12_graph_2 rfl hk ?_
  refine bf_aload_n 0 dX12_graph_5 rfl rfl ?_
  refine bf_iconst (v := 0) dX12_graph_6 (by decide) ?_
  refine fp_X12_100 dX12_graph_7 rfl hk ?_
  refine bf_iconst (v := 1) dX12_graph_10 (by decide) ?_
  refine bf_istore_n (lv2 := [(1, .int _), (0, .ref _)]) dX12_graph_11 rfl (by decide) rfl ?_
  refine bf_perm [1, 0] rfl ?_
  refine ok_X12_graph_12 hk (fun k1_13 I13 L13 hf => ?_) _ _ _ _  hf
  exact ok_X12_graph_p67 hk  hf
def f_X12_canFire_2 (v0 : Nat) (v1 : Int32) (K : (Nat → Nat → Int32) → (Nat → Nat → Int64) → Option (Int32 × bf_St)) : Nat → Int32 → (Nat → Nat → Int32) → (Nat → Nat → Int64) → Option (Int32 × bf_St)
  | 0, _, _, _ => none
  | n + 1, v2, I, L =>
    (if (I (v0 + 1) (1 : Int32).toNatClampNeg) ≤ v2 then (K I L) else ((f_X12_isWire v0 v2 I L).bind (fun r3 => (if r3.1 = 0 then (f_X12_canFire_2 v0 v1 K n (v2 + (1 : Int32)) r3.2.1 r3.2.2) else ((f_X12_tokens v0 v2 r3.2.1 r3.2.2).bind (fun r6 => ((f_X12_to v0 v2 r6.2.1 r6.2.2).bind (fun r8 => (if r8.1 = v1 then ((f_X12_takes v0 v2 r8.2.1 r8.2.2).bind (fun r27 => ((f_X12_to v0 v2 r27.2.1 r27.2.2).bind (fun r29 => (if r29.1 = v1 then (if (r6.1 - r27.1) < 0 then (some ((0 : Int32), r29.2.1, r29.2.2)) else ((f_X12_from v0 v2 r29.2.1 r29.2.2).bind (fun r39 => (if r39.1 = v1 then ((f_X12_puts v0 v2 r39.2.1 r39.2.2).bind (fun r42 => (if ((r6.1 - r27.1) + r42.1) ≤ (99 : Int32) then (f_X12_canFire_2 v0 v1 K n (v2 + (1 : Int32)) r42.2.1 r42.2.2) else (some ((0 : Int32), r42.2.1, r42.2.2))))) else (f_X12_canFire_2 v0 v1 K n (v2 + (1 : Int32)) r39.2.1 r39.2.2))))) else ((f_X12_from v0 v2 r29.2.1 r29.2.2).bind (fun r32 => (if r32.1 = v1 then ((f_X12_puts v0 v2 r32.2.1 r32.2.2).bind (fun r35 => (if ((r6.1 - r27.1) + r35.1) ≤ (99 : Int32) then (f_X12_canFire_2 v0 v1 K n (v2 + (1 : Int32)) r35.2.1 r35.2.2) else (some ((0 : Int32), r35.2.1, r35.2.2))))) else (f_X12_canFire_2 v0 v1 K n (v2 + (1 : Int32)) r32.2.1 r32.2.2))))))))) else ((f_X12_to v0 v2 r8.2.1 r8.2.2).bind (fun r11 => (if r11.1 = v1 then (if (r6.1 - (0 : Int32)) < 0 then (some ((0 : Int32), r11.2.1, r11.2.2)) else ((f_X12_from v0 v2 r11.2.1 r11.2.2).bind (fun r21 => (if r21.1 = v1 then ((f_X12_puts v0 v2 r21.2.1 r21.2.2).bind (fun r24 => (if ((r6.1 - (0 : Int32)) + r24.1) ≤ (99 : Int32) then (f_X12_canFire_2 v0 v1 K n (v2 + (1 : Int32)) r24.2.1 r24.2.2) else (some ((0 : Int32), r24.2.1, r24.2.2))))) else (f_X12_canFire_2 v0 v1 K n (v2 + (1 : Int32)) r21.2.1 r21.2.2))))) else ((f_X12_from v0 v2 r11.2.1 r11.2.2).bind (fun r14 => (if r14.1 = v1 then ((f_X12_puts v0 v2 r14.2.1 r14.2.2).bind (fun r17 => (if ((r6.1 - (0 : Int32)) + r17.1) ≤ (99 : Int32) then (f_X12_canFire_2 v0 v1 K n (v2 + (1 : Int32)) r17.2.1 r17.2.2) else (some ((0 : Int32), r17.2.1, r17.2.2))))) else (f_X12_canFire_2 v0 v1 K n (v2 + (1 : Int32)) r14.2.1 r14.2.2))))))))))))))))
set_option maxRecDepth 100000 in
set_option maxHeartbeats 4000000 in
theorem ok_X12_canFire_2 {Γ : bf_Gm} {ad : Nat → Nat} {v0 : Nat} {v1 : Int32} (hv0 : bf_kd v0 = 12) {r : Int32 × bf_St} {K : (Nat → Nat → Int32) → (Nat → Nat → Int64) → Option (Int32 × bf_St)} (hK : ∀ (I : Nat → Nat → Int32) (L : Nat → Nat → Int64), K  I L = some r → bf_Go Γ (bf_rm 2 0 0) mu_X12_canFire bf_E0 (bf_Z Γ (fun q h => q = some (.int r.1) ∧ h = bf_S ad r.2.1 r.2.2) 0 0) (0, 0) 90 [] [] (bf_S ad I L)) : ∀ (n : Nat) (v2 : Int32) (I : Nat → Nat → Int32) (L : Nat → Nat → Int64), f_X12_canFire_2 v0 v1 K n v2 I L = some r → bf_Go Γ (bf_rm 2 0 0) mu_X12_canFire bf_E0 (bf_Z Γ (fun q h => q = some (.int r.1) ∧ h = bf_S ad r.2.1 r.2.2) 0 0) (0, 0) 2 [(0, .ref (ad v0)), (1, .int v1), (2, .int v2)] [] (bf_S ad I L) := by
  intro n
  induction n with
  | zero => intro v2 I L hf; exact absurd (show none = some r from hf) (by simp)
  | succ n ih =>
    intro v2 I L hf
    rw [f_X12_canFire_2] at hf
    refine bf_iload_n 2 dX12_canFire_2 rfl rfl ?_
    refine bf_aload_n 0 dX12_canFire_3 rfl rfl ?_
    refine fg_X12_11 dX12_canFire_4 rfl hv0 ?_
    refine bf_iconst (v := 1) dX12_canFire_7 (by decide) ?_
    refine bf_iald dX12_canFire_8 (kr_12_0 hv0) (by rw [(kl_12_0 hv0)]; decide) ?_
    refine bf_icmp_ge 90 dX12_canFire_9 (by decide) (fun c1 => ?_) (fun c1 => ?_)
    · have hf := (if_pos c1).symm.trans hf
      refine bf_perm [] rfl ?_
      exact hK _ _ hf
    · have hf := (if_neg c1).symm.trans hf
      refine bf_aload_n 0 dX12_canFire_12 rfl rfl ?_
      refine bf_iload_n 2 dX12_canFire_13 rfl rfl ?_
      obtain ⟨r3, e2, hf⟩ := bf_bind hf
      have hCe2 := ok_X12_isWire (Γ := Γ) (ad := ad) hv0 e2
      refine cv_X12_73 1 dX12_canFire_14 rfl ⟨Nat.le_of_ble_eq_true rfl, Nat.le_of_ble_eq_true rfl⟩ (Nat.le_of_ble_eq_true rfl) hv0 hCe2 ?_
      refine bf_if_ne 23 dX12_canFire_17 (by decide) (fun c4 => ?_) (fun c4 => ?_)
      · have hf := (if_neg c4).symm.trans hf
        refine bf_aload_n 0 dX12_canFire_23 rfl rfl ?_
        refine bf_iload_n 2 dX12_canFire_24 rfl rfl ?_
        obtain ⟨r6, e5, hf⟩ := bf_bind hf
        have hCe5 := ok_X12_tokens (Γ := Γ) (ad := ad) hv0 e5
        refine cv_X12_76 0 dX12_canFire_25 rfl ⟨Nat.le_of_ble_eq_true rfl, Nat.le_of_ble_eq_true rfl⟩ (Nat.le_of_ble_eq_true rfl) hv0 hCe5 ?_
        refine bf_aload_n 0 dX12_canFire_28 rfl rfl ?_
        refine bf_iload_n 2 dX12_canFire_29 rfl rfl ?_
        obtain ⟨r8, e7, hf⟩ := bf_bind hf
        have hCe7 := ok_X12_to (Γ := Γ) (ad := ad) hv0 e7
        refine cv_X12_121 0 dX12_canFire_30 rfl ⟨Nat.le_of_ble_eq_true rfl, Nat.le_of_ble_eq_true rfl⟩ (Nat.le_of_ble_eq_true rfl) hv0 hCe7 ?_
        refine bf_iload_n 1 dX12_canFire_33 rfl rfl ?_
        refine bf_icmp_ne 45 dX12_canFire_34 (by decide) (fun c9 => ?_) (fun c9 => ?_)
        · have hf := (if_neg c9).symm.trans hf
          refine bf_iconst (v := 0) dX12_canFire_45 (by decide) ?_
          refine bf_isub dX12_canFire_46 ?_
          refine bf_istore_n (lv2 := [(3, .int _), (0, .ref _), (1, .int _), (2, .int _)]) dX12_canFire_47 rfl (by decide) rfl ?_
          refine bf_aload_n 1 dX12_canFire_48 rfl rfl ?_
          refine bf_iload_n 3 dX12_canFire_49 rfl rfl ?_
          obtain ⟨r11, e10, hf⟩ := bf_bind hf
          have hCe10 := ok_X12_to (Γ := Γ) (ad := ad) hv0 e10
          refine cv_X12_121 0 dX12_canFire_50 rfl ⟨Nat.le_of_ble_eq_true rfl, Nat.le_of_ble_eq_true rfl⟩ (Nat.le_of_ble_eq_true rfl) hv0 hCe10 ?_
          refine bf_iload_n 2 dX12_canFire_53 rfl rfl ?_
          refine bf_icmp_ne 61 dX12_canFire_54 (by decide) (fun c12 => ?_) (fun c12 => ?_)
          · have hf := (if_neg c12).symm.trans hf
            refine bf_aload_n 1 dX12_canFire_61 rfl rfl ?_
            refine bf_iload_n 3 dX12_canFire_62 rfl rfl ?_
            obtain ⟨r14, e13, hf⟩ := bf_bind hf
            have hCe13 := ok_X12_from (Γ := Γ) (ad := ad) hv0 e13
            refine cv_X12_127 0 dX12_canFire_63 rfl ⟨Nat.le_of_ble_eq_true rfl, Nat.le_of_ble_eq_true rfl⟩ (Nat.le_of_ble_eq_true rfl) hv0 hCe13 ?_
            refine bf_iload_n 2 dX12_canFire_66 rfl rfl ?_
            refine bf_icmp_ne 84 dX12_canFire_67 (by decide) (fun c15 => ?_) (fun c15 => ?_)
            · have hf := (if_neg c15).symm.trans hf
              refine bf_iinc 3 (v := _ + (1 : Int32)) (lv2 := [(2, .int _), (3, .int _), (0, .ref _), (1, .int _)]) dX12_canFire_84 rfl (by rfl) (by decide) rfl ?_
              refine bf_goto 2 dX12_canFire_87 (by decide) ?_
              refine bf_perm [2, 3, 0] rfl ?_
              exact ih _ _ _ hf
            · have hf := (if_pos c15).symm.trans hf
              refine bf_iload_n 0 dX12_canFire_70 rfl rfl ?_
              refine bf_aload_n 1 dX12_canFire_71 rfl rfl ?_
              refine bf_iload_n 3 dX12_canFire_72 rfl rfl ?_
              obtain ⟨r17, e16, hf⟩ := bf_bind hf
              have hCe16 := ok_X12_puts (Γ := Γ) (ad := ad) hv0 e16
              refine cv_X12_130 0 dX12_canFire_73 rfl ⟨Nat.le_of_ble_eq_true rfl, Nat.le_of_ble_eq_true rfl⟩ (Nat.le_of_ble_eq_true rfl) hv0 hCe16 ?_
              refine bf_iadd dX12_canFire_76 ?_
              refine bf_bipush (v := 99) dX12_canFire_77 (by decide) ?_
              refine bf_icmp_le 84 dX12_canFire_79 (by decide) (fun c18 => ?_) (fun c18 => ?_)
              · have hf := (if_pos c18).symm.trans hf
                refine bf_iinc 3 (v := _ + (1 : Int32)) (lv2 := [(2, .int _), (3, .int _), (0, .ref _), (1, .int _)]) dX12_canFire_84 rfl (by rfl) (by decide) rfl ?_
                refine bf_goto 2 dX12_canFire_87 (by decide) ?_
                refine bf_perm [2, 3, 0] rfl ?_
                exact ih _ _ _ hf
              · have hf := (if_neg c18).symm.trans hf
                refine bf_iconst (v := 0) dX12_canFire_82 (by decide) ?_
                obtain rfl := Option.some.inj hf
                exact bf_zret dX12_canFire_83 rfl rfl (Nat.le_refl _) (Nat.le_refl _) ⟨rfl, rfl⟩
          · have hf := (if_pos c12).symm.trans hf
            refine bf_iload_n 0 dX12_canFire_57 rfl rfl ?_
            refine bf_if_lt 82 dX12_canFire_58 (by decide) (fun c19 => ?_) (fun c19 => ?_)
            · have hf := (if_pos c19).symm.trans hf
              refine bf_iconst (v := 0) dX12_canFire_82 (by decide) ?_
              obtain rfl := Option.some.inj hf
              exact bf_zret dX12_canFire_83 rfl rfl (Nat.le_refl _) (Nat.le_refl _) ⟨rfl, rfl⟩
            · have hf := (if_neg c19).symm.trans hf
              refine bf_aload_n 1 dX12_canFire_61 rfl rfl ?_
              refine bf_iload_n 3 dX12_canFire_62 rfl rfl ?_
              obtain ⟨r21, e20, hf⟩ := bf_bind hf
              have hCe20 := ok_X12_from (Γ := Γ) (ad := ad) hv0 e20
              refine cv_X12_127 0 dX12_canFire_63 rfl ⟨Nat.le_of_ble_eq_true rfl, Nat.le_of_ble_eq_true rfl⟩ (Nat.le_of_ble_eq_true rfl) hv0 hCe20 ?_
              refine bf_iload_n 2 dX12_canFire_66 rfl rfl ?_
              refine bf_icmp_ne 84 dX12_canFire_67 (by decide) (fun c22 => ?_) (fun c22 => ?_)
              · have hf := (if_neg c22).symm.trans hf
                refine bf_iinc 3 (v := _ + (1 : Int32)) (lv2 := [(2, .int _), (3, .int _), (0, .ref _), (1, .int _)]) dX12_canFire_84 rfl (by rfl) (by decide) rfl ?_
                refine bf_goto 2 dX12_canFire_87 (by decide) ?_
                refine bf_perm [2, 3, 0] rfl ?_
                exact ih _ _ _ hf
              · have hf := (if_pos c22).symm.trans hf
                refine bf_iload_n 0 dX12_canFire_70 rfl rfl ?_
                refine bf_aload_n 1 dX12_canFire_71 rfl rfl ?_
                refine bf_iload_n 3 dX12_canFire_72 rfl rfl ?_
                obtain ⟨r24, e23, hf⟩ := bf_bind hf
                have hCe23 := ok_X12_puts (Γ := Γ) (ad := ad) hv0 e23
                refine cv_X12_130 0 dX12_canFire_73 rfl ⟨Nat.le_of_ble_eq_true rfl, Nat.le_of_ble_eq_true rfl⟩ (Nat.le_of_ble_eq_true rfl) hv0 hCe23 ?_
                refine bf_iadd dX12_canFire_76 ?_
                refine bf_bipush (v := 99) dX12_canFire_77 (by decide) ?_
                refine bf_icmp_le 84 dX12_canFire_79 (by decide) (fun c25 => ?_) (fun c25 => ?_)
                · have hf := (if_pos c25).symm.trans hf
                  refine bf_iinc 3 (v := _ + (1 : Int32)) (lv2 := [(2, .int _), (3, .int _), (0, .ref _), (1, .int _)]) dX12_canFire_84 rfl (by rfl) (by decide) rfl ?_
                  refine bf_goto 2 dX12_canFire_87 (by decide) ?_
                  refine bf_perm [2, 3, 0] rfl ?_
                  exact ih _ _ _ hf
                · have hf := (if_neg c25).symm.trans hf
                  refine bf_iconst (v := 0) dX12_canFire_82 (by decide) ?_
                  obtain rfl := Option.some.inj hf
                  exact bf_zret dX12_canFire_83 rfl rfl (Nat.le_refl _) (Nat.le_refl _) ⟨rfl, rfl⟩
        · have hf := (if_pos c9).symm.trans hf
          refine bf_aload_n 0 dX12_canFire_37 rfl rfl ?_
          refine bf_iload_n 2 dX12_canFire_38 rfl rfl ?_
          obtain ⟨r27, e26, hf⟩ := bf_bind hf
          have hCe26 := ok_X12_takes (Γ := Γ) (ad := ad) hv0 e26
          refine cv_X12_124 0 dX12_canFire_39 rfl ⟨Nat.le_of_ble_eq_true rfl, Nat.le_of_ble_eq_true rfl⟩ (Nat.le_of_ble_eq_true rfl) hv0 hCe26 ?_
          refine bf_goto 46 dX12_canFire_42 (by decide) ?_
          refine bf_isub dX12_canFire_46 ?_
          refine bf_istore_n (lv2 := [(3, .int _), (0, .ref _), (1, .int _), (2, .int _)]) dX12_canFire_47 rfl (by decide) rfl ?_
          refine bf_aload_n 1 dX12_canFire_48 rfl rfl ?_
          refine bf_iload_n 3 dX12_canFire_49 rfl rfl ?_
          obtain ⟨r29, e28, hf⟩ := bf_bind hf
          have hCe28 := ok_X12_to (Γ := Γ) (ad := ad) hv0 e28
          refine cv_X12_121 0 dX12_canFire_50 rfl ⟨Nat.le_of_ble_eq_true rfl, Nat.le_of_ble_eq_true rfl⟩ (Nat.le_of_ble_eq_true rfl) hv0 hCe28 ?_
          refine bf_iload_n 2 dX12_canFire_53 rfl rfl ?_
          refine bf_icmp_ne 61 dX12_canFire_54 (by decide) (fun c30 => ?_) (fun c30 => ?_)
          · have hf := (if_neg c30).symm.trans hf
            refine bf_aload_n 1 dX12_canFire_61 rfl rfl ?_
            refine bf_iload_n 3 dX12_canFire_62 rfl rfl ?_
            obtain ⟨r32, e31, hf⟩ := bf_bind hf
            have hCe31 := ok_X12_from (Γ := Γ) (ad := ad) hv0 e31
            refine cv_X12_127 0 dX12_canFire_63 rfl ⟨Nat.le_of_ble_eq_true rfl, Nat.le_of_ble_eq_true rfl⟩ (Nat.le_of_ble_eq_true rfl) hv0 hCe31 ?_
            refine bf_iload_n 2 dX12_canFire_66 rfl rfl ?_
            refine bf_icmp_ne 84 dX12_canFire_67 (by decide) (fun c33 => ?_) (fun c33 => ?_)
            · have hf := (if_neg c33).symm.trans hf
              refine bf_iinc 3 (v := _ + (1 : Int32)) (lv2 := [(2, .int _), (3, .int _), (0, .ref _), (1, .int _)]) dX12_canFire_84 rfl (by rfl) (by decide) rfl ?_
              refine bf_goto 2 dX12_canFire_87 (by decide) ?_
              refine bf_perm [2, 3, 0] rfl ?_
              exact ih _ _ _ hf
            · have hf := (if_pos c33).symm.trans hf
              refine bf_iload_n 0 dX12_canFire_70 rfl rfl ?_
              refine bf_aload_n 1 dX12_canFire_71 rfl rfl ?_
              refine bf_iload_n 3 dX12_canFire_72 rfl rfl ?_
              obtain ⟨r35, e34, hf⟩ := bf_bind hf
              have hCe34 := ok_X12_puts (Γ := Γ) (ad := ad) hv0 e34
              refine cv_X12_130 0 dX12_canFire_73 rfl ⟨Nat.le_of_ble_eq_true rfl, Nat.le_of_ble_eq_true rfl⟩ (Nat.le_of_ble_eq_true rfl) hv0 hCe34 ?_
              refine bf_iadd dX12_canFire_76 ?_
              refine bf_bipush (v := 99) dX12_canFire_77 (by decide) ?_
              refine bf_icmp_le 84 dX12_canFire_79 (by decide) (fun c36 => ?_) (fun c36 => ?_)
              · have hf := (if_pos c36).symm.trans hf
                refine bf_iinc 3 (v := _ + (1 : Int32)) (lv2 := [(2, .int _), (3, .int _), (0, .ref _), (1, .int _)]) dX12_canFire_84 rfl (by rfl) (by decide) rfl ?_
                refine bf_goto 2 dX12_canFire_87 (by decide) ?_
                refine bf_perm [2, 3, 0] rfl ?_
                exact ih _ _ _ hf
              · have hf := (if_neg c36).symm.trans hf
                refine bf_iconst (v := 0) dX12_canFire_82 (by decide) ?_
                obtain rfl := Option.some.inj hf
                exact bf_zret dX12_canFire_83 rfl rfl (Nat.le_refl _) (Nat.le_refl _) ⟨rfl, rfl⟩
          · have hf := (if_pos c30).symm.trans hf
            refine bf_iload_n 0 dX12_canFire_57 rfl rfl ?_
            refine bf_if_lt 82 dX12_canFire_58 (by decide) (fun c37 => ?_) (fun c37 => ?_)
            · have hf := (if_pos c37).symm.trans hf
              refine bf_iconst (v := 0) dX12_canFire_82 (by decide) ?_
              obtain rfl := Option.some.inj hf
              exact bf_zret dX12_canFire_83 rfl rfl (Nat.le_refl _) (Nat.le_refl _) ⟨rfl, rfl⟩
            · have hf := (if_neg c37).symm.trans hf
              refine bf_aload_n 1 dX12_canFire_61 rfl rfl ?_
              refine bf_iload_n 3 dX12_canFire_62 rfl rfl ?_
              obtain ⟨r39, e38, hf⟩ := bf_bind hf
              have hCe38 := ok_X12_from (Γ := Γ) (ad := ad) hv0 e38
              refine cv_X12_127 0 dX12_canFire_63 rfl ⟨Nat.le_of_ble_eq_true rfl, Nat.le_of_ble_eq_true rfl⟩ (Nat.le_of_ble_eq_true rfl) hv0 hCe38 ?_
              refine bf_iload_n 2 dX12_canFire_66 rfl rfl ?_
              refine bf_icmp_ne 84 dX12_canFire_67 (by decide) (fun c40 => ?_) (fun c40 => ?_)
              · have hf := (if_neg c40).symm.trans hf
                refine bf_iinc 3 (v := _ + (1 : Int32)) (lv2 := [(2, .int _), (3, .int _), (0, .ref _), (1, .int _)]) dX12_canFire_84 rfl (by rfl) (by decide) rfl ?_
                refine bf_goto 2 dX12_canFire_87 (by decide) ?_
                refine bf_perm [2, 3, 0] rfl ?_
                exact ih _ _ _ hf
              · have hf := (if_pos c40).symm.trans hf
                refine bf_iload_n 0 dX12_canFire_70 rfl rfl ?_
                refine bf_aload_n 1 dX12_canFire_71 rfl rfl ?_
                refine bf_iload_n 3 dX12_canFire_72 rfl rfl ?_
                obtain ⟨r42, e41, hf⟩ := bf_bind hf
                have hCe41 := ok_X12_puts (Γ := Γ) (ad := ad) hv0 e41
                refine cv_X12_130 0 dX12_canFire_73 rfl ⟨Nat.le_of_ble_eq_true rfl, Nat.le_of_ble_eq_true rfl⟩ (Nat.le_of_ble_eq_true rfl) hv0 hCe41 ?_
                refine bf_iadd dX12_canFire_76 ?_
                refine bf_bipush (v := 99) dX12_canFire_77 (by decide) ?_
                refine bf_icmp_le 84 dX12_canFire_79 (by decide) (fun c43 => ?_) (fun c43 => ?_)
                · have hf := (if_pos c43).symm.trans hf
                  refine bf_iinc 3 (v := _ + (1 : Int32)) (lv2 := [(2, .int _), (3, .int _), (0, .ref _), (1, .int _)]) dX12_canFire_84 rfl (by rfl) (by decide) rfl ?_
                  refine bf_goto 2 dX12_canFire_87 (by decide) ?_
                  refine bf_perm [2, 3, 0] rfl ?_
                  exact ih _ _ _ hf
                · have hf := (if_neg c43).symm.trans hf
                  refine bf_iconst (v := 0) dX12_canFire_82 (by decide) ?_
                  obtain rfl := Option.some.inj hf
                  exact bf_zret dX12_canFire_83 rfl rfl (Nat.le_refl _) (Nat.le_refl _) ⟨rfl, rfl⟩
      · have hf := (if_pos c4).symm.trans hf
        refine bf_goto 84 dX12_canFire_20 (by decide) ?_
        refine bf_iinc 2 (v := _ + (1 : Int32)) (lv2 := [(2, .int _), (0, .ref _), (1, .int _)]) dX12_canFire_84 rfl (by rfl) (by decide) rfl ?_
        refine bf_goto 2 dX12_canFire_87 (by decide) ?_
        refine bf_perm [1, 2, 0] rfl ?_
        exact ih _ _ _ hf
def f_X12_canFire (o : Nat) (a0 : Int32) (I : Nat → Nat → Int32) (L : Nat → Nat → Int64) : Option (Int32 × bf_St) :=
  (f_X12_canFire_2 o a0 (fun I44 L44 => (some ((1 : Int32), I44, L44))) 400 (0 : Int32) I L)
set_option maxRecDepth 100000 in
set_option maxHeartbeats 4000000 in
theorem ok_X12_canFire {Γ : bf_Gm} {ad : Nat → Nat} {o : Nat} {a0 : Int32} {I : Nat → Nat → Int32} {L : Nat → Nat → Int64} (hk : bf_kd o = 12) {r : Int32 × bf_St} (hf : f_X12_canFire o a0 I L = some r) : bf_Cn Γ 2 mu_X12_canFire 0 0 [.ref (ad o), .int a0] (bf_S ad I L) (fun q h => q = some (.int r.1) ∧ h = bf_S ad r.2.1 r.2.2) := by
  refine bf_met rfl (Nat.le_of_ble_eq_true rfl) ?_
  unfold f_X12_canFire at hf
  refine bf_iconst (v := 0) dX12_canFire_0 (by decide) ?_
  refine bf_istore_n (lv2 := [(2, .int _), (0, .ref _), (1, .int _)]) dX12_canFire_1 rfl (by decide) rfl ?_
  refine bf_perm [1, 2, 0] rfl ?_
  refine ok_X12_canFire_2 hk (fun I44 L44 hf => ?_) _ _ _ _  hf
  refine bf_iconst (v := 1) dX12_canFire_90 (by decide) ?_
  obtain rfl := Option.some.inj hf
  exact bf_zret dX12_canFire_91 rfl rfl (Nat.le_refl _) (Nat.le_refl _) ⟨rfl, rfl⟩
def f_X12_takesOff_14 (v0 : Nat) (v1 : Int32) (v2 : Int32) (v3 : Int32) (K : (Nat → Nat → Int32) → (Nat → Nat → Int64) → Option (bf_St)) : Nat → Int32 → (Nat → Nat → Int32) → (Nat → Nat → Int64) → Option (bf_St)
  | 0, _, _, _ => none
  | n + 1, v4, I, L =>
    (if v2 ≤ v4 then (K I L) else (if bf_ok (v3 + v4) 914 then (f_X12_takesOff_14 v0 v1 v2 v3 K n (v4 + (1 : Int32)) (bf_u (bf_u (bf_u (bf_u (bf_u I v0 9 ((I v0 9) + (I (v0 + 1) (v3 + v4).toNatClampNeg))) v0 12 (((bf_u I v0 9 ((I v0 9) + (I (v0 + 1) (v3 + v4).toNatClampNeg))) v0 12) * (I (v0 + 1) (v3 + v4).toNatClampNeg))) v0 11 (bf_max ((bf_u (bf_u I v0 9 ((I v0 9) + (I (v0 + 1) (v3 + v4).toNatClampNeg))) v0 12 (((bf_u I v0 9 ((I v0 9) + (I (v0 + 1) (v3 + v4).toNatClampNeg))) v0 12) * (I (v0 + 1) (v3 + v4).toNatClampNeg))) v0 11) (I (v0 + 1) (v3 + v4).toNatClampNeg))) v0 10 (I (v0 + 1) (v3 + v4).toNatClampNeg)) v0 13 (((bf_u (bf_u (bf_u (bf_u I v0 9 ((I v0 9) + (I (v0 + 1) (v3 + v4).toNatClampNeg))) v0 12 (((bf_u I v0 9 ((I v0 9) + (I (v0 + 1) (v3 + v4).toNatClampNeg))) v0 12) * (I (v0 + 1) (v3 + v4).toNatClampNeg))) v0 11 (bf_max ((bf_u (bf_u I v0 9 ((I v0 9) + (I (v0 + 1) (v3 + v4).toNatClampNeg))) v0 12 (((bf_u I v0 9 ((I v0 9) + (I (v0 + 1) (v3 + v4).toNatClampNeg))) v0 12) * (I (v0 + 1) (v3 + v4).toNatClampNeg))) v0 11) (I (v0 + 1) (v3 + v4).toNatClampNeg))) v0 10 (I (v0 + 1) (v3 + v4).toNatClampNeg)) v0 13) + (1 : Int32))) L) else none))
set_option maxRecDepth 100000 in
set_option maxHeartbeats 4000000 in
theorem ok_X12_takesOff_14 {Γ : bf_Gm} {ad : Nat → Nat} {v0 : Nat} {v1 : Int32} {v2 : Int32} {v3 : Int32} (hv0 : bf_kd v0 = 12) {r : bf_St} {K : (Nat → Nat → Int32) → (Nat → Nat → Int64) → Option (bf_St)} (hK : ∀ (I : Nat → Nat → Int32) (L : Nat → Nat → Int64), K  I L = some r → bf_Go Γ (bf_rm 1 0 0) mu_X12_takesOff bf_E0 (bf_Z Γ (fun q h => q = none ∧ h = bf_S ad r.1 r.2) 0 0) (0, 0) 88 [(0, .ref (ad v0)), (1, .int v1), (2, .int v2), (3, .int v3)] [] (bf_S ad I L)) : ∀ (n : Nat) (v4 : Int32) (I : Nat → Nat → Int32) (L : Nat → Nat → Int64), f_X12_takesOff_14 v0 v1 v2 v3 K n v4 I L = some r → bf_Go Γ (bf_rm 1 0 0) mu_X12_takesOff bf_E0 (bf_Z Γ (fun q h => q = none ∧ h = bf_S ad r.1 r.2) 0 0) (0, 0) 14 [(0, .ref (ad v0)), (1, .int v1), (2, .int v2), (3, .int v3), (4, .int v4)] [] (bf_S ad I L) := by
  intro n
  induction n with
  | zero => intro v4 I L hf; exact absurd (show none = some r from hf) (by simp)
  | succ n ih =>
    intro v4 I L hf
    rw [f_X12_takesOff_14] at hf
    refine bf_iload 4 dX12_takesOff_14 rfl ?_
    refine bf_iload_n 2 dX12_takesOff_16 rfl rfl ?_
    refine bf_icmp_ge 88 dX12_takesOff_17 (by decide) (fun c1 => ?_) (fun c1 => ?_)
    · have hf := (if_pos c1).symm.trans hf
      refine bf_perm [0, 1, 2, 3] rfl ?_
      exact hK _ _ hf
    · have hf := (if_neg c1).symm.trans hf
      refine bf_aload_n 0 dX12_takesOff_20 rfl rfl ?_
      refine fg_X12_11 dX12_takesOff_21 rfl hv0 ?_
      refine bf_iload_n 3 dX12_takesOff_24 rfl rfl ?_
      refine bf_iload 4 dX12_takesOff_25 rfl ?_
      refine bf_iadd dX12_takesOff_27 ?_
      rcases Decidable.em (bf_ok (v3 + v4) 914) with c2 | c2
      · have hf := (if_pos c2).symm.trans hf
        refine bf_iald dX12_takesOff_28 (kr_12_0 hv0) (by rw [(kl_12_0 hv0)]; exact c2) ?_
        refine bf_istore (lv2 := [(5, .int _), (0, .ref _), (1, .int _), (2, .int _), (3, .int _), (4, .int _)]) dX12_takesOff_29 (by decide) rfl ?_
        refine bf_aload_n 1 dX12_takesOff_31 rfl rfl ?_
        refine bf_dup dX12_takesOff_32 rfl ?_
        refine fg_X12_133 dX12_takesOff_33 rfl hv0 ?_
        refine bf_iload 0 dX12_takesOff_36 rfl ?_
        refine bf_iadd dX12_takesOff_38 ?_
        refine fp_X12_133 dX12_takesOff_39 rfl hv0 ?_
        refine bf_aload_n 1 dX12_takesOff_42 rfl rfl ?_
        refine bf_dup dX12_takesOff_43 rfl ?_
        refine fg_X12_136 dX12_takesOff_44 rfl hv0 ?_
        refine bf_iload 0 dX12_takesOff_47 rfl ?_
        refine bf_imul dX12_takesOff_49 ?_
        refine fp_X12_136 dX12_takesOff_50 rfl hv0 ?_
        refine bf_aload_n 1 dX12_takesOff_53 rfl rfl ?_
        refine bf_aload_n 1 dX12_takesOff_54 rfl rfl ?_
        refine fg_X12_139 dX12_takesOff_55 rfl hv0 ?_
        refine bf_iload 0 dX12_takesOff_58 rfl ?_
        refine bf_mmax dX12_takesOff_60 wl_X12_142 wt_Jmax wi_J9 wc_Jmax (Nat.le_of_ble_eq_true rfl) (Nat.le_of_ble_eq_true rfl) (Nat.zero_le _) (Nat.zero_le _) ?_
        refine fp_X12_139 dX12_takesOff_63 rfl hv0 ?_
        refine bf_aload_n 1 dX12_takesOff_66 rfl rfl ?_
        refine bf_iload 0 dX12_takesOff_67 rfl ?_
        refine fp_X12_148 dX12_takesOff_69 rfl hv0 ?_
        refine bf_aload_n 1 dX12_takesOff_72 rfl rfl ?_
        refine bf_dup dX12_takesOff_73 rfl ?_
        refine fg_X12_151 dX12_takesOff_74 rfl hv0 ?_
        refine bf_iconst (v := 1) dX12_takesOff_77 (by decide) ?_
        refine bf_iadd dX12_takesOff_78 ?_
        refine fp_X12_151 dX12_takesOff_79 rfl hv0 ?_
        refine bf_iinc 5 (v := _ + (1 : Int32)) (lv2 := [(4, .int _), (5, .int _), (0, .ref _), (1, .int _), (2, .int _), (3, .int _)]) dX12_takesOff_82 rfl (by rfl) (by decide) rfl ?_
        refine bf_goto 14 dX12_takesOff_85 (by decide) ?_
        refine bf_perm [2, 3, 4, 5, 0] rfl ?_
        exact ih _ _ _ hf
      · exact absurd ((if_neg c2).symm.trans hf) (by simp)
def f_X12_takesOff_98 (v0 : Nat) (v2 : Int32) (v3 : Int32) (v4 : Int32) (K : (Nat → Nat → Int32) → (Nat → Nat → Int64) → Option (bf_St)) : Nat → Int32 → (Nat → Nat → Int32) → (Nat → Nat → Int64) → Option (bf_St)
  | 0, _, _, _ => none
  | n + 1, v5, I, L =>
    (if v4 ≤ v5 then (K I L) else (if bf_ok (v3 + v5) 914 then (if bf_ok ((v3 + v5) - v2) 914 then (f_X12_takesOff_98 v0 v2 v3 v4 K n (v5 + (1 : Int32)) (bf_u I (v0 + 1) ((v3 + v5) - v2).toNatClampNeg (I (v0 + 1) (v3 + v5).toNatClampNeg)) L) else none) else none))
set_option maxRecDepth 100000 in
set_option maxHeartbeats 4000000 in
theorem ok_X12_takesOff_98 {Γ : bf_Gm} {ad : Nat → Nat} {v0 : Nat} {v2 : Int32} {v3 : Int32} {v4 : Int32} (hv0 : bf_kd v0 = 12) {r : bf_St} {K : (Nat → Nat → Int32) → (Nat → Nat → Int64) → Option (bf_St)} (hK : ∀ (I : Nat → Nat → Int32) (L : Nat → Nat → Int64), K  I L = some r → bf_Go Γ (bf_rm 1 0 0) mu_X12_takesOff bf_E0 (bf_Z Γ (fun q h => q = none ∧ h = bf_S ad r.1 r.2) 0 0) (0, 0) 131 [(0, .ref (ad v0)), (2, .int v2), (3, .int v3), (4, .int v4)] [] (bf_S ad I L)) : ∀ (n : Nat) (v5 : Int32) (I : Nat → Nat → Int32) (L : Nat → Nat → Int64), f_X12_takesOff_98 v0 v2 v3 v4 K n v5 I L = some r → bf_Go Γ (bf_rm 1 0 0) mu_X12_takesOff bf_E0 (bf_Z Γ (fun q h => q = none ∧ h = bf_S ad r.1 r.2) 0 0) (0, 0) 98 [(0, .ref (ad v0)), (2, .int v2), (3, .int v3), (4, .int v4), (5, .int v5)] [] (bf_S ad I L) := by
  intro n
  induction n with
  | zero => intro v5 I L hf; exact absurd (show none = some r from hf) (by simp)
  | succ n ih =>
    intro v5 I L hf
    rw [f_X12_takesOff_98] at hf
    refine bf_iload 4 dX12_takesOff_98 rfl ?_
    refine bf_iload 3 dX12_takesOff_100 rfl ?_
    refine bf_icmp_ge 131 dX12_takesOff_102 (by decide) (fun c6 => ?_) (fun c6 => ?_)
    · have hf := (if_pos c6).symm.trans hf
      refine bf_perm [0, 1, 2, 3] rfl ?_
      exact hK _ _ hf
    · have hf := (if_neg c6).symm.trans hf
      refine bf_aload_n 0 dX12_takesOff_105 rfl rfl ?_
      refine fg_X12_11 dX12_takesOff_106 rfl hv0 ?_
      refine bf_iload_n 2 dX12_takesOff_109 rfl rfl ?_
      refine bf_iload 4 dX12_takesOff_110 rfl ?_
      refine bf_iadd dX12_takesOff_112 ?_
      refine bf_iload_n 1 dX12_takesOff_113 rfl rfl ?_
      refine bf_isub dX12_takesOff_114 ?_
      refine bf_aload_n 0 dX12_takesOff_115 rfl rfl ?_
      refine fg_X12_11 dX12_takesOff_116 rfl hv0 ?_
      refine bf_iload_n 2 dX12_takesOff_119 rfl rfl ?_
      refine bf_iload 4 dX12_takesOff_120 rfl ?_
      refine bf_iadd dX12_takesOff_122 ?_
      rcases Decidable.em (bf_ok (v3 + v5) 914) with c7 | c7
      · have hf := (if_pos c7).symm.trans hf
        refine bf_iald dX12_takesOff_123 (kr_12_0 hv0) (by rw [(kl_12_0 hv0)]; exact c7) ?_
        rcases Decidable.em (bf_ok ((v3 + v5) - v2) 914) with c8 | c8
        · have hf := (if_pos c8).symm.trans hf
          refine bf_iast dX12_takesOff_124 (kr_12_0 hv0) (by rw [(kl_12_0 hv0)]; exact c8) ?_
          refine bf_iinc 4 (v := _ + (1 : Int32)) (lv2 := [(5, .int _), (0, .ref _), (2, .int _), (3, .int _), (4, .int _)]) dX12_takesOff_125 rfl (by rfl) (by decide) rfl ?_
          refine bf_goto 98 dX12_takesOff_128 (by decide) ?_
          refine bf_perm [1, 2, 3, 4, 0] rfl ?_
          exact ih _ _ _ hf
        · exact absurd ((if_neg c8).symm.trans hf) (by simp)
      · exact absurd ((if_neg c7).symm.trans hf) (by simp)
def f_X12_takesOff_p131 (v0 : Nat) (v2 : Int32) (v3 : Int32) (v4 : Int32) (I : Nat → Nat → Int32) (L : Nat → Nat → Int64) : Option (bf_St) :=
  (if bf_ok (v3 - (1 : Int32)) 914 then (some ((bf_u I (v0 + 1) (v3 - (1 : Int32)).toNatClampNeg (v4 - v2)), L)) else none)
set_option maxRecDepth 100000 in
set_option maxHeartbeats 4000000 in
theorem ok_X12_takesOff_p131 {Γ : bf_Gm} {ad : Nat → Nat} {v0 : Nat} {v2 : Int32} {v3 : Int32} {v4 : Int32} {I : Nat → Nat → Int32} {L : Nat → Nat → Int64} (hv0 : bf_kd v0 = 12) {r : bf_St} (hf : f_X12_takesOff_p131 v0 v2 v3 v4 I L = some r) : bf_Go Γ (bf_rm 1 0 0) mu_X12_takesOff bf_E0 (bf_Z Γ (fun q h => q = none ∧ h = bf_S ad r.1 r.2) 0 0) (0, 0) 131 [(0, .ref (ad v0)), (2, .int v2), (3, .int v3), (4, .int v4)] [] (bf_S ad I L) := by
  unfold f_X12_takesOff_p131 at hf
  refine bf_aload_n 0 dX12_takesOff_131 rfl rfl ?_
  refine fg_X12_11 dX12_takesOff_132 rfl hv0 ?_
  refine bf_iload_n 2 dX12_takesOff_135 rfl rfl ?_
  refine bf_iconst (v := 1) dX12_takesOff_136 (by decide) ?_
  refine bf_isub dX12_takesOff_137 ?_
  refine bf_iload 3 dX12_takesOff_138 rfl ?_
  refine bf_iload_n 1 dX12_takesOff_140 rfl rfl ?_
  refine bf_isub dX12_takesOff_141 ?_
  rcases Decidable.em (bf_ok (v3 - (1 : Int32)) 914) with c10 | c10
  · have hf := (if_pos c10).symm.trans hf
    refine bf_iast dX12_takesOff_142 (kr_12_0 hv0) (by rw [(kl_12_0 hv0)]; exact c10) ?_
    obtain rfl := Option.some.inj hf
    exact bf_vret dX12_takesOff_143 rfl (Nat.le_refl _) (Nat.le_refl _) ⟨rfl, rfl⟩
  · exact absurd ((if_neg c10).symm.trans hf) (by simp)
def f_X12_takesOff_p88 (v0 : Nat) (v1 : Int32) (v2 : Int32) (v3 : Int32) (I : Nat → Nat → Int32) (L : Nat → Nat → Int64) : Option (bf_St) :=
  ((f_X12_tokens v0 v1 I L).bind (fun r5 => (f_X12_takesOff_98 v0 v2 v3 r5.1 (fun I9 L9 => (f_X12_takesOff_p131 v0 v2 v3 r5.1 I9 L9)) 400 v2 r5.2.1 r5.2.2)))
set_option maxRecDepth 100000 in
set_option maxHeartbeats 4000000 in
theorem ok_X12_takesOff_p88 {Γ : bf_Gm} {ad : Nat → Nat} {v0 : Nat} {v1 : Int32} {v2 : Int32} {v3 : Int32} {I : Nat → Nat → Int32} {L : Nat → Nat → Int64} (hv0 : bf_kd v0 = 12) {r : bf_St} (hf : f_X12_takesOff_p88 v0 v1 v2 v3 I L = some r) : bf_Go Γ (bf_rm 1 0 0) mu_X12_takesOff bf_E0 (bf_Z Γ (fun q h => q = none ∧ h = bf_S ad r.1 r.2) 0 0) (0, 0) 88 [(0, .ref (ad v0)), (1, .int v1), (2, .int v2), (3, .int v3)] [] (bf_S ad I L) := by
  unfold f_X12_takesOff_p88 at hf
  refine bf_aload_n 0 dX12_takesOff_88 rfl rfl ?_
  refine bf_iload_n 1 dX12_takesOff_89 rfl rfl ?_
  obtain ⟨r5, e4, hf⟩ := bf_bind hf
  have hCe4 := ok_X12_tokens (Γ := Γ) (ad := ad) hv0 e4
  refine cv_X12_76 0 dX12_takesOff_90 rfl ⟨Nat.le_of_ble_eq_true rfl, Nat.le_of_ble_eq_true rfl⟩ (Nat.le_of_ble_eq_true rfl) hv0 hCe4 ?_
  refine bf_istore (lv2 := [(4, .int _), (0, .ref _), (1, .int _), (2, .int _), (3, .int _)]) dX12_takesOff_93 (by decide) rfl ?_
  refine bf_iload_n 3 dX12_takesOff_95 rfl rfl ?_
  refine bf_istore (lv2 := [(5, .int _), (4, .int _), (0, .ref _), (1, .int _), (2, .int _), (3, .int _)]) dX12_takesOff_96 (by decide) rfl ?_
  refine bf_perm [2, 4, 5, 1, 0] rfl ?_
  refine ok_X12_takesOff_98 hv0 (fun I9 L9 hf => ?_) _ _ _ _  hf
  exact ok_X12_takesOff_p131 hv0  hf
def f_X12_takesOff (o : Nat) (a0 : Int32) (a1 : Int32) (I : Nat → Nat → Int32) (L : Nat → Nat → Int64) : Option (bf_St) :=
  (f_X12_takesOff_14 o a0 a1 (((74 : Int32) + ((105 : Int32) * a0)) + (6 : Int32)) (fun I3 L3 => (f_X12_takesOff_p88 o a0 a1 (((74 : Int32) + ((105 : Int32) * a0)) + (6 : Int32)) I3 L3)) 400 (0 : Int32) I L)
set_option maxRecDepth 100000 in
set_option maxHeartbeats 4000000 in
theorem ok_X12_takesOff {Γ : bf_Gm} {ad : Nat → Nat} {o : Nat} {a0 : Int32} {a1 : Int32} {I : Nat → Nat → Int32} {L : Nat → Nat → Int64} (hk : bf_kd o = 12) {r : bf_St} (hf : f_X12_takesOff o a0 a1 I L = some r) : bf_Cn Γ 1 mu_X12_takesOff 0 0 [.ref (ad o), .int a0, .int a1] (bf_S ad I L) (fun q h => q = none ∧ h = bf_S ad r.1 r.2) := by
  refine bf_met rfl (Nat.le_of_ble_eq_true rfl) ?_
  unfold f_X12_takesOff at hf
  refine bf_bipush (v := 74) dX12_takesOff_0 (by decide) ?_
  refine bf_bipush (v := 105) dX12_takesOff_2 (by decide) ?_
  refine bf_iload_n 1 dX12_takesOff_4 rfl rfl ?_
  refine bf_imul dX12_takesOff_5 ?_
  refine bf_iadd dX12_takesOff_6 ?_
  refine bf_bipush (v := 6) dX12_takesOff_7 (by decide) ?_
  refine bf_iadd dX12_takesOff_9 ?_
  refine bf_istore_n (lv2 := [(3, .int _), (0, .ref _), (1, .int _), (2, .int _)]) dX12_takesOff_10 rfl (by decide) rfl ?_
  refine bf_iconst (v := 0) dX12_takesOff_11 (by decide) ?_
  refine bf_istore (lv2 := [(4, .int _), (3, .int _), (0, .ref _), (1, .int _), (2, .int _)]) dX12_takesOff_12 (by decide) rfl ?_
  refine bf_perm [2, 3, 4, 1, 0] rfl ?_
  refine ok_X12_takesOff_14 hk (fun I3 L3 hf => ?_) _ _ _ _  hf
  exact ok_X12_takesOff_p88 hk  hf
def f_X12_put (a0 : Int32) (a1 : Int32) (a2 : Int32) (a3 : Int32) (I : Nat → Nat → Int32) (L : Nat → Nat → Int64) : Option (Int32 × bf_St) :=
  (if a0 = 0 then (some ((a1 + a3), I, L)) else (if a0 = 1 then (some (a1, I, L)) else (if a0 = 2 then (some ((a1 - a3), I, L)) else (if a0 = 3 then (if (a3 - a3 / (2 : Int32) * (2 : Int32)) = 0 then (some (a1, I, L)) else (some (a2, I, L))) else (if a0 = 4 then (some ((a1 * (a3 + (1 : Int32))), I, L)) else (some (a1, I, L)))))))
set_option maxRecDepth 100000 in
set_option maxHeartbeats 4000000 in
theorem ok_X12_put {Γ : bf_Gm} {ad : Nat → Nat} {a0 : Int32} {a1 : Int32} {a2 : Int32} {a3 : Int32} {I : Nat → Nat → Int32} {L : Nat → Nat → Int64} {r : Int32 × bf_St} (hf : f_X12_put a0 a1 a2 a3 I L = some r) : bf_Cn Γ 0 mu_X12_put 0 0 [.int a0, .int a1, .int a2, .int a3] (bf_S ad I L) (fun q h => q = some (.int r.1) ∧ h = bf_S ad r.2.1 r.2.2) := by
  refine bf_met rfl (Nat.le_of_ble_eq_true rfl) ?_
  unfold f_X12_put at hf
  refine bf_iload_n 0 dX12_put_0 rfl rfl ?_
  rcases Decidable.em (a0 = 0) with c1 | c1
  · have hf := (if_pos c1).symm.trans hf
    refine bf_swIn 36 dX12_put_1 (by rw [c1]; decide) (by rw [c1]; decide) (by rw [c1]; rfl) (by decide) ?_
    refine bf_iload_n 1 dX12_put_36 rfl rfl ?_
    refine bf_iload_n 3 dX12_put_37 rfl rfl ?_
    refine bf_iadd dX12_put_38 ?_
    obtain rfl := Option.some.inj hf
    exact bf_iret dX12_put_39 rfl (Nat.le_refl _) (Nat.le_refl _) ⟨rfl, rfl⟩
  · have hf := (if_neg c1).symm.trans hf
    rcases Decidable.em (a0 = 1) with c2 | c2
    · have hf := (if_pos c2).symm.trans hf
      refine bf_swIn 62 dX12_put_1 (by rw [c2]; decide) (by rw [c2]; decide) (by rw [c2]; rfl) (by decide) ?_
      refine bf_iload_n 1 dX12_put_62 rfl rfl ?_
      obtain rfl := Option.some.inj hf
      exact bf_iret dX12_put_63 rfl (Nat.le_refl _) (Nat.le_refl _) ⟨rfl, rfl⟩
    · have hf := (if_neg c2).symm.trans hf
      rcases Decidable.em (a0 = 2) with c3 | c3
      · have hf := (if_pos c3).symm.trans hf
        refine bf_swIn 40 dX12_put_1 (by rw [c3]; decide) (by rw [c3]; decide) (by rw [c3]; rfl) (by decide) ?_
        refine bf_iload_n 1 dX12_put_40 rfl rfl ?_
        refine bf_iload_n 3 dX12_put_41 rfl rfl ?_
        refine bf_isub dX12_put_42 ?_
        obtain rfl := Option.some.inj hf
        exact bf_iret dX12_put_43 rfl (Nat.le_refl _) (Nat.le_refl _) ⟨rfl, rfl⟩
      · have hf := (if_neg c3).symm.trans hf
        rcases Decidable.em (a0 = 3) with c4 | c4
        · have hf := (if_pos c4).symm.trans hf
          refine bf_swIn 44 dX12_put_1 (by rw [c4]; decide) (by rw [c4]; decide) (by rw [c4]; rfl) (by decide) ?_
          refine bf_iload_n 3 dX12_put_44 rfl rfl ?_
          refine bf_iconst (v := 2) dX12_put_45 (by decide) ?_
          refine bf_irem dX12_put_46 (by decide) ?_
          refine bf_if_ne 54 dX12_put_47 (by decide) (fun c5 => ?_) (fun c5 => ?_)
          · have hf := (if_neg c5).symm.trans hf
            refine bf_iload_n 2 dX12_put_54 rfl rfl ?_
            obtain rfl := Option.some.inj hf
            exact bf_iret dX12_put_55 rfl (Nat.le_refl _) (Nat.le_refl _) ⟨rfl, rfl⟩
          · have hf := (if_pos c5).symm.trans hf
            refine bf_iload_n 1 dX12_put_50 rfl rfl ?_
            refine bf_goto 55 dX12_put_51 (by decide) ?_
            obtain rfl := Option.some.inj hf
            exact bf_iret dX12_put_55 rfl (Nat.le_refl _) (Nat.le_refl _) ⟨rfl, rfl⟩
        · have hf := (if_neg c4).symm.trans hf
          rcases Decidable.em (a0 = 4) with c6 | c6
          · have hf := (if_pos c6).symm.trans hf
            refine bf_swIn 56 dX12_put_1 (by rw [c6]; decide) (by rw [c6]; decide) (by rw [c6]; rfl) (by decide) ?_
            refine bf_iload_n 1 dX12_put_56 rfl rfl ?_
            refine bf_iload_n 3 dX12_put_57 rfl rfl ?_
            refine bf_iconst (v := 1) dX12_put_58 (by decide) ?_
            refine bf_iadd dX12_put_59 ?_
            refine bf_imul dX12_put_60 ?_
            obtain rfl := Option.some.inj hf
            exact bf_iret dX12_put_61 rfl (Nat.le_refl _) (Nat.le_refl _) ⟨rfl, rfl⟩
          · have hf := (if_neg c6).symm.trans hf
            have c1 : _ ≠ (0 : Int) := bf_nne c1
            have c2 : _ ≠ (1 : Int) := bf_nne c2
            have c3 : _ ≠ (2 : Int) := bf_nne c3
            have c4 : _ ≠ (3 : Int) := bf_nne c4
            have c6 : _ ≠ (4 : Int) := bf_nne c6
            refine bf_swOut 62 dX12_put_1 (by omega) (by decide) ?_
            refine bf_iload_n 1 dX12_put_62 rfl rfl ?_
            obtain rfl := Option.some.inj hf
            exact bf_iret dX12_put_63 rfl (Nat.le_refl _) (Nat.le_refl _) ⟨rfl, rfl⟩
def f_X12_fires_52 (v0 : Nat) (v1 : Int32) (v2 : Int32) (v3 : Int32) (K : (Nat → Nat → Int32) → (Nat → Nat → Int64) → Option (Int32 × bf_St)) : Nat → Int32 → (Nat → Nat → Int32) → (Nat → Nat → Int64) → Option (Int32 × bf_St)
  | 0, _, _, _ => none
  | n + 1, v4, I, L =>
    (if (I (v0 + 1) (1 : Int32).toNatClampNeg) ≤ v4 then (K I L) else ((f_X12_isWire v0 v4 I L).bind (fun r5 => (if r5.1 = 0 then (f_X12_fires_52 v0 v1 v2 v3 K n (v4 + (1 : Int32)) r5.2.1 r5.2.2) else ((f_X12_to v0 v4 r5.2.1 r5.2.2).bind (fun r8 => (if r8.1 = v1 then ((f_X12_takes v0 v4 r8.2.1 r8.2.2).bind (fun r11 => ((f_X12_takesOff v0 v4 r11.1 r11.2.1 r11.2.2).bind (fun r13 => (f_X12_fires_52 v0 v1 v2 v3 K n (v4 + (1 : Int32)) r13.1 r13.2))))) else (f_X12_fires_52 v0 v1 v2 v3 K n (v4 + (1 : Int32)) r8.2.1 r8.2.2))))))))
set_option maxRecDepth 100000 in
set_option maxHeartbeats 4000000 in
theorem ok_X12_fires_52 {Γ : bf_Gm} {ad : Nat → Nat} {v0 : Nat} {v1 : Int32} {v2 : Int32} {v3 : Int32} (hv0 : bf_kd v0 = 12) {r : Int32 × bf_St} {K : (Nat → Nat → Int32) → (Nat → Nat → Int64) → Option (Int32 × bf_St)} (hK : ∀ (I : Nat → Nat → Int32) (L : Nat → Nat → Int64), K  I L = some r → bf_Go Γ (bf_rm 2 0 0) mu_X12_fires bf_E0 (bf_Z Γ (fun q h => q = some (.int r.1) ∧ h = bf_S ad r.2.1 r.2.2) 0 0) (0, 0) 100 [(0, .ref (ad v0)), (1, .int v1), (2, .int v2), (3, .int v3)] [] (bf_S ad I L)) : ∀ (n : Nat) (v4 : Int32) (I : Nat → Nat → Int32) (L : Nat → Nat → Int64), f_X12_fires_52 v0 v1 v2 v3 K n v4 I L = some r → bf_Go Γ (bf_rm 2 0 0) mu_X12_fires bf_E0 (bf_Z Γ (fun q h => q = some (.int r.1) ∧ h = bf_S ad r.2.1 r.2.2) 0 0) (0, 0) 52 [(0, .ref (ad v0)), (1, .int v1), (2, .int v2), (3, .int v3), (4, .int v4)] [] (bf_S ad I L) := by
  intro n
  induction n with
  | zero => intro v4 I L hf; exact absurd (show none = some r from hf) (by simp)
  | succ n ih =>
    intro v4 I L hf
    rw [f_X12_fires_52] at hf
    refine bf_iload 4 dX12_fires_52 rfl ?_
    refine bf_aload_n 0 dX12_fires_54 rfl rfl ?_
    refine fg_X12_11 dX12_fires_55 rfl hv0 ?_
    refine bf_iconst (v := 1) dX12_fires_58 (by decide) ?_
    refine bf_iald dX12_fires_59 (kr_12_0 hv0) (by rw [(kl_12_0 hv0)]; decide) ?_
    refine bf_icmp_ge 100 dX12_fires_60 (by decide) (fun c3 => ?_) (fun c3 => ?_)
    · have hf := (if_pos c3).symm.trans hf
      refine bf_perm [0, 1, 2, 3] rfl ?_
      exact hK _ _ hf
    · have hf := (if_neg c3).symm.trans hf
      refine bf_aload_n 0 dX12_fires_63 rfl rfl ?_
      refine bf_iload 4 dX12_fires_64 rfl ?_
      obtain ⟨r5, e4, hf⟩ := bf_bind hf
      have hCe4 := ok_X12_isWire (Γ := Γ) (ad := ad) hv0 e4
      refine cv_X12_73 1 dX12_fires_66 rfl ⟨Nat.le_of_ble_eq_true rfl, Nat.le_of_ble_eq_true rfl⟩ (Nat.le_of_ble_eq_true rfl) hv0 hCe4 ?_
      refine bf_if_eq 94 dX12_fires_69 (by decide) (fun c6 => ?_) (fun c6 => ?_)
      · have hf := (if_pos c6).symm.trans hf
        refine bf_iinc 4 (v := _ + (1 : Int32)) (lv2 := [(4, .int _), (0, .ref _), (1, .int _), (2, .int _), (3, .int _)]) dX12_fires_94 rfl (by rfl) (by decide) rfl ?_
        refine bf_goto 52 dX12_fires_97 (by decide) ?_
        refine bf_perm [1, 2, 3, 4, 0] rfl ?_
        exact ih _ _ _ hf
      · have hf := (if_neg c6).symm.trans hf
        refine bf_aload_n 0 dX12_fires_72 rfl rfl ?_
        refine bf_iload 4 dX12_fires_73 rfl ?_
        obtain ⟨r8, e7, hf⟩ := bf_bind hf
        have hCe7 := ok_X12_to (Γ := Γ) (ad := ad) hv0 e7
        refine cv_X12_121 0 dX12_fires_75 rfl ⟨Nat.le_of_ble_eq_true rfl, Nat.le_of_ble_eq_true rfl⟩ (Nat.le_of_ble_eq_true rfl) hv0 hCe7 ?_
        refine bf_iload_n 1 dX12_fires_78 rfl rfl ?_
        refine bf_icmp_ne 94 dX12_fires_79 (by decide) (fun c9 => ?_) (fun c9 => ?_)
        · have hf := (if_neg c9).symm.trans hf
          refine bf_iinc 4 (v := _ + (1 : Int32)) (lv2 := [(4, .int _), (0, .ref _), (1, .int _), (2, .int _), (3, .int _)]) dX12_fires_94 rfl (by rfl) (by decide) rfl ?_
          refine bf_goto 52 dX12_fires_97 (by decide) ?_
          refine bf_perm [1, 2, 3, 4, 0] rfl ?_
          exact ih _ _ _ hf
        · have hf := (if_pos c9).symm.trans hf
          refine bf_aload_n 0 dX12_fires_82 rfl rfl ?_
          refine bf_iload 4 dX12_fires_83 rfl ?_
          refine bf_aload_n 0 dX12_fires_85 rfl rfl ?_
          refine bf_iload 4 dX12_fires_86 rfl ?_
          obtain ⟨r11, e10, hf⟩ := bf_bind hf
          have hCe10 := ok_X12_takes (Γ := Γ) (ad := ad) hv0 e10
          refine cv_X12_124 0 dX12_fires_88 rfl ⟨Nat.le_of_ble_eq_true rfl, Nat.le_of_ble_eq_true rfl⟩ (Nat.le_of_ble_eq_true rfl) hv0 hCe10 ?_
          obtain ⟨r13, e12, hf⟩ := bf_bind hf
          have hCe12 := ok_X12_takesOff (Γ := Γ) (ad := ad) hv0 e12
          refine cv_X12_154 1 dX12_fires_91 rfl ⟨Nat.le_of_ble_eq_true rfl, Nat.le_of_ble_eq_true rfl⟩ (Nat.le_of_ble_eq_true rfl) hv0 hCe12 ?_
          refine bf_iinc 4 (v := _ + (1 : Int32)) (lv2 := [(4, .int _), (0, .ref _), (1, .int _), (2, .int _), (3, .int _)]) dX12_fires_94 rfl (by rfl) (by decide) rfl ?_
          refine bf_goto 52 dX12_fires_97 (by decide) ?_
          refine bf_perm [1, 2, 3, 4, 0] rfl ?_
          exact ih _ _ _ hf
def f_X12_fires_206 (v0 : Nat) (v1 : Int32) (v2 : Int32) (v3 : Int32) (v4 : Int32) (v5 : Int32) (K : (Nat → Nat → Int32) → (Nat → Nat → Int64) → Option (Int32 × bf_St)) : Nat → Int32 → (Nat → Nat → Int32) → (Nat → Nat → Int64) → Option (Int32 × bf_St)
  | 0, _, _, _ => none
  | n + 1, v6, I, L =>
    ((f_X12_puts v0 v5 I L).bind (fun r28 => (if r28.1 ≤ v6 then (K r28.2.1 r28.2.2) else ((f_X12_put v2 v4 v3 v6 r28.2.1 r28.2.2).bind (fun r31 => ((f_X12_comes v0 v5 r31.1 r31.2.1 r31.2.2).bind (fun r33 => (f_X12_fires_206 v0 v1 v2 v3 v4 v5 K n (v6 + (1 : Int32)) r33.1 r33.2))))))))
set_option maxRecDepth 100000 in
set_option maxHeartbeats 4000000 in
theorem ok_X12_fires_206 {Γ : bf_Gm} {ad : Nat → Nat} {v0 : Nat} {v1 : Int32} {v2 : Int32} {v3 : Int32} {v4 : Int32} {v5 : Int32} (hv0 : bf_kd v0 = 12) {r : Int32 × bf_St} {K : (Nat → Nat → Int32) → (Nat → Nat → Int64) → Option (Int32 × bf_St)} (hK : ∀ (I : Nat → Nat → Int32) (L : Nat → Nat → Int64), K  I L = some r → bf_Go Γ (bf_rm 2 0 0) mu_X12_fires bf_E0 (bf_Z Γ (fun q h => q = some (.int r.1) ∧ h = bf_S ad r.2.1 r.2.2) 0 0) (0, 0) 238 [(0, .ref (ad v0)), (1, .int v1), (2, .int v2), (3, .int v3), (4, .int v4), (5, .int v5)] [] (bf_S ad I L)) : ∀ (n : Nat) (v6 : Int32) (I : Nat → Nat → Int32) (L : Nat → Nat → Int64), f_X12_fires_206 v0 v1 v2 v3 v4 v5 K n v6 I L = some r → bf_Go Γ (bf_rm 2 0 0) mu_X12_fires bf_E0 (bf_Z Γ (fun q h => q = some (.int r.1) ∧ h = bf_S ad r.2.1 r.2.2) 0 0) (0, 0) 206 [(0, .ref (ad v0)), (1, .int v1), (2, .int v2), (3, .int v3), (4, .int v4), (5, .int v5), (6, .int v6)] [] (bf_S ad I L) := by
  intro n
  induction n with
  | zero => intro v6 I L hf; exact absurd (show none = some r from hf) (by simp)
  | succ n ih =>
    intro v6 I L hf
    rw [f_X12_fires_206] at hf
    refine bf_iload 6 dX12_fires_206 rfl ?_
    refine bf_aload_n 0 dX12_fires_208 rfl rfl ?_
    refine bf_iload 5 dX12_fires_209 rfl ?_
    obtain ⟨r28, e27, hf⟩ := bf_bind hf
    have hCe27 := ok_X12_puts (Γ := Γ) (ad := ad) hv0 e27
    refine cv_X12_130 0 dX12_fires_211 rfl ⟨Nat.le_of_ble_eq_true rfl, Nat.le_of_ble_eq_true rfl⟩ (Nat.le_of_ble_eq_true rfl) hv0 hCe27 ?_
    refine bf_icmp_ge 238 dX12_fires_214 (by decide) (fun c29 => ?_) (fun c29 => ?_)
    · have hf := (if_pos c29).symm.trans hf
      refine bf_perm [0, 1, 2, 3, 4, 5] rfl ?_
      exact hK _ _ hf
    · have hf := (if_neg c29).symm.trans hf
      refine bf_aload_n 0 dX12_fires_217 rfl rfl ?_
      refine bf_iload 5 dX12_fires_218 rfl ?_
      refine bf_iload_n 2 dX12_fires_220 rfl rfl ?_
      refine bf_iload 4 dX12_fires_221 rfl ?_
      refine bf_iload_n 3 dX12_fires_223 rfl rfl ?_
      refine bf_iload 6 dX12_fires_224 rfl ?_
      obtain ⟨r31, e30, hf⟩ := bf_bind hf
      have hCe30 := ok_X12_put (Γ := Γ) (ad := ad)  e30
      refine cv_X12_157 0 dX12_fires_226 rfl ⟨Nat.le_of_ble_eq_true rfl, Nat.le_of_ble_eq_true rfl⟩ (Nat.le_of_ble_eq_true rfl) hCe30 ?_
      obtain ⟨r33, e32, hf⟩ := bf_bind hf
      have hCe32 := ok_X12_comes (Γ := Γ) (ad := ad) hv0 e32
      refine cv_X12_80 0 dX12_fires_229 rfl ⟨Nat.le_of_ble_eq_true rfl, Nat.le_of_ble_eq_true rfl⟩ (Nat.le_of_ble_eq_true rfl) hv0 hCe32 ?_
      refine bf_iinc 6 (v := _ + (1 : Int32)) (lv2 := [(6, .int _), (0, .ref _), (1, .int _), (2, .int _), (3, .int _), (4, .int _), (5, .int _)]) dX12_fires_232 rfl (by rfl) (by decide) rfl ?_
      refine bf_goto 206 dX12_fires_235 (by decide) ?_
      refine bf_perm [1, 2, 3, 4, 5, 6, 0] rfl ?_
      exact ih _ _ _ hf
def f_X12_fires_173 (v0 : Nat) (v1 : Int32) (v2 : Int32) (v3 : Int32) (v4 : Int32) (K : (Nat → Nat → Int32) → (Nat → Nat → Int64) → Option (Int32 × bf_St)) : Nat → Int32 → (Nat → Nat → Int32) → (Nat → Nat → Int64) → Option (Int32 × bf_St)
  | 0, _, _, _ => none
  | n + 1, v5, I, L =>
    (if (I (v0 + 1) (1 : Int32).toNatClampNeg) ≤ v5 then (K I L) else ((f_X12_isWire v0 v5 I L).bind (fun r22 => (if r22.1 = 0 then (f_X12_fires_173 v0 v1 v2 v3 v4 K n (v5 + (1 : Int32)) r22.2.1 r22.2.2) else ((f_X12_from v0 v5 r22.2.1 r22.2.2).bind (fun r25 => (if r25.1 = v1 then (f_X12_fires_206 v0 v1 v2 v3 v4 v5 (fun I34 L34 => (f_X12_fires_173 v0 v1 v2 v3 v4 K n (v5 + (1 : Int32)) I34 L34)) 400 (0 : Int32) r25.2.1 r25.2.2) else (f_X12_fires_173 v0 v1 v2 v3 v4 K n (v5 + (1 : Int32)) r25.2.1 r25.2.2))))))))
set_option maxRecDepth 100000 in
set_option maxHeartbeats 4000000 in
theorem ok_X12_fires_173 {Γ : bf_Gm} {ad : Nat → Nat} {v0 : Nat} {v1 : Int32} {v2 : Int32} {v3 : Int32} {v4 : Int32} (hv0 : bf_kd v0 = 12) {r : Int32 × bf_St} {K : (Nat → Nat → Int32) → (Nat → Nat → Int64) → Option (Int32 × bf_St)} (hK : ∀ (I : Nat → Nat → Int32) (L : Nat → Nat → Int64), K  I L = some r → bf_Go Γ (bf_rm 2 0 0) mu_X12_fires bf_E0 (bf_Z Γ (fun q h => q = some (.int r.1) ∧ h = bf_S ad r.2.1 r.2.2) 0 0) (0, 0) 244 [(0, .ref (ad v0)), (1, .int v1), (4, .int v4)] [] (bf_S ad I L)) : ∀ (n : Nat) (v5 : Int32) (I : Nat → Nat → Int32) (L : Nat → Nat → Int64), f_X12_fires_173 v0 v1 v2 v3 v4 K n v5 I L = some r → bf_Go Γ (bf_rm 2 0 0) mu_X12_fires bf_E0 (bf_Z Γ (fun q h => q = some (.int r.1) ∧ h = bf_S ad r.2.1 r.2.2) 0 0) (0, 0) 173 [(0, .ref (ad v0)), (1, .int v1), (2, .int v2), (3, .int v3), (4, .int v4), (5, .int v5)] [] (bf_S ad I L) := by
  intro n
  induction n with
  | zero => intro v5 I L hf; exact absurd (show none = some r from hf) (by simp)
  | succ n ih =>
    intro v5 I L hf
    rw [f_X12_fires_173] at hf
    refine bf_iload 5 dX12_fires_173 rfl ?_
    refine bf_aload_n 0 dX12_fires_175 rfl rfl ?_
    refine fg_X12_11 dX12_fires_176 rfl hv0 ?_
    refine bf_iconst (v := 1) dX12_fires_179 (by decide) ?_
    refine bf_iald dX12_fires_180 (kr_12_0 hv0) (by rw [(kl_12_0 hv0)]; decide) ?_
    refine bf_icmp_ge 244 dX12_fires_181 (by decide) (fun c20 => ?_) (fun c20 => ?_)
    · have hf := (if_pos c20).symm.trans hf
      refine bf_perm [0, 1, 4] rfl ?_
      exact hK _ _ hf
    · have hf := (if_neg c20).symm.trans hf
      refine bf_aload_n 0 dX12_fires_184 rfl rfl ?_
      refine bf_iload 5 dX12_fires_185 rfl ?_
      obtain ⟨r22, e21, hf⟩ := bf_bind hf
      have hCe21 := ok_X12_isWire (Γ := Γ) (ad := ad) hv0 e21
      refine cv_X12_73 1 dX12_fires_187 rfl ⟨Nat.le_of_ble_eq_true rfl, Nat.le_of_ble_eq_true rfl⟩ (Nat.le_of_ble_eq_true rfl) hv0 hCe21 ?_
      refine bf_if_eq 238 dX12_fires_190 (by decide) (fun c23 => ?_) (fun c23 => ?_)
      · have hf := (if_pos c23).symm.trans hf
        refine bf_iinc 5 (v := _ + (1 : Int32)) (lv2 := [(5, .int _), (0, .ref _), (1, .int _), (2, .int _), (3, .int _), (4, .int _)]) dX12_fires_238 rfl (by rfl) (by decide) rfl ?_
        refine bf_goto 173 dX12_fires_241 (by decide) ?_
        refine bf_perm [1, 2, 3, 4, 5, 0] rfl ?_
        exact ih _ _ _ hf
      · have hf := (if_neg c23).symm.trans hf
        refine bf_aload_n 0 dX12_fires_193 rfl rfl ?_
        refine bf_iload 5 dX12_fires_194 rfl ?_
        obtain ⟨r25, e24, hf⟩ := bf_bind hf
        have hCe24 := ok_X12_from (Γ := Γ) (ad := ad) hv0 e24
        refine cv_X12_127 0 dX12_fires_196 rfl ⟨Nat.le_of_ble_eq_true rfl, Nat.le_of_ble_eq_true rfl⟩ (Nat.le_of_ble_eq_true rfl) hv0 hCe24 ?_
        refine bf_iload_n 1 dX12_fires_199 rfl rfl ?_
        refine bf_icmp_ne 238 dX12_fires_200 (by decide) (fun c26 => ?_) (fun c26 => ?_)
        · have hf := (if_neg c26).symm.trans hf
          refine bf_iinc 5 (v := _ + (1 : Int32)) (lv2 := [(5, .int _), (0, .ref _), (1, .int _), (2, .int _), (3, .int _), (4, .int _)]) dX12_fires_238 rfl (by rfl) (by decide) rfl ?_
          refine bf_goto 173 dX12_fires_241 (by decide) ?_
          refine bf_perm [1, 2, 3, 4, 5, 0] rfl ?_
          exact ih _ _ _ hf
        · have hf := (if_pos c26).symm.trans hf
          refine bf_iconst (v := 0) dX12_fires_203 (by decide) ?_
          refine bf_istore (lv2 := [(6, .int _), (0, .ref _), (1, .int _), (2, .int _), (3, .int _), (4, .int _), (5, .int _)]) dX12_fires_204 (by decide) rfl ?_
          refine bf_perm [1, 2, 3, 4, 5, 6, 0] rfl ?_
          refine ok_X12_fires_206 hv0 (fun I34 L34 hf => ?_) _ _ _ _  hf
          refine bf_iinc 5 (v := _ + (1 : Int32)) (lv2 := [(5, .int _), (0, .ref _), (1, .int _), (2, .int _), (3, .int _), (4, .int _)]) dX12_fires_238 rfl (by rfl) (by decide) rfl ?_
          refine bf_goto 173 dX12_fires_241 (by decide) ?_
          refine bf_perm [1, 2, 3, 4, 5, 0] rfl ?_
          exact ih _ _ _ hf
def f_X12_fires_p244 (v0 : Nat) (v1 : Int32) (v4 : Int32) (I : Nat → Nat → Int32) (L : Nat → Nat → Int64) : Option (Int32 × bf_St) :=
  (if bf_ok (((5 : Int32) + ((3 : Int32) * v1)) + (2 : Int32)) 914 then (if bf_ok (((5 : Int32) + ((3 : Int32) * v1)) + (2 : Int32)) 914 then (some (v4, (bf_u I (v0 + 1) (((5 : Int32) + ((3 : Int32) * v1)) + (2 : Int32)).toNatClampNeg (bf_min (9999 : Int32) ((I (v0 + 1) (((5 : Int32) + ((3 : Int32) * v1)) + (2 : Int32)).toNatClampNeg) + (1 : Int32)))), L)) else none) else none)
set_option maxRecDepth 100000 in
set_option maxHeartbeats 4000000 in
theorem ok_X12_fires_p244 {Γ : bf_Gm} {ad : Nat → Nat} {v0 : Nat} {v1 : Int32} {v4 : Int32} {I : Nat → Nat → Int32} {L : Nat → Nat → Int64} (hv0 : bf_kd v0 = 12) {r : Int32 × bf_St} (hf : f_X12_fires_p244 v0 v1 v4 I L = some r) : bf_Go Γ (bf_rm 2 0 0) mu_X12_fires bf_E0 (bf_Z Γ (fun q h => q = some (.int r.1) ∧ h = bf_S ad r.2.1 r.2.2) 0 0) (0, 0) 244 [(0, .ref (ad v0)), (1, .int v1), (4, .int v4)] [] (bf_S ad I L) := by
  unfold f_X12_fires_p244 at hf
  refine bf_aload_n 0 dX12_fires_244 rfl rfl ?_
  refine fg_X12_11 dX12_fires_245 rfl hv0 ?_
  refine bf_iconst (v := 5) dX12_fires_248 (by decide) ?_
  refine bf_iconst (v := 3) dX12_fires_249 (by decide) ?_
  refine bf_iload_n 1 dX12_fires_250 rfl rfl ?_
  refine bf_imul dX12_fires_251 ?_
  refine bf_iadd dX12_fires_252 ?_
  refine bf_iconst (v := 2) dX12_fires_253 (by decide) ?_
  refine bf_iadd dX12_fires_254 ?_
  refine bf_sipush (v := 9999) dX12_fires_255 (by decide) ?_
  refine bf_aload_n 0 dX12_fires_258 rfl rfl ?_
  refine fg_X12_11 dX12_fires_259 rfl hv0 ?_
  refine bf_iconst (v := 5) dX12_fires_262 (by decide) ?_
  refine bf_iconst (v := 3) dX12_fires_263 (by decide) ?_
  refine bf_iload_n 1 dX12_fires_264 rfl rfl ?_
  refine bf_imul dX12_fires_265 ?_
  refine bf_iadd dX12_fires_266 ?_
  refine bf_iconst (v := 2) dX12_fires_267 (by decide) ?_
  refine bf_iadd dX12_fires_268 ?_
  rcases Decidable.em (bf_ok (((5 : Int32) + ((3 : Int32) * v1)) + (2 : Int32)) 914) with c36 | c36
  · have hf := (if_pos c36).symm.trans hf
    refine bf_iald dX12_fires_269 (kr_12_0 hv0) (by rw [(kl_12_0 hv0)]; exact c36) ?_
    refine bf_iconst (v := 1) dX12_fires_270 (by decide) ?_
    refine bf_iadd dX12_fires_271 ?_
    refine bf_mmin dX12_fires_272 wl_X12_160 wt_Jmin wi_J9 wc_Jmin (Nat.le_of_ble_eq_true rfl) (Nat.le_of_ble_eq_true rfl) (Nat.zero_le _) (Nat.zero_le _) ?_
    rcases Decidable.em (bf_ok (((5 : Int32) + ((3 : Int32) * v1)) + (2 : Int32)) 914) with c37 | c37
    · have hf := (if_pos c37).symm.trans hf
      refine bf_iast dX12_fires_275 (kr_12_0 hv0) (by rw [(kl_12_0 hv0)]; exact c37) ?_
      refine bf_iload 2 dX12_fires_276 rfl ?_
      obtain rfl := Option.some.inj hf
      exact bf_iret dX12_fires_278 rfl (Nat.le_refl _) (Nat.le_refl _) ⟨rfl, rfl⟩
    · exact absurd ((if_neg c37).symm.trans hf) (by simp)
  · exact absurd ((if_neg c36).symm.trans hf) (by simp)
def f_X12_fires_p168 (v0 : Nat) (v1 : Int32) (v2 : Int32) (v3 : Int32) (s0 : Int32) (I : Nat → Nat → Int32) (L : Nat → Nat → Int64) : Option (Int32 × bf_St) :=
  (f_X12_fires_173 v0 v1 v2 v3 s0 (fun I35 L35 => (f_X12_fires_p244 v0 v1 s0 I35 L35)) 400 (0 : Int32) I L)
set_option maxRecDepth 100000 in
set_option maxHeartbeats 4000000 in
theorem ok_X12_fires_p168 {Γ : bf_Gm} {ad : Nat → Nat} {v0 : Nat} {v1 : Int32} {v2 : Int32} {v3 : Int32} {s0 : Int32} {I : Nat → Nat → Int32} {L : Nat → Nat → Int64} (hv0 : bf_kd v0 = 12) {r : Int32 × bf_St} (hf : f_X12_fires_p168 v0 v1 v2 v3 s0 I L = some r) : bf_Go Γ (bf_rm 2 0 0) mu_X12_fires bf_E0 (bf_Z Γ (fun q h => q = some (.int r.1) ∧ h = bf_S ad r.2.1 r.2.2) 0 0) (0, 0) 168 [(0, .ref (ad v0)), (1, .int v1), (2, .int v2), (3, .int v3)] [.int s0] (bf_S ad I L) := by
  unfold f_X12_fires_p168 at hf
  refine bf_istore (lv2 := [(4, .int _), (0, .ref _), (1, .int _), (2, .int _), (3, .int _)]) dX12_fires_168 (by decide) rfl ?_
  refine bf_iconst (v := 0) dX12_fires_170 (by decide) ?_
  refine bf_istore (lv2 := [(5, .int _), (4, .int _), (0, .ref _), (1, .int _), (2, .int _), (3, .int _)]) dX12_fires_171 (by decide) rfl ?_
  refine bf_perm [2, 3, 4, 5, 1, 0] rfl ?_
  refine ok_X12_fires_173 hv0 (fun I35 L35 hf => ?_) _ _ _ _  hf
  exact ok_X12_fires_p244 hv0  hf
def f_X12_fires_p100 (v0 : Nat) (v1 : Int32) (v2 : Int32) (v3 : Int32) (I : Nat → Nat → Int32) (L : Nat → Nat → Int64) : Option (Int32 × bf_St) :=
  (if v2 = 0 then (f_X12_fires_p168 v0 v1 v2 v3 (v3 + (I v0 9)) I L) else (if v2 = (1 : Int32) then (f_X12_fires_p168 v0 v1 v2 v3 (I v0 12) I L) else (if v2 = (2 : Int32) then (f_X12_fires_p168 v0 v1 v2 v3 (I v0 10) I L) else (if v2 = (3 : Int32) then (f_X12_fires_p168 v0 v1 v2 v3 (I v0 11) I L) else (if bf_ok (((5 : Int32) + ((3 : Int32) * v1)) + (2 : Int32)) 914 then (f_X12_fires_p168 v0 v1 v2 v3 (((I (v0 + 1) (((5 : Int32) + ((3 : Int32) * v1)) + (2 : Int32)).toNatClampNeg) * v3) + (I v0 9)) I L) else none)))))
set_option maxRecDepth 100000 in
set_option maxHeartbeats 4000000 in
theorem ok_X12_fires_p100 {Γ : bf_Gm} {ad : Nat → Nat} {v0 : Nat} {v1 : Int32} {v2 : Int32} {v3 : Int32} {I : Nat → Nat → Int32} {L : Nat → Nat → Int64} (hv0 : bf_kd v0 = 12) {r : Int32 × bf_St} (hf : f_X12_fires_p100 v0 v1 v2 v3 I L = some r) : bf_Go Γ (bf_rm 2 0 0) mu_X12_fires bf_E0 (bf_Z Γ (fun q h => q = some (.int r.1) ∧ h = bf_S ad r.2.1 r.2.2) 0 0) (0, 0) 100 [(0, .ref (ad v0)), (1, .int v1), (2, .int v2), (3, .int v3)] [] (bf_S ad I L) := by
  unfold f_X12_fires_p100 at hf
  refine bf_iload_n 2 dX12_fires_100 rfl rfl ?_
  refine bf_if_ne 113 dX12_fires_101 (by decide) (fun c15 => ?_) (fun c15 => ?_)
  · have hf := (if_neg c15).symm.trans hf
    refine bf_iload_n 2 dX12_fires_113 rfl rfl ?_
    refine bf_iconst (v := 1) dX12_fires_114 (by decide) ?_
    refine bf_icmp_ne 125 dX12_fires_115 (by decide) (fun c16 => ?_) (fun c16 => ?_)
    · have hf := (if_neg c16).symm.trans hf
      refine bf_iload_n 2 dX12_fires_125 rfl rfl ?_
      refine bf_iconst (v := 2) dX12_fires_126 (by decide) ?_
      refine bf_icmp_ne 137 dX12_fires_127 (by decide) (fun c17 => ?_) (fun c17 => ?_)
      · have hf := (if_neg c17).symm.trans hf
        refine bf_iload_n 2 dX12_fires_137 rfl rfl ?_
        refine bf_iconst (v := 3) dX12_fires_138 (by decide) ?_
        refine bf_icmp_ne 149 dX12_fires_139 (by decide) (fun c18 => ?_) (fun c18 => ?_)
        · have hf := (if_neg c18).symm.trans hf
          refine bf_aload_n 0 dX12_fires_149 rfl rfl ?_
          refine fg_X12_11 dX12_fires_150 rfl hv0 ?_
          refine bf_iconst (v := 5) dX12_fires_153 (by decide) ?_
          refine bf_iconst (v := 3) dX12_fires_154 (by decide) ?_
          refine bf_iload_n 1 dX12_fires_155 rfl rfl ?_
          refine bf_imul dX12_fires_156 ?_
          refine bf_iadd dX12_fires_157 ?_
          refine bf_iconst (v := 2) dX12_fires_158 (by decide) ?_
          refine bf_iadd dX12_fires_159 ?_
          rcases Decidable.em (bf_ok (((5 : Int32) + ((3 : Int32) * v1)) + (2 : Int32)) 914) with c19 | c19
          · have hf := (if_pos c19).symm.trans hf
            refine bf_iald dX12_fires_160 (kr_12_0 hv0) (by rw [(kl_12_0 hv0)]; exact c19) ?_
            refine bf_iload_n 3 dX12_fires_161 rfl rfl ?_
            refine bf_imul dX12_fires_162 ?_
            refine bf_aload_n 0 dX12_fires_163 rfl rfl ?_
            refine fg_X12_133 dX12_fires_164 rfl hv0 ?_
            refine bf_iadd dX12_fires_167 ?_
            exact ok_X12_fires_p168 hv0  hf
          · exact absurd ((if_neg c19).symm.trans hf) (by simp)
        · have hf := (if_pos c18).symm.trans hf
          refine bf_aload_n 0 dX12_fires_142 rfl rfl ?_
          refine fg_X12_139 dX12_fires_143 rfl hv0 ?_
          refine bf_goto 168 dX12_fires_146 (by decide) ?_
          exact ok_X12_fires_p168 hv0  hf
      · have hf := (if_pos c17).symm.trans hf
        refine bf_aload_n 0 dX12_fires_130 rfl rfl ?_
        refine fg_X12_148 dX12_fires_131 rfl hv0 ?_
        refine bf_goto 168 dX12_fires_134 (by decide) ?_
        exact ok_X12_fires_p168 hv0  hf
    · have hf := (if_pos c16).symm.trans hf
      refine bf_aload_n 0 dX12_fires_118 rfl rfl ?_
      refine fg_X12_136 dX12_fires_119 rfl hv0 ?_
      refine bf_goto 168 dX12_fires_122 (by decide) ?_
      exact ok_X12_fires_p168 hv0  hf
  · have hf := (if_pos c15).symm.trans hf
    refine bf_iload_n 3 dX12_fires_104 rfl rfl ?_
    refine bf_aload_n 0 dX12_fires_105 rfl rfl ?_
    refine fg_X12_133 dX12_fires_106 rfl hv0 ?_
    refine bf_iadd dX12_fires_109 ?_
    refine bf_goto 168 dX12_fires_110 (by decide) ?_
    exact ok_X12_fires_p168 hv0  hf
def f_X12_fires (o : Nat) (a0 : Int32) (I : Nat → Nat → Int32) (L : Nat → Nat → Int64) : Option (Int32 × bf_St) :=
  (if bf_ok ((5 : Int32) + ((3 : Int32) * a0)) 914 then (if bf_ok (((5 : Int32) + ((3 : Int32) * a0)) + (1 : Int32)) 914 then (f_X12_fires_52 o a0 (I (o + 1) ((5 : Int32) + ((3 : Int32) * a0)).toNatClampNeg) (I (o + 1) (((5 : Int32) + ((3 : Int32) * a0)) + (1 : Int32)).toNatClampNeg) (fun I14 L14 => (f_X12_fires_p100 o a0 (I (o + 1) ((5 : Int32) + ((3 : Int32) * a0)).toNatClampNeg) (I (o + 1) (((5 : Int32) + ((3 : Int32) * a0)) + (1 : Int32)).toNatClampNeg) I14 L14)) 400 (0 : Int32) (bf_u (bf_u (bf_u (bf_u (bf_u I o 9 (0 : Int32)) o 12 (I (o + 1) (((5 : Int32) + ((3 : Int32) * a0)) + (1 : Int32)).toNatClampNeg)) o 11 (I (o + 1) (((5 : Int32) + ((3 : Int32) * a0)) + (1 : Int32)).toNatClampNeg)) o 10 (I (o + 1) (((5 : Int32) + ((3 : Int32) * a0)) + (1 : Int32)).toNatClampNeg)) o 13 (0 : Int32)) L) else none) else none)
set_option maxRecDepth 100000 in
set_option maxHeartbeats 4000000 in
theorem ok_X12_fires {Γ : bf_Gm} {ad : Nat → Nat} {o : Nat} {a0 : Int32} {I : Nat → Nat → Int32} {L : Nat → Nat → Int64} (hk : bf_kd o = 12) {r : Int32 × bf_St} (hf : f_X12_fires o a0 I L = some r) : bf_Cn Γ 2 mu_X12_fires 0 0 [.ref (ad o), .int a0] (bf_S ad I L) (fun q h => q = some (.int r.1) ∧ h = bf_S ad r.2.1 r.2.2) := by
  refine bf_met rfl (Nat.le_of_ble_eq_true rfl) ?_
  unfold f_X12_fires at hf
  refine bf_aload_n 0 dX12_fires_0 rfl rfl ?_
  refine fg_X12_11 dX12_fires_1 rfl hk ?_
  refine bf_iconst (v := 5) dX12_fires_4 (by decide) ?_
  refine bf_iconst (v := 3) dX12_fires_5 (by decide) ?_
  refine bf_iload_n 1 dX12_fires_6 rfl rfl ?_
  refine bf_imul dX12_fires_7 ?_
  refine bf_iadd dX12_fires_8 ?_
  rcases Decidable.em (bf_ok ((5 : Int32) + ((3 : Int32) * a0)) 914) with c1 | c1
  · have hf := (if_pos c1).symm.trans hf
    refine bf_iald dX12_fires_9 (kr_12_0 hk) (by rw [(kl_12_0 hk)]; exact c1) ?_
    refine bf_istore_n (lv2 := [(2, .int _), (0, .ref _), (1, .int _)]) dX12_fires_10 rfl (by decide) rfl ?_
    refine bf_aload_n 1 dX12_fires_11 rfl rfl ?_
    refine fg_X12_11 dX12_fires_12 rfl hk ?_
    refine bf_iconst (v := 5) dX12_fires_15 (by decide) ?_
    refine bf_iconst (v := 3) dX12_fires_16 (by decide) ?_
    refine bf_iload_n 2 dX12_fires_17 rfl rfl ?_
    refine bf_imul dX12_fires_18 ?_
    refine bf_iadd dX12_fires_19 ?_
    refine bf_iconst (v := 1) dX12_fires_20 (by decide) ?_
    refine bf_iadd dX12_fires_21 ?_
    rcases Decidable.em (bf_ok (((5 : Int32) + ((3 : Int32) * a0)) + (1 : Int32)) 914) with c2 | c2
    · have hf := (if_pos c2).symm.trans hf
      refine bf_iald dX12_fires_22 (kr_12_0 hk) (by rw [(kl_12_0 hk)]; exact c2) ?_
      refine bf_istore_n (lv2 := [(3, .int _), (2, .int _), (0, .ref _), (1, .int _)]) dX12_fires_23 rfl (by decide) rfl ?_
      refine bf_aload_n 2 dX12_fires_24 rfl rfl ?_
      refine bf_iconst (v := 0) dX12_fires_25 (by decide) ?_
      refine fp_X12_133 dX12_fires_26 rfl hk ?_
      refine bf_aload_n 2 dX12_fires_29 rfl rfl ?_
      refine bf_iload_n 0 dX12_fires_30 rfl rfl ?_
      refine fp_X12_136 dX12_fires_31 rfl hk ?_
      refine bf_aload_n 2 dX12_fires_34 rfl rfl ?_
      refine bf_iload_n 0 dX12_fires_35 rfl rfl ?_
      refine fp_X12_139 dX12_fires_36 rfl hk ?_
      refine bf_aload_n 2 dX12_fires_39 rfl rfl ?_
      refine bf_iload_n 0 dX12_fires_40 rfl rfl ?_
      refine fp_X12_148 dX12_fires_41 rfl hk ?_
      refine bf_aload_n 2 dX12_fires_44 rfl rfl ?_
      refine bf_iconst (v := 0) dX12_fires_45 (by decide) ?_
      refine fp_X12_151 dX12_fires_46 rfl hk ?_
      refine bf_iconst (v := 0) dX12_fires_49 (by decide) ?_
      refine bf_istore (lv2 := [(4, .int _), (3, .int _), (2, .int _), (0, .ref _), (1, .int _)]) dX12_fires_50 (by decide) rfl ?_
      refine bf_perm [3, 4, 2, 1, 0] rfl ?_
      refine ok_X12_fires_52 hk (fun I14 L14 hf => ?_) _ _ _ _  hf
      exact ok_X12_fires_p100 hk  hf
    · exact absurd ((if_neg c2).symm.trans hf) (by simp)
  · exact absurd ((if_neg c1).symm.trans hf) (by simp)
