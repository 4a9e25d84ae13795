def f_X12_shift_135 (v0 : Nat) (v1 : Int32) (v2 : Int32) (v3 : Int32) (v4 : Int32) (v5 : Int32) (K : (Nat → Nat → Int32) → (Nat → Nat → Int64) → Option (Int32 × bf_St)) : Nat → Int32 → (Nat → Nat → Int32) → (Nat → Nat → Int64) → Option (Int32 × bf_St)
  | 0, _, _, _ => none
  | n + 1, v6, I, L =>
    (if v5 ≤ v6 then (K I L) else (if v4 ≤ v2 then (if bf_ok ((((60 : Int32) * v1) + v2) + v6) 360 then (if bf_ok ((((60 : Int32) * v3) + v4) + v6) 360 then (f_X12_shift_135 v0 v1 v2 v3 v4 v5 K n (v6 + (1 : Int32)) I (bf_u L (v0 + 16) ((((60 : Int32) * v3) + v4) + v6).toNatClampNeg (L (v0 + 16) ((((60 : Int32) * v1) + v2) + v6).toNatClampNeg))) else none) else none) else (if bf_ok ((((60 : Int32) * v1) + v2) + ((v5 - (1 : Int32)) - v6)) 360 then (if bf_ok ((((60 : Int32) * v3) + v4) + ((v5 - (1 : Int32)) - v6)) 360 then (f_X12_shift_135 v0 v1 v2 v3 v4 v5 K n (v6 + (1 : Int32)) I (bf_u L (v0 + 16) ((((60 : Int32) * v3) + v4) + ((v5 - (1 : Int32)) - v6)).toNatClampNeg (L (v0 + 16) ((((60 : Int32) * v1) + v2) + ((v5 - (1 : Int32)) - v6)).toNatClampNeg))) else none) else none)))
set_option maxRecDepth 100000 in
set_option maxHeartbeats 4000000 in
theorem ok_X12_shift_135 {Γ : bf_Gm} {ad : Nat → Nat} {v0 : Nat} {v1 : Int32} {v2 : Int32} {v3 : Int32} {v4 : Int32} {v5 : Int32} (hv0 : bf_kd v0 = 12) {r : Int32 × bf_St} {K : (Nat → Nat → Int32) → (Nat → Nat → Int64) → Option (Int32 × bf_St)} (hK : ∀ (I : Nat → Nat → Int32) (L : Nat → Nat → Int64), K  I L = some r → bf_Go Γ (bf_rm 1 0 0) mu_X12_shift bf_E0 (bf_Z Γ (fun q h => q = some (.int r.1) ∧ h = bf_S ad r.2.1 r.2.2) 0 0) (0, 0) 197 [(5, .int v5)] [] (bf_S ad I L)) : ∀ (n : Nat) (v6 : Int32) (I : Nat → Nat → Int32) (L : Nat → Nat → Int64), f_X12_shift_135 v0 v1 v2 v3 v4 v5 K n v6 I L = some r → bf_Go Γ (bf_rm 1 0 0) mu_X12_shift bf_E0 (bf_Z Γ (fun q h => q = some (.int r.1) ∧ h = bf_S ad r.2.1 r.2.2) 0 0) (0, 0) 135 [(0, .ref (ad v0)), (1, .int v1), (2, .int v2), (3, .int v3), (4, .int v4), (5, .int v5), (6, .int v6)] [] (bf_S ad I L) := by
  intro n
  induction n with
  | zero => intro v6 I L hf; exact absurd (show none = some r from hf) (by simp)
  | succ n ih =>
    intro v6 I L hf
    rw [f_X12_shift_135] at hf
    refine bf_iload 6 dX12_shift_135 rfl ?_
    refine bf_iload 5 dX12_shift_137 rfl ?_
    refine bf_icmp_ge 197 dX12_shift_139 (by decide) (fun c25 => ?_) (fun c25 => ?_)
    · have hf := (if_pos c25).symm.trans hf
      refine bf_perm [5] rfl ?_
      exact hK _ _ hf
    · have hf := (if_neg c25).symm.trans hf
      refine bf_iload_n 2 dX12_shift_142 rfl rfl ?_
      refine bf_iload 4 dX12_shift_143 rfl ?_
      refine bf_icmp_ge 158 dX12_shift_145 (by decide) (fun c26 => ?_) (fun c26 => ?_)
      · have hf := (if_pos c26).symm.trans hf
        refine bf_iload 6 dX12_shift_158 rfl ?_
        refine bf_istore (lv2 := [(7, .int _), (0, .ref _), (1, .int _), (2, .int _), (3, .int _), (4, .int _), (5, .int _), (6, .int _)]) dX12_shift_160 (by decide) rfl ?_
        refine bf_aload_n 1 dX12_shift_162 rfl rfl ?_
        refine fg_X12_58 dX12_shift_163 rfl hv0 ?_
        refine bf_bipush (v := 60) dX12_shift_166 (by decide) ?_
        refine bf_iload_n 4 dX12_shift_168 rfl rfl ?_
        refine bf_imul dX12_shift_169 ?_
        refine bf_iload 5 dX12_shift_170 rfl ?_
        refine bf_iadd dX12_shift_172 ?_
        refine bf_iload 0 dX12_shift_173 rfl ?_
        refine bf_iadd dX12_shift_175 ?_
        refine bf_aload_n 1 dX12_shift_176 rfl rfl ?_
        refine fg_X12_58 dX12_shift_177 rfl hv0 ?_
        refine bf_bipush (v := 60) dX12_shift_180 (by decide) ?_
        refine bf_iload_n 2 dX12_shift_182 rfl rfl ?_
        refine bf_imul dX12_shift_183 ?_
        refine bf_iload_n 3 dX12_shift_184 rfl rfl ?_
        refine bf_iadd dX12_shift_185 ?_
        refine bf_iload 0 dX12_shift_186 rfl ?_
        refine bf_iadd dX12_shift_188 ?_
        rcases Decidable.em (bf_ok ((((60 : Int32) * v1) + v2) + v6) 360) with c27 | c27
        · have hf := (if_pos c27).symm.trans hf
          refine bf_lald dX12_shift_189 (kr_12_27 hv0) (by rw [(kl_12_27 hv0)]; exact c27) ?_
          rcases Decidable.em (bf_ok ((((60 : Int32) * v3) + v4) + v6) 360) with c28 | c28
          · have hf := (if_pos c28).symm.trans hf
            refine bf_last dX12_shift_190 (kr_12_27 hv0) (by rw [(kl_12_27 hv0)]; exact c28) ?_
            refine bf_iinc 7 (v := _ + (1 : Int32)) (lv2 := [(6, .int _), (7, .int _), (0, .ref _), (1, .int _), (2, .int _), (3, .int _), (4, .int _), (5, .int _)]) dX12_shift_191 rfl (by rfl) (by decide) rfl ?_
            refine bf_goto 135 dX12_shift_194 (by decide) ?_
            refine bf_perm [2, 3, 4, 5, 6, 7, 0] rfl ?_
            exact ih _ _ _ hf
          · exact absurd ((if_neg c28).symm.trans hf) (by simp)
        · exact absurd ((if_neg c27).symm.trans hf) (by simp)
      · have hf := (if_neg c26).symm.trans hf
        refine bf_iload 5 dX12_shift_148 rfl ?_
        refine bf_iconst (v := 1) dX12_shift_150 (by decide) ?_
        refine bf_isub dX12_shift_151 ?_
        refine bf_iload 6 dX12_shift_152 rfl ?_
        refine bf_isub dX12_shift_154 ?_
        refine bf_goto 160 dX12_shift_155 (by decide) ?_
        refine bf_istore (lv2 := [(7, .int _), (0, .ref _), (1, .int _), (2, .int _), (3, .int _), (4, .int _), (5, .int _), (6, .int _)]) dX12_shift_160 (by decide) rfl ?_
        refine bf_aload_n 1 dX12_shift_162 rfl rfl ?_
        refine fg_X12_58 dX12_shift_163 rfl hv0 ?_
        refine bf_bipush (v := 60) dX12_shift_166 (by decide) ?_
        refine bf_iload_n 4 dX12_shift_168 rfl rfl ?_
        refine bf_imul dX12_shift_169 ?_
        refine bf_iload 5 dX12_shift_170 rfl ?_
        refine bf_iadd dX12_shift_172 ?_
        refine bf_iload 0 dX12_shift_173 rfl ?_
        refine bf_iadd dX12_shift_175 ?_
        refine bf_aload_n 1 dX12_shift_176 rfl rfl ?_
        refine fg_X12_58 dX12_shift_177 rfl hv0 ?_
        refine bf_bipush (v := 60) dX12_shift_180 (by decide) ?_
        refine bf_iload_n 2 dX12_shift_182 rfl rfl ?_
        refine bf_imul dX12_shift_183 ?_
        refine bf_iload_n 3 dX12_shift_184 rfl rfl ?_
        refine bf_iadd dX12_shift_185 ?_
        refine bf_iload 0 dX12_shift_186 rfl ?_
        refine bf_iadd dX12_shift_188 ?_
        rcases Decidable.em (bf_ok ((((60 : Int32) * v1) + v2) + ((v5 - (1 : Int32)) - v6)) 360) with c29 | c29
        · have hf := (if_pos c29).symm.trans hf
          refine bf_lald dX12_shift_189 (kr_12_27 hv0) (by rw [(kl_12_27 hv0)]; exact c29) ?_
          rcases Decidable.em (bf_ok ((((60 : Int32) * v3) + v4) + ((v5 - (1 : Int32)) - v6)) 360) with c30 | c30
          · have hf := (if_pos c30).symm.trans hf
            refine bf_last dX12_shift_190 (kr_12_27 hv0) (by rw [(kl_12_27 hv0)]; exact c30) ?_
            refine bf_iinc 7 (v := _ + (1 : Int32)) (lv2 := [(6, .int _), (7, .int _), (0, .ref _), (1, .int _), (2, .int _), (3, .int _), (4, .int _), (5, .int _)]) dX12_shift_191 rfl (by rfl) (by decide) rfl ?_
            refine bf_goto 135 dX12_shift_194 (by decide) ?_
            refine bf_perm [2, 3, 4, 5, 6, 7, 0] rfl ?_
            exact ih _ _ _ hf
          · exact absurd ((if_neg c30).symm.trans hf) (by simp)
        · exact absurd ((if_neg c29).symm.trans hf) (by simp)
def f_X12_shift (o : Nat) (a0 : Int32) (a1 : Int32) (a2 : Int32) (a3 : Int32) (a4 : Int32) (I : Nat → Nat → Int32) (L : Nat → Nat → Int64) : Option (Int32 × bf_St) :=
  ((f_X12_in (a0).toInt64 (0 : Int64) (5 : Int64) I L).bind (fun r2 => (if r2.1 = 0 then (some ((-1 : Int32), r2.2.1, r2.2.2)) else ((f_X12_in (a2).toInt64 (0 : Int64) (5 : Int64) r2.2.1 r2.2.2).bind (fun r5 => (if r5.1 = 0 then (some ((-1 : Int32), r5.2.1, r5.2.2)) else (if bf_ok a0 6 then (if (r5.2.1 (o + 14) a0.toNatClampNeg) = (-1 : Int32) then (some ((-11 : Int32), r5.2.1, r5.2.2)) else (if bf_ok a2 6 then (if (r5.2.1 (o + 14) a2.toNatClampNeg) = (-1 : Int32) then (some ((-11 : Int32), r5.2.1, r5.2.2)) else (if bf_ok a0 6 then (if bf_ok a2 6 then (if (r5.2.1 (o + 14) a0.toNatClampNeg) = (r5.2.1 (o + 14) a2.toNatClampNeg) then (if a4 < 0 then (some ((-13 : Int32), r5.2.1, r5.2.2)) else (if a1 < 0 then (some ((-13 : Int32), r5.2.1, r5.2.2)) else (if a3 < 0 then (some ((-13 : Int32), r5.2.1, r5.2.2)) else (if bf_ok a0 6 then (if (r5.2.1 (o + 15) a0.toNatClampNeg) < a1 then (some ((-13 : Int32), r5.2.1, r5.2.2)) else (if bf_ok a2 6 then (if (r5.2.1 (o + 15) a2.toNatClampNeg) < a3 then (some ((-13 : Int32), r5.2.1, r5.2.2)) else (if bf_ok a0 6 then (if ((r5.2.1 (o + 15) a0.toNatClampNeg) - a1) < a4 then (some ((-13 : Int32), r5.2.1, r5.2.2)) else (if bf_ok a2 6 then (if a4 ≤ ((r5.2.1 (o + 15) a2.toNatClampNeg) - a3) then (f_X12_shift_135 o a0 a1 a2 a3 a4 (fun I31 L31 => (some (a4, I31, L31))) 400 (0 : Int32) r5.2.1 r5.2.2) else (some ((-13 : Int32), r5.2.1, r5.2.2))) else none)) else none)) else none)) else none)))) else (some ((-12 : Int32), r5.2.1, r5.2.2))) else none) else none)) else none)) else none)))))))
set_option maxRecDepth 100000 in
set_option maxHeartbeats 4000000 in
theorem ok_X12_shift {Γ : bf_Gm} {ad : Nat → Nat} {o : Nat} {a0 : Int32} {a1 : Int32} {a2 : Int32} {a3 : Int32} {a4 : Int32} {I : Nat → Nat → Int32} {L : Nat → Nat → Int64} (hk : bf_kd o = 12) {r : Int32 × bf_St} (hf : f_X12_shift o a0 a1 a2 a3 a4 I L = some r) : bf_Cn Γ 1 mu_X12_shift 0 0 [.ref (ad o), .int a0, .int a1, .int a2, .int a3, .int a4] (bf_S ad I L) (fun q h => q = some (.int r.1) ∧ h = bf_S ad r.2.1 r.2.2) := by
  refine bf_met rfl (Nat.le_of_ble_eq_true rfl) ?_
  unfold f_X12_shift at hf
  refine bf_iload_n 1 dX12_shift_0 rfl rfl ?_
  refine bf_i2l dX12_shift_1 ?_
  refine bf_lconst (v := 0) dX12_shift_2 (by decide) ?_
  refine bf_ldc2 dX12_shift_3 wk_X12_298 ?_
  obtain ⟨r2, e1, hf⟩ := bf_bind hf
  have hCe1 := ok_X12_in (Γ := Γ) (ad := ad)  e1
  refine cv_X12_61 0 dX12_shift_6 rfl ⟨Nat.le_of_ble_eq_true rfl, Nat.le_of_ble_eq_true rfl⟩ (Nat.le_of_ble_eq_true rfl) hCe1 ?_
  refine bf_if_eq 24 dX12_shift_9 (by decide) (fun c3 => ?_) (fun c3 => ?_)
  · have hf := (if_pos c3).symm.trans hf
    refine bf_iconst (v := -1) dX12_shift_24 (by decide) ?_
    obtain rfl := Option.some.inj hf
    exact bf_iret dX12_shift_25 rfl (Nat.le_refl _) (Nat.le_refl _) ⟨rfl, rfl⟩
  · have hf := (if_neg c3).symm.trans hf
    refine bf_iload_n 3 dX12_shift_12 rfl rfl ?_
    refine bf_i2l dX12_shift_13 ?_
    refine bf_lconst (v := 0) dX12_shift_14 (by decide) ?_
    refine bf_ldc2 dX12_shift_15 wk_X12_298 ?_
    obtain ⟨r5, e4, hf⟩ := bf_bind hf
    have hCe4 := ok_X12_in (Γ := Γ) (ad := ad)  e4
    refine cv_X12_61 0 dX12_shift_18 rfl ⟨Nat.le_of_ble_eq_true rfl, Nat.le_of_ble_eq_true rfl⟩ (Nat.le_of_ble_eq_true rfl) hCe4 ?_
    refine bf_if_ne 26 dX12_shift_21 (by decide) (fun c6 => ?_) (fun c6 => ?_)
    · have hf := (if_neg c6).symm.trans hf
      refine bf_aload_n 0 dX12_shift_26 rfl rfl ?_
      refine fg_X12_52 dX12_shift_27 rfl hk ?_
      refine bf_iload_n 1 dX12_shift_30 rfl rfl ?_
      rcases Decidable.em (bf_ok a0 6) with c7 | c7
      · have hf := (if_pos c7).symm.trans hf
        refine bf_iald dX12_shift_31 (kr_12_25 hk) (by rw [(kl_12_25 hk)]; exact c7) ?_
        refine bf_iconst (v := -1) dX12_shift_32 (by decide) ?_
        refine bf_icmp_eq 46 dX12_shift_33 (by decide) (fun c8 => ?_) (fun c8 => ?_)
        · have hf := (if_pos c8).symm.trans hf
          refine bf_bipush (v := -11) dX12_shift_46 (by decide) ?_
          obtain rfl := Option.some.inj hf
          exact bf_iret dX12_shift_48 rfl (Nat.le_refl _) (Nat.le_refl _) ⟨rfl, rfl⟩
        · have hf := (if_neg c8).symm.trans hf
          refine bf_aload_n 0 dX12_shift_36 rfl rfl ?_
          refine fg_X12_52 dX12_shift_37 rfl hk ?_
          refine bf_iload_n 3 dX12_shift_40 rfl rfl ?_
          rcases Decidable.em (bf_ok a2 6) with c9 | c9
          · have hf := (if_pos c9).symm.trans hf
            refine bf_iald dX12_shift_41 (kr_12_25 hk) (by rw [(kl_12_25 hk)]; exact c9) ?_
            refine bf_iconst (v := -1) dX12_shift_42 (by decide) ?_
            refine bf_icmp_ne 49 dX12_shift_43 (by decide) (fun c10 => ?_) (fun c10 => ?_)
            · have hf := (if_neg c10).symm.trans hf
              refine bf_aload_n 0 dX12_shift_49 rfl rfl ?_
              refine fg_X12_52 dX12_shift_50 rfl hk ?_
              refine bf_iload_n 1 dX12_shift_53 rfl rfl ?_
              rcases Decidable.em (bf_ok a0 6) with c11 | c11
              · have hf := (if_pos c11).symm.trans hf
                refine bf_iald dX12_shift_54 (kr_12_25 hk) (by rw [(kl_12_25 hk)]; exact c11) ?_
                refine bf_aload_n 0 dX12_shift_55 rfl rfl ?_
                refine fg_X12_52 dX12_shift_56 rfl hk ?_
                refine bf_iload_n 3 dX12_shift_59 rfl rfl ?_
                rcases Decidable.em (bf_ok a2 6) with c12 | c12
                · have hf := (if_pos c12).symm.trans hf
                  refine bf_iald dX12_shift_60 (kr_12_25 hk) (by rw [(kl_12_25 hk)]; exact c12) ?_
                  refine bf_icmp_eq 67 dX12_shift_61 (by decide) (fun c13 => ?_) (fun c13 => ?_)
                  · have hf := (if_pos c13).symm.trans hf
                    refine bf_iload 5 dX12_shift_67 rfl ?_
                    refine bf_if_lt 129 dX12_shift_69 (by decide) (fun c14 => ?_) (fun c14 => ?_)
                    · have hf := (if_pos c14).symm.trans hf
                      refine bf_bipush (v := -13) dX12_shift_129 (by decide) ?_
                      obtain rfl := Option.some.inj hf
                      exact bf_iret dX12_shift_131 rfl (Nat.le_refl _) (Nat.le_refl _) ⟨rfl, rfl⟩
                    · have hf := (if_neg c14).symm.trans hf
                      refine bf_iload_n 2 dX12_shift_72 rfl rfl ?_
                      refine bf_if_lt 129 dX12_shift_73 (by decide) (fun c15 => ?_) (fun c15 => ?_)
                      · have hf := (if_pos c15).symm.trans hf
                        refine bf_bipush (v := -13) dX12_shift_129 (by decide) ?_
                        obtain rfl := Option.some.inj hf
                        exact bf_iret dX12_shift_131 rfl (Nat.le_refl _) (Nat.le_refl _) ⟨rfl, rfl⟩
                      · have hf := (if_neg c15).symm.trans hf
                        refine bf_iload 4 dX12_shift_76 rfl ?_
                        refine bf_if_lt 129 dX12_shift_78 (by decide) (fun c16 => ?_) (fun c16 => ?_)
                        · have hf := (if_pos c16).symm.trans hf
                          refine bf_bipush (v := -13) dX12_shift_129 (by decide) ?_
                          obtain rfl := Option.some.inj hf
                          exact bf_iret dX12_shift_131 rfl (Nat.le_refl _) (Nat.le_refl _) ⟨rfl, rfl⟩
                        · have hf := (if_neg c16).symm.trans hf
                          refine bf_iload_n 2 dX12_shift_81 rfl rfl ?_
                          refine bf_aload_n 0 dX12_shift_82 rfl rfl ?_
                          refine fg_X12_55 dX12_shift_83 rfl hk ?_
                          refine bf_iload_n 1 dX12_shift_86 rfl rfl ?_
                          rcases Decidable.em (bf_ok a0 6) with c17 | c17
                          · have hf := (if_pos c17).symm.trans hf
                            refine bf_iald dX12_shift_87 (kr_12_26 hk) (by rw [(kl_12_26 hk)]; exact c17) ?_
                            refine bf_icmp_gt 129 dX12_shift_88 (by decide) (fun c18 => ?_) (fun c18 => ?_)
                            · have hf := (if_pos c18).symm.trans hf
                              refine bf_bipush (v := -13) dX12_shift_129 (by decide) ?_
                              obtain rfl := Option.some.inj hf
                              exact bf_iret dX12_shift_131 rfl (Nat.le_refl _) (Nat.le_refl _) ⟨rfl, rfl⟩
                            · have hf := (if_neg c18).symm.trans hf
                              refine bf_iload 4 dX12_shift_91 rfl ?_
                              refine bf_aload_n 0 dX12_shift_93 rfl rfl ?_
                              refine fg_X12_55 dX12_shift_94 rfl hk ?_
                              refine bf_iload_n 3 dX12_shift_97 rfl rfl ?_
                              rcases Decidable.em (bf_ok a2 6) with c19 | c19
                              · have hf := (if_pos c19).symm.trans hf
                                refine bf_iald dX12_shift_98 (kr_12_26 hk) (by rw [(kl_12_26 hk)]; exact c19) ?_
                                refine bf_icmp_gt 129 dX12_shift_99 (by decide) (fun c20 => ?_) (fun c20 => ?_)
                                · have hf := (if_pos c20).symm.trans hf
                                  refine bf_bipush (v := -13) dX12_shift_129 (by decide) ?_
                                  obtain rfl := Option.some.inj hf
                                  exact bf_iret dX12_shift_131 rfl (Nat.le_refl _) (Nat.le_refl _) ⟨rfl, rfl⟩
                                · have hf := (if_neg c20).symm.trans hf
                                  refine bf_iload 5 dX12_shift_102 rfl ?_
                                  refine bf_aload_n 0 dX12_shift_104 rfl rfl ?_
                                  refine fg_X12_55 dX12_shift_105 rfl hk ?_
                                  refine bf_iload_n 1 dX12_shift_108 rfl rfl ?_
                                  rcases Decidable.em (bf_ok a0 6) with c21 | c21
                                  · have hf := (if_pos c21).symm.trans hf
                                    refine bf_iald dX12_shift_109 (kr_12_26 hk) (by rw [(kl_12_26 hk)]; exact c21) ?_
                                    refine bf_iload_n 2 dX12_shift_110 rfl rfl ?_
                                    refine bf_isub dX12_shift_111 ?_
                                    refine bf_icmp_gt 129 dX12_shift_112 (by decide) (fun c22 => ?_) (fun c22 => ?_)
                                    · have hf := (if_pos c22).symm.trans hf
                                      refine bf_bipush (v := -13) dX12_shift_129 (by decide) ?_
                                      obtain rfl := Option.some.inj hf
                                      exact bf_iret dX12_shift_131 rfl (Nat.le_refl _) (Nat.le_refl _) ⟨rfl, rfl⟩
                                    · have hf := (if_neg c22).symm.trans hf
                                      refine bf_iload 5 dX12_shift_115 rfl ?_
                                      refine bf_aload_n 0 dX12_shift_117 rfl rfl ?_
                                      refine fg_X12_55 dX12_shift_118 rfl hk ?_
                                      refine bf_iload_n 3 dX12_shift_121 rfl rfl ?_
                                      rcases Decidable.em (bf_ok a2 6) with c23 | c23
                                      · have hf := (if_pos c23).symm.trans hf
                                        refine bf_iald dX12_shift_122 (kr_12_26 hk) (by rw [(kl_12_26 hk)]; exact c23) ?_
                                        refine bf_iload 4 dX12_shift_123 rfl ?_
                                        refine bf_isub dX12_shift_125 ?_
                                        refine bf_icmp_le 132 dX12_shift_126 (by decide) (fun c24 => ?_) (fun c24 => ?_)
                                        · have hf := (if_pos c24).symm.trans hf
                                          refine bf_iconst (v := 0) dX12_shift_132 (by decide) ?_
                                          refine bf_istore (lv2 := [(6, .int _), (0, .ref _), (1, .int _), (2, .int _), (3, .int _), (4, .int _), (5, .int _)]) dX12_shift_133 (by decide) rfl ?_
                                          refine bf_perm [1, 2, 3, 4, 5, 6, 0] rfl ?_
                                          refine ok_X12_shift_135 hk (fun I31 L31 hf => ?_) _ _ _ _  hf
                                          refine bf_iload 0 dX12_shift_197 rfl ?_
                                          obtain rfl := Option.some.inj hf
                                          exact bf_iret dX12_shift_199 rfl (Nat.le_refl _) (Nat.le_refl _) ⟨rfl, rfl⟩
                                        · have hf := (if_neg c24).symm.trans hf
                                          refine bf_bipush (v := -13) dX12_shift_129 (by decide) ?_
                                          obtain rfl := Option.some.inj hf
                                          exact bf_iret dX12_shift_131 rfl (Nat.le_refl _) (Nat.le_refl _) ⟨rfl, rfl⟩
                                      · exact absurd ((if_neg c23).symm.trans hf) (by simp)
                                  · exact absurd ((if_neg c21).symm.trans hf) (by simp)
                              · exact absurd ((if_neg c19).symm.trans hf) (by simp)
                          · exact absurd ((if_neg c17).symm.trans hf) (by simp)
                  · have hf := (if_neg c13).symm.trans hf
                    refine bf_bipush (v := -12) dX12_shift_64 (by decide) ?_
                    obtain rfl := Option.some.inj hf
                    exact bf_iret dX12_shift_66 rfl (Nat.le_refl _) (Nat.le_refl _) ⟨rfl, rfl⟩
                · exact absurd ((if_neg c12).symm.trans hf) (by simp)
              · exact absurd ((if_neg c11).symm.trans hf) (by simp)
            · have hf := (if_pos c10).symm.trans hf
              refine bf_bipush (v := -11) dX12_shift_46 (by decide) ?_
              obtain rfl := Option.some.inj hf
              exact bf_iret dX12_shift_48 rfl (Nat.le_refl _) (Nat.le_refl _) ⟨rfl, rfl⟩
          · exact absurd ((if_neg c9).symm.trans hf) (by simp)
      · exact absurd ((if_neg c7).symm.trans hf) (by simp)
    · have hf := (if_pos c6).symm.trans hf
      refine bf_iconst (v := -1) dX12_shift_24 (by decide) ?_
      obtain rfl := Option.some.inj hf
      exact bf_iret dX12_shift_25 rfl (Nat.le_refl _) (Nat.le_refl _) ⟨rfl, rfl⟩
