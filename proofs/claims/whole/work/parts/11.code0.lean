def f_X12_tries_110 (rec : Nat → Int32 → (Nat → Nat → Int32) → (Nat → Nat → Int64) → Option (bf_St)) (v0 : Nat) (v1 : Int32) (v2 : Int32) (K : (Nat → Nat → Int32) → (Nat → Nat → Int64) → Option (bf_St)) : Nat → Int32 → (Nat → Nat → Int32) → (Nat → Nat → Int64) → Option (bf_St)
  | 0, _, _, _ => none
  | n + 1, v3, I, L =>
    (if (8 : Int32) ≤ v3 then (K I L) else (if (I (v0 + 1) (1 : Int32).toNatClampNeg) ≤ v3 then (if bf_ok ((((8 : Int32) * v1) + (8 : Int32)) + v3) 72 then (f_X12_tries_110 rec v0 v1 v2 K n (v3 + (1 : Int32)) (bf_u I (v0 + 12) ((((8 : Int32) * v1) + (8 : Int32)) + v3).toNatClampNeg (0 : Int32)) L) else none) else ((f_X12_isWire v0 v3 I L).bind (fun r18 => (if r18.1 = 0 then (if bf_ok ((((8 : Int32) * v1) + (8 : Int32)) + v3) 72 then (f_X12_tries_110 rec v0 v1 v2 K n (v3 + (1 : Int32)) (bf_u r18.2.1 (v0 + 12) ((((8 : Int32) * v1) + (8 : Int32)) + v3).toNatClampNeg (0 : Int32)) r18.2.2) else none) else (if bf_ok (((8 : Int32) * v1) + v3) 72 then ((f_X12_tokens v0 v3 r18.2.1 r18.2.2).bind (fun r23 => (if bf_ok ((((8 : Int32) * v1) + (8 : Int32)) + v3) 72 then (f_X12_tries_110 rec v0 v1 v2 K n (v3 + (1 : Int32)) (bf_u r23.2.1 (v0 + 12) ((((8 : Int32) * v1) + (8 : Int32)) + v3).toNatClampNeg (bf_max (r18.2.1 (v0 + 12) (((8 : Int32) * v1) + v3).toNatClampNeg) r23.1)) r23.2.2) else none))) else none))))))
set_option maxRecDepth 100000 in
set_option maxHeartbeats 4000000 in
theorem ok_X12_tries_110 {Γ : bf_Gm} {ad : Nat → Nat} {d : Nat} {rec : Nat → Int32 → (Nat → Nat → Int32) → (Nat → Nat → Int64) → Option (bf_St)} (hrec : ∀ {o : Nat} {a0 : Int32} {I : Nat → Nat → Int32} {L : Nat → Nat → Int64} {r : bf_St}, bf_kd o = 12 → rec o a0 I L = some r → bf_Cn Γ (3 + d) mu_X12_tries 0 0 [.ref (ad o), .int a0] (bf_S ad I L) (fun q h => q = none ∧ h = bf_S ad r.1 r.2)) {v0 : Nat} {v1 : Int32} {v2 : Int32} (hv0 : bf_kd v0 = 12) {r : bf_St} {K : (Nat → Nat → Int32) → (Nat → Nat → Int64) → Option (bf_St)} (hK : ∀ (I : Nat → Nat → Int32) (L : Nat → Nat → Int64), K  I L = some r → bf_Go Γ (bf_rm (3 + (d + 1)) 0 0) mu_X12_tries bf_E0 (bf_Z Γ (fun q h => q = none ∧ h = bf_S ad r.1 r.2) 0 0) (0, 0) 177 [(0, .ref (ad v0)), (1, .int v1), (2, .int v2)] [] (bf_S ad I L)) : ∀ (n : Nat) (v3 : Int32) (I : Nat → Nat → Int32) (L : Nat → Nat → Int64), f_X12_tries_110 rec v0 v1 v2 K n v3 I L = some r → bf_Go Γ (bf_rm (3 + (d + 1)) 0 0) mu_X12_tries bf_E0 (bf_Z Γ (fun q h => q = none ∧ h = bf_S ad r.1 r.2) 0 0) (0, 0) 110 [(0, .ref (ad v0)), (1, .int v1), (2, .int v2), (3, .int v3)] [] (bf_S ad I L) := by
  intro n
  induction n with
  | zero => intro v3 I L hf; exact absurd (show none = some r from hf) (by simp)
  | succ n ih =>
    intro v3 I L hf
    rw [f_X12_tries_110] at hf
    refine bf_iload_n 3 dX12_tries_110 rfl rfl ?_
    refine bf_bipush (v := 8) dX12_tries_111 (by decide) ?_
    refine bf_icmp_ge 177 dX12_tries_113 (by decide) (fun c14 => ?_) (fun c14 => ?_)
    · have hf := (if_pos c14).symm.trans hf
      refine bf_perm [0, 1, 2] rfl ?_
      exact hK _ _ hf
    · have hf := (if_neg c14).symm.trans hf
      refine bf_aload_n 0 dX12_tries_116 rfl rfl ?_
      refine fg_X12_46 dX12_tries_117 rfl hv0 ?_
      refine bf_bipush (v := 8) dX12_tries_120 (by decide) ?_
      refine bf_iload_n 1 dX12_tries_122 rfl rfl ?_
      refine bf_imul dX12_tries_123 ?_
      refine bf_bipush (v := 8) dX12_tries_124 (by decide) ?_
      refine bf_iadd dX12_tries_126 ?_
      refine bf_iload_n 3 dX12_tries_127 rfl rfl ?_
      refine bf_iadd dX12_tries_128 ?_
      refine bf_iload_n 3 dX12_tries_129 rfl rfl ?_
      refine bf_aload_n 0 dX12_tries_130 rfl rfl ?_
      refine fg_X12_11 dX12_tries_131 rfl hv0 ?_
      refine bf_iconst (v := 1) dX12_tries_134 (by decide) ?_
      refine bf_iald dX12_tries_135 (kr_12_0 hv0) (by rw [(kl_12_0 hv0)]; decide) ?_
      refine bf_icmp_ge 169 dX12_tries_136 (by decide) (fun c15 => ?_) (fun c15 => ?_)
      · have hf := (if_pos c15).symm.trans hf
        refine bf_iconst (v := 0) dX12_tries_169 (by decide) ?_
        rcases Decidable.em (bf_ok ((((8 : Int32) * v1) + (8 : Int32)) + v3) 72) with c16 | c16
        · have hf := (if_pos c16).symm.trans hf
          refine bf_iast dX12_tries_170 (kr_12_22 hv0) (by rw [(kl_12_22 hv0)]; exact c16) ?_
          refine bf_iinc 3 (v := _ + (1 : Int32)) (lv2 := [(3, .int _), (0, .ref _), (1, .int _), (2, .int _)]) dX12_tries_171 rfl (by rfl) (by decide) rfl ?_
          refine bf_goto 110 dX12_tries_174 (by decide) ?_
          refine bf_perm [1, 2, 3, 0] rfl ?_
          exact ih _ _ _ hf
        · exact absurd ((if_neg c16).symm.trans hf) (by simp)
      · have hf := (if_neg c15).symm.trans hf
        refine bf_aload_n 0 dX12_tries_139 rfl rfl ?_
        refine bf_iload_n 3 dX12_tries_140 rfl rfl ?_
        obtain ⟨r18, e17, hf⟩ := bf_bind hf
        have hCe17 := ok_X12_isWire (Γ := Γ) (ad := ad) hv0 e17
        refine cv_X12_73 1 dX12_tries_141 rfl (by constructor <;> (simp only [bf_rm]; omega)) (Nat.le_of_ble_eq_true rfl) hv0 hCe17 ?_
        refine bf_if_eq 169 dX12_tries_144 (by decide) (fun c19 => ?_) (fun c19 => ?_)
        · have hf := (if_pos c19).symm.trans hf
          refine bf_iconst (v := 0) dX12_tries_169 (by decide) ?_
          rcases Decidable.em (bf_ok ((((8 : Int32) * v1) + (8 : Int32)) + v3) 72) with c20 | c20
          · have hf := (if_pos c20).symm.trans hf
            refine bf_iast dX12_tries_170 (kr_12_22 hv0) (by rw [(kl_12_22 hv0)]; exact c20) ?_
            refine bf_iinc 3 (v := _ + (1 : Int32)) (lv2 := [(3, .int _), (0, .ref _), (1, .int _), (2, .int _)]) dX12_tries_171 rfl (by rfl) (by decide) rfl ?_
            refine bf_goto 110 dX12_tries_174 (by decide) ?_
            refine bf_perm [1, 2, 3, 0] rfl ?_
            exact ih _ _ _ hf
          · exact absurd ((if_neg c20).symm.trans hf) (by simp)
        · have hf := (if_neg c19).symm.trans hf
          refine bf_aload_n 0 dX12_tries_147 rfl rfl ?_
          refine fg_X12_46 dX12_tries_148 rfl hv0 ?_
          refine bf_bipush (v := 8) dX12_tries_151 (by decide) ?_
          refine bf_iload_n 1 dX12_tries_153 rfl rfl ?_
          refine bf_imul dX12_tries_154 ?_
          refine bf_iload_n 3 dX12_tries_155 rfl rfl ?_
          refine bf_iadd dX12_tries_156 ?_
          rcases Decidable.em (bf_ok (((8 : Int32) * v1) + v3) 72) with c21 | c21
          · have hf := (if_pos c21).symm.trans hf
            refine bf_iald dX12_tries_157 (kr_12_22 hv0) (by rw [(kl_12_22 hv0)]; exact c21) ?_
            refine bf_aload_n 0 dX12_tries_158 rfl rfl ?_
            refine bf_iload_n 3 dX12_tries_159 rfl rfl ?_
            obtain ⟨r23, e22, hf⟩ := bf_bind hf
            have hCe22 := ok_X12_tokens (Γ := Γ) (ad := ad) hv0 e22
            refine cv_X12_76 0 dX12_tries_160 rfl (by constructor <;> (simp only [bf_rm]; omega)) (Nat.le_of_ble_eq_true rfl) hv0 hCe22 ?_
            refine bf_mmax dX12_tries_163 wl_X12_142 wt_Jmax wi_J9 wc_Jmax (by simp [bf_rm, Value.category] <;> omega) (by simp [bf_rm, Value.category] <;> omega) (Nat.zero_le _) (Nat.zero_le _) ?_
            refine bf_goto 170 dX12_tries_166 (by decide) ?_
            rcases Decidable.em (bf_ok ((((8 : Int32) * v1) + (8 : Int32)) + v3) 72) with c24 | c24
            · have hf := (if_pos c24).symm.trans hf
              refine bf_iast dX12_tries_170 (kr_12_22 hv0) (by rw [(kl_12_22 hv0)]; exact c24) ?_
              refine bf_iinc 3 (v := _ + (1 : Int32)) (lv2 := [(3, .int _), (0, .ref _), (1, .int _), (2, .int _)]) dX12_tries_171 rfl (by rfl) (by decide) rfl ?_
              refine bf_goto 110 dX12_tries_174 (by decide) ?_
              refine bf_perm [1, 2, 3, 0] rfl ?_
              exact ih _ _ _ hf
            · exact absurd ((if_neg c24).symm.trans hf) (by simp)
          · exact absurd ((if_neg c21).symm.trans hf) (by simp)
def f_X12_tries_65 (rec : Nat → Int32 → (Nat → Nat → Int32) → (Nat → Nat → Int64) → Option (bf_St)) (v0 : Nat) (v1 : Int32) (K : (Nat → Nat → Int32) → (Nat → Nat → Int64) → Option (bf_St)) : Nat → Int32 → (Nat → Nat → Int32) → (Nat → Nat → Int64) → Option (bf_St)
  | 0, _, _, _ => none
  | n + 1, v2, I, L =>
    (if (I (v0 + 1) (0 : Int32).toNatClampNeg) ≤ v2 then (K I L) else (if bf_ok v2 6 then (if (I (v0 + 9) v2.toNatClampNeg) ≤ 0 then (f_X12_tries_65 rec v0 v1 K n (v2 + (1 : Int32)) I L) else ((f_X12_canFire v0 v2 I L).bind (fun r8 => (if r8.1 = 0 then (f_X12_tries_65 rec v0 v1 K n (v2 + (1 : Int32)) r8.2.1 r8.2.2) else ((f_X12_moves v0 v2 (1 : Int32) r8.2.1 r8.2.2).bind (fun r11 => (if bf_ok v2 6 then (if bf_ok v2 6 then (f_X12_tries_110 rec v0 v1 v2 (fun I25 L25 => ((rec v0 (v1 + (1 : Int32)) I25 L25).bind (fun r27 => (if bf_ok v2 6 then (if bf_ok v2 6 then ((f_X12_moves v0 v2 (-1 : Int32) (bf_u r27.1 (v0 + 9) v2.toNatClampNeg ((r27.1 (v0 + 9) v2.toNatClampNeg) + (1 : Int32))) r27.2).bind (fun r31 => (f_X12_tries_65 rec v0 v1 K n (v2 + (1 : Int32)) r31.1 r31.2))) else none) else none)))) 400 (0 : Int32) (bf_u r11.1 (v0 + 9) v2.toNatClampNeg ((r11.1 (v0 + 9) v2.toNatClampNeg) - (1 : Int32))) r11.2) else none) else none))))))) else none))
set_option maxRecDepth 100000 in
set_option maxHeartbeats 4000000 in
theorem ok_X12_tries_65 {Γ : bf_Gm} {ad : Nat → Nat} {d : Nat} {rec : Nat → Int32 → (Nat → Nat → Int32) → (Nat → Nat → Int64) → Option (bf_St)} (hrec : ∀ {o : Nat} {a0 : Int32} {I : Nat → Nat → Int32} {L : Nat → Nat → Int64} {r : bf_St}, bf_kd o = 12 → rec o a0 I L = some r → bf_Cn Γ (3 + d) mu_X12_tries 0 0 [.ref (ad o), .int a0] (bf_S ad I L) (fun q h => q = none ∧ h = bf_S ad r.1 r.2)) {v0 : Nat} {v1 : Int32} (hv0 : bf_kd v0 = 12) {r : bf_St} {K : (Nat → Nat → Int32) → (Nat → Nat → Int64) → Option (bf_St)} (hK : ∀ (I : Nat → Nat → Int32) (L : Nat → Nat → Int64), K  I L = some r → bf_Go Γ (bf_rm (3 + (d + 1)) 0 0) mu_X12_tries bf_E0 (bf_Z Γ (fun q h => q = none ∧ h = bf_S ad r.1 r.2) 0 0) (0, 0) 206 [] [] (bf_S ad I L)) : ∀ (n : Nat) (v2 : Int32) (I : Nat → Nat → Int32) (L : Nat → Nat → Int64), f_X12_tries_65 rec v0 v1 K n v2 I L = some r → bf_Go Γ (bf_rm (3 + (d + 1)) 0 0) mu_X12_tries bf_E0 (bf_Z Γ (fun q h => q = none ∧ h = bf_S ad r.1 r.2) 0 0) (0, 0) 65 [(0, .ref (ad v0)), (1, .int v1), (2, .int v2)] [] (bf_S ad I L) := by
  intro n
  induction n with
  | zero => intro v2 I L hf; exact absurd (show none = some r from hf) (by simp)
  | succ n ih =>
    intro v2 I L hf
    rw [f_X12_tries_65] at hf
    refine bf_iload_n 2 dX12_tries_65 rfl rfl ?_
    refine bf_aload_n 0 dX12_tries_66 rfl rfl ?_
    refine fg_X12_11 dX12_tries_67 rfl hv0 ?_
    refine bf_iconst (v := 0) dX12_tries_70 (by decide) ?_
    refine bf_iald dX12_tries_71 (kr_12_0 hv0) (by rw [(kl_12_0 hv0)]; decide) ?_
    refine bf_icmp_ge 206 dX12_tries_72 (by decide) (fun c4 => ?_) (fun c4 => ?_)
    · have hf := (if_pos c4).symm.trans hf
      refine bf_perm [] rfl ?_
      exact hK _ _ hf
    · have hf := (if_neg c4).symm.trans hf
      refine bf_aload_n 0 dX12_tries_75 rfl rfl ?_
      refine fg_X12_37 dX12_tries_76 rfl hv0 ?_
      refine bf_iload_n 2 dX12_tries_79 rfl rfl ?_
      rcases Decidable.em (bf_ok v2 6) with c5 | c5
      · have hf := (if_pos c5).symm.trans hf
        refine bf_iald dX12_tries_80 (kr_12_17 hv0) (by rw [(kl_12_17 hv0)]; exact c5) ?_
        refine bf_if_le 200 dX12_tries_81 (by decide) (fun c6 => ?_) (fun c6 => ?_)
        · have hf := (if_pos c6).symm.trans hf
          refine bf_iinc 2 (v := _ + (1 : Int32)) (lv2 := [(2, .int _), (0, .ref _), (1, .int _)]) dX12_tries_200 rfl (by rfl) (by decide) rfl ?_
          refine bf_goto 65 dX12_tries_203 (by decide) ?_
          refine bf_perm [1, 2, 0] rfl ?_
          exact ih _ _ _ hf
        · have hf := (if_neg c6).symm.trans hf
          refine bf_aload_n 0 dX12_tries_84 rfl rfl ?_
          refine bf_iload_n 2 dX12_tries_85 rfl rfl ?_
          obtain ⟨r8, e7, hf⟩ := bf_bind hf
          have hCe7 := ok_X12_canFire (Γ := Γ) (ad := ad) hv0 e7
          refine cv_X12_163 2 dX12_tries_86 rfl (by constructor <;> (simp only [bf_rm]; omega)) (Nat.le_of_ble_eq_true rfl) hv0 hCe7 ?_
          refine bf_if_eq 200 dX12_tries_89 (by decide) (fun c9 => ?_) (fun c9 => ?_)
          · have hf := (if_pos c9).symm.trans hf
            refine bf_iinc 2 (v := _ + (1 : Int32)) (lv2 := [(2, .int _), (0, .ref _), (1, .int _)]) dX12_tries_200 rfl (by rfl) (by decide) rfl ?_
            refine bf_goto 65 dX12_tries_203 (by decide) ?_
            refine bf_perm [1, 2, 0] rfl ?_
            exact ih _ _ _ hf
          · have hf := (if_neg c9).symm.trans hf
            refine bf_aload_n 0 dX12_tries_92 rfl rfl ?_
            refine bf_iload_n 2 dX12_tries_93 rfl rfl ?_
            refine bf_iconst (v := 1) dX12_tries_94 (by decide) ?_
            obtain ⟨r11, e10, hf⟩ := bf_bind hf
            have hCe10 := ok_X12_moves (Γ := Γ) (ad := ad) hv0 e10
            refine cv_X12_232 2 dX12_tries_95 rfl (by constructor <;> (simp only [bf_rm]; omega)) (Nat.le_of_ble_eq_true rfl) hv0 hCe10 ?_
            refine bf_aload_n 0 dX12_tries_98 rfl rfl ?_
            refine fg_X12_37 dX12_tries_99 rfl hv0 ?_
            refine bf_iload_n 2 dX12_tries_102 rfl rfl ?_
            refine bf_dup2 dX12_tries_103 rfl rfl ?_
            rcases Decidable.em (bf_ok v2 6) with c12 | c12
            · have hf := (if_pos c12).symm.trans hf
              refine bf_iald dX12_tries_104 (kr_12_17 hv0) (by rw [(kl_12_17 hv0)]; exact c12) ?_
              refine bf_iconst (v := 1) dX12_tries_105 (by decide) ?_
              refine bf_isub dX12_tries_106 ?_
              rcases Decidable.em (bf_ok v2 6) with c13 | c13
              · have hf := (if_pos c13).symm.trans hf
                refine bf_iast dX12_tries_107 (kr_12_17 hv0) (by rw [(kl_12_17 hv0)]; exact c13) ?_
                refine bf_iconst (v := 0) dX12_tries_108 (by decide) ?_
                refine bf_istore_n (lv2 := [(3, .int _), (0, .ref _), (1, .int _), (2, .int _)]) dX12_tries_109 rfl (by decide) rfl ?_
                refine bf_perm [1, 2, 3, 0] rfl ?_
                refine ok_X12_tries_110 hrec hv0 (fun I25 L25 hf => ?_) _ _ _ _  hf
                refine bf_aload_n 0 dX12_tries_177 rfl rfl ?_
                refine bf_iload_n 1 dX12_tries_178 rfl rfl ?_
                refine bf_iconst (v := 1) dX12_tries_179 (by decide) ?_
                refine bf_iadd dX12_tries_180 ?_
                obtain ⟨r27, e26, hf⟩ := bf_bind hf
                have hCe26 := hrec hv0 e26
                refine cv_X12_235 (3 + d) dX12_tries_181 rfl (by constructor <;> (simp only [bf_rm]; omega)) (Nat.le_of_ble_eq_true rfl) hv0 hCe26 ?_
                refine bf_aload_n 0 dX12_tries_184 rfl rfl ?_
                refine fg_X12_37 dX12_tries_185 rfl hv0 ?_
                refine bf_iload_n 2 dX12_tries_188 rfl rfl ?_
                refine bf_dup2 dX12_tries_189 rfl rfl ?_
                rcases Decidable.em (bf_ok v2 6) with c28 | c28
                · have hf := (if_pos c28).symm.trans hf
                  refine bf_iald dX12_tries_190 (kr_12_17 hv0) (by rw [(kl_12_17 hv0)]; exact c28) ?_
                  refine bf_iconst (v := 1) dX12_tries_191 (by decide) ?_
                  refine bf_iadd dX12_tries_192 ?_
                  rcases Decidable.em (bf_ok v2 6) with c29 | c29
                  · have hf := (if_pos c29).symm.trans hf
                    refine bf_iast dX12_tries_193 (kr_12_17 hv0) (by rw [(kl_12_17 hv0)]; exact c29) ?_
                    refine bf_aload_n 0 dX12_tries_194 rfl rfl ?_
                    refine bf_iload_n 2 dX12_tries_195 rfl rfl ?_
                    refine bf_iconst (v := -1) dX12_tries_196 (by decide) ?_
                    obtain ⟨r31, e30, hf⟩ := bf_bind hf
                    have hCe30 := ok_X12_moves (Γ := Γ) (ad := ad) hv0 e30
                    refine cv_X12_232 2 dX12_tries_197 rfl (by constructor <;> (simp only [bf_rm]; omega)) (Nat.le_of_ble_eq_true rfl) hv0 hCe30 ?_
                    refine bf_iinc 2 (v := _ + (1 : Int32)) (lv2 := [(2, .int _), (0, .ref _), (1, .int _)]) dX12_tries_200 rfl (by rfl) (by decide) rfl ?_
                    refine bf_goto 65 dX12_tries_203 (by decide) ?_
                    refine bf_perm [1, 2, 0] rfl ?_
                    exact ih _ _ _ hf
                  · exact absurd ((if_neg c29).symm.trans hf) (by simp)
                · exact absurd ((if_neg c28).symm.trans hf) (by simp)
              · exact absurd ((if_neg c13).symm.trans hf) (by simp)
            · exact absurd ((if_neg c12).symm.trans hf) (by simp)
      · exact absurd ((if_neg c5).symm.trans hf) (by simp)
def f_X12_tries_11 (rec : Nat → Int32 → (Nat → Nat → Int32) → (Nat → Nat → Int64) → Option (bf_St)) (v0 : Nat) (v1 : Int32) (K : Int32 → (Nat → Nat → Int32) → (Nat → Nat → Int64) → Option (bf_St)) : Nat → Int32 → Int32 → (Nat → Nat → Int32) → (Nat → Nat → Int64) → Option (bf_St)
  | 0, _, _, _, _ => none
  | n + 1, v2, v3, I, L =>
    (if (8 : Int32) ≤ v3 then (K v2 I L) else (if bf_ok (((8 : Int32) * v1) + v3) 72 then (f_X12_tries_11 rec v0 v1 K n (v2 + (I (v0 + 12) (((8 : Int32) * v1) + v3).toNatClampNeg)) (v3 + (1 : Int32)) I L) else none))
set_option maxRecDepth 100000 in
set_option maxHeartbeats 4000000 in
theorem ok_X12_tries_11 {Γ : bf_Gm} {ad : Nat → Nat} {d : Nat} {rec : Nat → Int32 → (Nat → Nat → Int32) → (Nat → Nat → Int64) → Option (bf_St)} (hrec : ∀ {o : Nat} {a0 : Int32} {I : Nat → Nat → Int32} {L : Nat → Nat → Int64} {r : bf_St}, bf_kd o = 12 → rec o a0 I L = some r → bf_Cn Γ (3 + d) mu_X12_tries 0 0 [.ref (ad o), .int a0] (bf_S ad I L) (fun q h => q = none ∧ h = bf_S ad r.1 r.2)) {v0 : Nat} {v1 : Int32} (hv0 : bf_kd v0 = 12) {r : bf_St} {K : Int32 → (Nat → Nat → Int32) → (Nat → Nat → Int64) → Option (bf_St)} (hK : ∀ (v2 : Int32) (I : Nat → Nat → Int32) (L : Nat → Nat → Int64), K v2 I L = some r → bf_Go Γ (bf_rm (3 + (d + 1)) 0 0) mu_X12_tries bf_E0 (bf_Z Γ (fun q h => q = none ∧ h = bf_S ad r.1 r.2) 0 0) (0, 0) 37 [(0, .ref (ad v0)), (2, .int v2)] [] (bf_S ad I L)) : ∀ (n : Nat) (v2 : Int32) (v3 : Int32) (I : Nat → Nat → Int32) (L : Nat → Nat → Int64), f_X12_tries_11 rec v0 v1 K n v2 v3 I L = some r → bf_Go Γ (bf_rm (3 + (d + 1)) 0 0) mu_X12_tries bf_E0 (bf_Z Γ (fun q h => q = none ∧ h = bf_S ad r.1 r.2) 0 0) (0, 0) 11 [(0, .ref (ad v0)), (1, .int v1), (2, .int v2), (3, .int v3)] [] (bf_S ad I L) := by
  intro n
  induction n with
  | zero => intro v2 v3 I L hf; exact absurd (show none = some r from hf) (by simp)
  | succ n ih =>
    intro v2 v3 I L hf
    rw [f_X12_tries_11] at hf
    refine bf_iload_n 3 dX12_tries_11 rfl rfl ?_
    refine bf_bipush (v := 8) dX12_tries_12 (by decide) ?_
    refine bf_icmp_ge 37 dX12_tries_14 (by decide) (fun c33 => ?_) (fun c33 => ?_)
    · have hf := (if_pos c33).symm.trans hf
      refine bf_perm [0, 2] rfl ?_
      exact hK _ _ _ hf
    · have hf := (if_neg c33).symm.trans hf
      refine bf_iload_n 2 dX12_tries_17 rfl rfl ?_
      refine bf_aload_n 0 dX12_tries_18 rfl rfl ?_
      refine fg_X12_46 dX12_tries_19 rfl hv0 ?_
      refine bf_bipush (v := 8) dX12_tries_22 (by decide) ?_
      refine bf_iload_n 1 dX12_tries_24 rfl rfl ?_
      refine bf_imul dX12_tries_25 ?_
      refine bf_iload_n 3 dX12_tries_26 rfl rfl ?_
      refine bf_iadd dX12_tries_27 ?_
      rcases Decidable.em (bf_ok (((8 : Int32) * v1) + v3) 72) with c34 | c34
      · have hf := (if_pos c34).symm.trans hf
        refine bf_iald dX12_tries_28 (kr_12_22 hv0) (by rw [(kl_12_22 hv0)]; exact c34) ?_
        refine bf_iadd dX12_tries_29 ?_
        refine bf_istore_n (lv2 := [(2, .int _), (0, .ref _), (1, .int _), (3, .int _)]) dX12_tries_30 rfl (by decide) rfl ?_
        refine bf_iinc 3 (v := _ + (1 : Int32)) (lv2 := [(3, .int _), (2, .int _), (0, .ref _), (1, .int _)]) dX12_tries_31 rfl (by rfl) (by decide) rfl ?_
        refine bf_goto 11 dX12_tries_34 (by decide) ?_
        refine bf_perm [2, 3, 1, 0] rfl ?_
        exact ih _ _ _ _ hf
      · exact absurd ((if_neg c34).symm.trans hf) (by simp)
def f_X12_tries_p37 (rec : Nat → Int32 → (Nat → Nat → Int32) → (Nat → Nat → Int64) → Option (bf_St)) (v0 : Nat) (v2 : Int32) (I : Nat → Nat → Int32) (L : Nat → Nat → Int64) : Option (bf_St) :=
  (if (I v0 23) = (-5 : Int32) then (some ((bf_u I v0 23 v2), L)) else (some ((bf_u I v0 23 (bf_min (I v0 23) v2)), L)))
set_option maxRecDepth 100000 in
set_option maxHeartbeats 4000000 in
theorem ok_X12_tries_p37 {Γ : bf_Gm} {ad : Nat → Nat} {d : Nat} {rec : Nat → Int32 → (Nat → Nat → Int32) → (Nat → Nat → Int64) → Option (bf_St)} (hrec : ∀ {o : Nat} {a0 : Int32} {I : Nat → Nat → Int32} {L : Nat → Nat → Int64} {r : bf_St}, bf_kd o = 12 → rec o a0 I L = some r → bf_Cn Γ (3 + d) mu_X12_tries 0 0 [.ref (ad o), .int a0] (bf_S ad I L) (fun q h => q = none ∧ h = bf_S ad r.1 r.2)) {v0 : Nat} {v2 : Int32} {I : Nat → Nat → Int32} {L : Nat → Nat → Int64} (hv0 : bf_kd v0 = 12) {r : bf_St} (hf : f_X12_tries_p37 rec v0 v2 I L = some r) : bf_Go Γ (bf_rm (3 + (d + 1)) 0 0) mu_X12_tries bf_E0 (bf_Z Γ (fun q h => q = none ∧ h = bf_S ad r.1 r.2) 0 0) (0, 0) 37 [(0, .ref (ad v0)), (2, .int v2)] [] (bf_S ad I L) := by
  unfold f_X12_tries_p37 at hf
  refine bf_aload_n 0 dX12_tries_37 rfl rfl ?_
  refine bf_aload_n 0 dX12_tries_38 rfl rfl ?_
  refine fg_X12_229 dX12_tries_39 rfl hv0 ?_
  refine bf_bipush (v := -5) dX12_tries_42 (by decide) ?_
  refine bf_icmp_ne 51 dX12_tries_44 (by decide) (fun c36 => ?_) (fun c36 => ?_)
  · have hf := (if_neg c36).symm.trans hf
    refine bf_aload_n 0 dX12_tries_51 rfl rfl ?_
    refine fg_X12_229 dX12_tries_52 rfl hv0 ?_
    refine bf_iload_n 1 dX12_tries_55 rfl rfl ?_
    refine bf_mmin dX12_tries_56 wl_X12_160 wt_Jmin wi_J9 wc_Jmin (by simp [bf_rm, Value.category] <;> omega) (by simp [bf_rm, Value.category] <;> omega) (Nat.zero_le _) (Nat.zero_le _) ?_
    refine fp_X12_229 dX12_tries_59 rfl hv0 ?_
    obtain rfl := Option.some.inj hf
    exact bf_vret dX12_tries_62 rfl (Nat.le_refl _) (Nat.le_refl _) ⟨rfl, rfl⟩
  · have hf := (if_pos c36).symm.trans hf
    refine bf_iload_n 1 dX12_tries_47 rfl rfl ?_
    refine bf_goto 59 dX12_tries_48 (by decide) ?_
    refine fp_X12_229 dX12_tries_59 rfl hv0 ?_
    obtain rfl := Option.some.inj hf
    exact bf_vret dX12_tries_62 rfl (Nat.le_refl _) (Nat.le_refl _) ⟨rfl, rfl⟩
def f_X12_tries_b (rec : Nat → Int32 → (Nat → Nat → Int32) → (Nat → Nat → Int64) → Option (bf_St)) (o : Nat) (a0 : Int32) (I : Nat → Nat → Int32) (L : Nat → Nat → Int64) : Option (bf_St) :=
  ((f_X12_leftAll o I L).bind (fun r2 => (if r2.1 = 0 then (f_X12_tries_11 rec o a0 (fun k2_35 I35 L35 => (f_X12_tries_p37 rec o k2_35 I35 L35)) 400 (0 : Int32) (0 : Int32) r2.2.1 r2.2.2) else (f_X12_tries_65 rec o a0 (fun I32 L32 => (some (I32, L32))) 400 (0 : Int32) r2.2.1 r2.2.2))))
def f_X12_tries : Nat → Nat → Int32 → (Nat → Nat → Int32) → (Nat → Nat → Int64) → Option (bf_St)
  | 0 => fun _ _ _ _ => none
  | d + 1 => f_X12_tries_b (f_X12_tries d)
set_option maxRecDepth 100000 in
set_option maxHeartbeats 4000000 in
theorem ok_X12_tries_b {Γ : bf_Gm} {ad : Nat → Nat} {d : Nat} {rec : Nat → Int32 → (Nat → Nat → Int32) → (Nat → Nat → Int64) → Option (bf_St)} (hrec : ∀ {o : Nat} {a0 : Int32} {I : Nat → Nat → Int32} {L : Nat → Nat → Int64} {r : bf_St}, bf_kd o = 12 → rec o a0 I L = some r → bf_Cn Γ (3 + d) mu_X12_tries 0 0 [.ref (ad o), .int a0] (bf_S ad I L) (fun q h => q = none ∧ h = bf_S ad r.1 r.2)) {o : Nat} {a0 : Int32} {I : Nat → Nat → Int32} {L : Nat → Nat → Int64} (hk : bf_kd o = 12) {r : bf_St} (hf : f_X12_tries_b rec o a0 I L = some r) : bf_Cn Γ (3 + (d + 1)) mu_X12_tries 0 0 [.ref (ad o), .int a0] (bf_S ad I L) (fun q h => q = none ∧ h = bf_S ad r.1 r.2) := by
  refine bf_met rfl (Nat.le_of_ble_eq_true rfl) ?_
  unfold f_X12_tries_b at hf
  refine bf_aload_n 0 dX12_tries_0 rfl rfl ?_
  obtain ⟨r2, e1, hf⟩ := bf_bind hf
  have hCe1 := ok_X12_leftAll (Γ := Γ) (ad := ad) hk e1
  refine cv_X12_210 0 dX12_tries_1 rfl (by constructor <;> (simp only [bf_rm]; omega)) (Nat.le_of_ble_eq_true rfl) hk hCe1 ?_
  refine bf_if_ne 63 dX12_tries_4 (by decide) (fun c3 => ?_) (fun c3 => ?_)
  · have hf := (if_neg c3).symm.trans hf
    refine bf_iconst (v := 0) dX12_tries_63 (by decide) ?_
    refine bf_istore_n (lv2 := [(2, .int _), (0, .ref _), (1, .int _)]) dX12_tries_64 rfl (by decide) rfl ?_
    refine bf_perm [1, 2, 0] rfl ?_
    refine ok_X12_tries_65 hrec hk (fun I32 L32 hf => ?_) _ _ _ _  hf
    obtain rfl := Option.some.inj hf
    exact bf_vret dX12_tries_206 rfl (Nat.le_refl _) (Nat.le_refl _) ⟨rfl, rfl⟩
  · have hf := (if_pos c3).symm.trans hf
    refine bf_iconst (v := 0) dX12_tries_7 (by decide) ?_
    refine bf_istore_n (lv2 := [(2, .int _), (0, .ref _), (1, .int _)]) dX12_tries_8 rfl (by decide) rfl ?_
    refine bf_iconst (v := 0) dX12_tries_9 (by decide) ?_
    refine bf_istore_n (lv2 := [(3, .int _), (2, .int _), (0, .ref _), (1, .int _)]) dX12_tries_10 rfl (by decide) rfl ?_
    refine bf_perm [2, 3, 1, 0] rfl ?_
    refine ok_X12_tries_11 hrec hk (fun k2_35 I35 L35 hf => ?_) _ _ _ _ _  hf
    exact ok_X12_tries_p37 hrec hk  hf
theorem ok_X12_tries_r {Γ : bf_Gm} {ad : Nat → Nat} : ∀ (d : Nat) {o : Nat} {a0 : Int32} {I : Nat → Nat → Int32} {L : Nat → Nat → Int64} {r : bf_St}, bf_kd o = 12 → f_X12_tries d o a0 I L = some r → bf_Cn Γ (3 + d) mu_X12_tries 0 0 [.ref (ad o), .int a0] (bf_S ad I L) (fun q h => q = none ∧ h = bf_S ad r.1 r.2) := by
  intro d
  induction d with
  | zero => intro o a0 I L r hk hf; exact absurd (show none = some r from hf) (by simp)
  | succ d ih => intro o a0 I L r hk hf; exact ok_X12_tries_b ih hk hf
theorem ok_X12_tries {Γ : bf_Gm} {ad : Nat → Nat} {o : Nat} {a0 : Int32} {I : Nat → Nat → Int32} {L : Nat → Nat → Int64} (hk : bf_kd o = 12) {r : bf_St} (hf : f_X12_tries 9 o a0 I L = some r) : bf_Cn Γ 12 mu_X12_tries 0 0 [.ref (ad o), .int a0] (bf_S ad I L) (fun q h => q = none ∧ h = bf_S ad r.1 r.2) := ok_X12_tries_r 9 hk hf
def f_X12_leastHold_24 (v0 : Nat) (K : (Nat → Nat → Int32) → (Nat → Nat → Int64) → Option (Int32 × bf_St)) : Nat → Int32 → (Nat → Nat → Int32) → (Nat → Nat → Int64) → Option (Int32 × bf_St)
  | 0, _, _, _ => none
  | n + 1, v1, I, L =>
    (if (8 : Int32) ≤ v1 then (K I L) else (if (I (v0 + 1) (1 : Int32).toNatClampNeg) ≤ v1 then (if bf_ok v1 72 then (f_X12_leastHold_24 v0 K n (v1 + (1 : Int32)) (bf_u I (v0 + 12) v1.toNatClampNeg (0 : Int32)) L) else none) else ((f_X12_isWire v0 v1 I L).bind (fun r10 => (if r10.1 = 0 then (if bf_ok v1 72 then (f_X12_leastHold_24 v0 K n (v1 + (1 : Int32)) (bf_u r10.2.1 (v0 + 12) v1.toNatClampNeg (0 : Int32)) r10.2.2) else none) else ((f_X12_tokens v0 v1 r10.2.1 r10.2.2).bind (fun r14 => (if bf_ok v1 72 then (f_X12_leastHold_24 v0 K n (v1 + (1 : Int32)) (bf_u r14.2.1 (v0 + 12) v1.toNatClampNeg r14.1) r14.2.2) else none))))))))
set_option maxRecDepth 100000 in
set_option maxHeartbeats 4000000 in
theorem ok_X12_leastHold_24 {Γ : bf_Gm} {ad : Nat → Nat} {v0 : Nat} (hv0 : bf_kd v0 = 12) {r : Int32 × bf_St} {K : (Nat → Nat → Int32) → (Nat → Nat → Int64) → Option (Int32 × bf_St)} (hK : ∀ (I : Nat → Nat → Int32) (L : Nat → Nat → Int64), K  I L = some r → bf_Go Γ (bf_rm 13 0 0) mu_X12_leastHold bf_E0 (bf_Z Γ (fun q h => q = some (.int r.1) ∧ h = bf_S ad r.2.1 r.2.2) 0 0) (0, 0) 69 [(0, .ref (ad v0))] [] (bf_S ad I L)) : ∀ (n : Nat) (v1 : Int32) (I : Nat → Nat → Int32) (L : Nat → Nat → Int64), f_X12_leastHold_24 v0 K n v1 I L = some r → bf_Go Γ (bf_rm 13 0 0) mu_X12_leastHold bf_E0 (bf_Z Γ (fun q h => q = some (.int r.1) ∧ h = bf_S ad r.2.1 r.2.2) 0 0) (0, 0) 24 [(0, .ref (ad v0)), (1, .int v1)] [] (bf_S ad I L) := by
  intro n
  induction n with
  | zero => intro v1 I L hf; exact absurd (show none = some r from hf) (by simp)
  | succ n ih =>
    intro v1 I L hf
    rw [f_X12_leastHold_24] at hf
    refine bf_iload_n 1 dX12_leastHold_24 rfl rfl ?_
    refine bf_bipush (v := 8) dX12_leastHold_25 (by decide) ?_
    refine bf_icmp_ge 69 dX12_leastHold_27 (by decide) (fun c6 => ?_) (fun c6 => ?_)
    · have hf := (if_pos c6).symm.trans hf
      refine bf_perm [0] rfl ?_
      exact hK _ _ hf
    · have hf := (if_neg c6).symm.trans hf
      refine bf_aload_n 0 dX12_leastHold_30 rfl rfl ?_
      refine fg_X12_46 dX12_leastHold_31 rfl hv0 ?_
      refine bf_iload_n 1 dX12_leastHold_34 rfl rfl ?_
      refine bf_iload_n 1 dX12_leastHold_35 rfl rfl ?_
      refine bf_aload_n 0 dX12_leastHold_36 rfl rfl ?_
      refine fg_X12_11 dX12_leastHold_37 rfl hv0 ?_
      refine bf_iconst (v := 1) dX12_leastHold_40 (by decide) ?_
      refine bf_iald dX12_leastHold_41 (kr_12_0 hv0) (by rw [(kl_12_0 hv0)]; decide) ?_
      refine bf_icmp_ge 61 dX12_leastHold_42 (by decide) (fun c7 => ?_) (fun c7 => ?_)
      · have hf := (if_pos c7).symm.trans hf
        refine bf_iconst (v := 0) dX12_leastHold_61 (by decide) ?_
        rcases Decidable.em (bf_ok v1 72) with c8 | c8
        · have hf := (if_pos c8).symm.trans hf
          refine bf_iast dX12_leastHold_62 (kr_12_22 hv0) (by rw [(kl_12_22 hv0)]; exact c8) ?_
          refine bf_iinc 1 (v := _ + (1 : Int32)) (lv2 := [(1, .int _), (0, .ref _)]) dX12_leastHold_63 rfl (by rfl) (by decide) rfl ?_
          refine bf_goto 24 dX12_leastHold_66 (by decide) ?_
          refine bf_perm [1, 0] rfl ?_
          exact ih _ _ _ hf
        · exact absurd ((if_neg c8).symm.trans hf) (by simp)
      · have hf := (if_neg c7).symm.trans hf
        refine bf_aload_n 0 dX12_leastHold_45 rfl rfl ?_
        refine bf_iload_n 1 dX12_leastHold_46 rfl rfl ?_
        obtain ⟨r10, e9, hf⟩ := bf_bind hf
        have hCe9 := ok_X12_isWire (Γ := Γ) (ad := ad) hv0 e9
        refine cv_X12_73 1 dX12_leastHold_47 rfl ⟨Nat.le_of_ble_eq_true rfl, Nat.le_of_ble_eq_true rfl⟩ (Nat.le_of_ble_eq_true rfl) hv0 hCe9 ?_
        refine bf_if_eq 61 dX12_leastHold_50 (by decide) (fun c11 => ?_) (fun c11 => ?_)
        · have hf := (if_pos c11).symm.trans hf
          refine bf_iconst (v := 0) dX12_leastHold_61 (by decide) ?_
          rcases Decidable.em (bf_ok v1 72) with c12 | c12
          · have hf := (if_pos c12).symm.trans hf
            refine bf_iast dX12_leastHold_62 (kr_12_22 hv0) (by rw [(kl_12_22 hv0)]; exact c12) ?_
            refine bf_iinc 1 (v := _ + (1 : Int32)) (lv2 := [(1, .int _), (0, .ref _)]) dX12_leastHold_63 rfl (by rfl) (by decide) rfl ?_
            refine bf_goto 24 dX12_leastHold_66 (by decide) ?_
            refine bf_perm [1, 0] rfl ?_
            exact ih _ _ _ hf
          · exact absurd ((if_neg c12).symm.trans hf) (by simp)
        · have hf := (if_neg c11).symm.trans hf
          refine bf_aload_n 0 dX12_leastHold_53 rfl rfl ?_
          refine bf_iload_n 1 dX12_leastHold_54 rfl rfl ?_
          obtain ⟨r14, e13, hf⟩ := bf_bind hf
          have hCe13 := ok_X12_tokens (Γ := Γ) (ad := ad) hv0 e13
          refine cv_X12_76 0 dX12_leastHold_55 rfl ⟨Nat.le_of_ble_eq_true rfl, Nat.le_of_ble_eq_true rfl⟩ (Nat.le_of_ble_eq_true rfl) hv0 hCe13 ?_
          refine bf_goto 62 dX12_leastHold_58 (by decide) ?_
          rcases Decidable.em (bf_ok v1 72) with c15 | c15
          · have hf := (if_pos c15).symm.trans hf
            refine bf_iast dX12_leastHold_62 (kr_12_22 hv0) (by rw [(kl_12_22 hv0)]; exact c15) ?_
            refine bf_iinc 1 (v := _ + (1 : Int32)) (lv2 := [(1, .int _), (0, .ref _)]) dX12_leastHold_63 rfl (by rfl) (by decide) rfl ?_
            refine bf_goto 24 dX12_leastHold_66 (by decide) ?_
            refine bf_perm [1, 0] rfl ?_
            exact ih _ _ _ hf
          · exact absurd ((if_neg c15).symm.trans hf) (by simp)
def f_X12_leastHold (o : Nat) (I : Nat → Nat → Int32) (L : Nat → Nat → Int64) : Option (Int32 × bf_St) :=
  ((f_X12_timesAll o I L).bind (fun r2 => (if r2.1 ≤ (8 : Int32) then ((f_X12_starts o r2.2.1 r2.2.2).bind (fun r5 => (f_X12_leastHold_24 o (fun I16 L16 => ((f_X12_tries 9 o (0 : Int32) I16 L16).bind (fun r18 => (some ((r18.1 o 23), r18.1, r18.2))))) 400 (0 : Int32) (bf_u r5.1 o 23 (-5 : Int32)) r5.2))) else (some ((-5 : Int32), r2.2.1, r2.2.2)))))
set_option maxRecDepth 100000 in
set_option maxHeartbeats 4000000 in
theorem ok_X12_leastHold {Γ : bf_Gm} {ad : Nat → Nat} {o : Nat} {I : Nat → Nat → Int32} {L : Nat → Nat → Int64} (hk : bf_kd o = 12) {r : Int32 × bf_St} (hf : f_X12_leastHold o I L = some r) : bf_Cn Γ 13 mu_X12_leastHold 0 0 [.ref (ad o)] (bf_S ad I L) (fun q h => q = some (.int r.1) ∧ h = bf_S ad r.2.1 r.2.2) := by
  refine bf_met rfl (Nat.le_of_ble_eq_true rfl) ?_
  unfold f_X12_leastHold at hf
  refine bf_aload_n 0 dX12_leastHold_0 rfl rfl ?_
  obtain ⟨r2, e1, hf⟩ := bf_bind hf
  have hCe1 := ok_X12_timesAll (Γ := Γ) (ad := ad) hk e1
  refine cv_X12_239 0 dX12_leastHold_1 rfl ⟨Nat.le_of_ble_eq_true rfl, Nat.le_of_ble_eq_true rfl⟩ (Nat.le_of_ble_eq_true rfl) hk hCe1 ?_
  refine bf_bipush (v := 8) dX12_leastHold_4 (by decide) ?_
  refine bf_icmp_le 12 dX12_leastHold_6 (by decide) (fun c3 => ?_) (fun c3 => ?_)
  · have hf := (if_pos c3).symm.trans hf
    refine bf_aload_n 0 dX12_leastHold_12 rfl rfl ?_
    obtain ⟨r5, e4, hf⟩ := bf_bind hf
    have hCe4 := ok_X12_starts (Γ := Γ) (ad := ad) hk e4
    refine cv_X12_194 0 dX12_leastHold_13 rfl ⟨Nat.le_of_ble_eq_true rfl, Nat.le_of_ble_eq_true rfl⟩ (Nat.le_of_ble_eq_true rfl) hk hCe4 ?_
    refine bf_aload_n 0 dX12_leastHold_16 rfl rfl ?_
    refine bf_bipush (v := -5) dX12_leastHold_17 (by decide) ?_
    refine fp_X12_229 dX12_leastHold_19 rfl hk ?_
    refine bf_iconst (v := 0) dX12_leastHold_22 (by decide) ?_
    refine bf_istore_n (lv2 := [(1, .int _), (0, .ref _)]) dX12_leastHold_23 rfl (by decide) rfl ?_
    refine bf_perm [1, 0] rfl ?_
    refine ok_X12_leastHold_24 hk (fun I16 L16 hf => ?_) _ _ _ _  hf
    refine bf_aload_n 0 dX12_leastHold_69 rfl rfl ?_
    refine bf_iconst (v := 0) dX12_leastHold_70 (by decide) ?_
    obtain ⟨r18, e17, hf⟩ := bf_bind hf
    have hCe17 := ok_X12_tries (Γ := Γ) (ad := ad) hk e17
    refine cv_X12_235 12 dX12_leastHold_71 rfl ⟨Nat.le_of_ble_eq_true rfl, Nat.le_of_ble_eq_true rfl⟩ (Nat.le_of_ble_eq_true rfl) hk hCe17 ?_
    refine bf_aload_n 0 dX12_leastHold_74 rfl rfl ?_
    refine fg_X12_229 dX12_leastHold_75 rfl hk ?_
    obtain rfl := Option.some.inj hf
    exact bf_iret dX12_leastHold_78 rfl (Nat.le_refl _) (Nat.le_refl _) ⟨rfl, rfl⟩
  · have hf := (if_neg c3).symm.trans hf
    refine bf_bipush (v := -5) dX12_leastHold_9 (by decide) ?_
    obtain rfl := Option.some.inj hf
    exact bf_iret dX12_leastHold_11 rfl (Nat.le_refl _) (Nat.le_refl _) ⟨rfl, rfl⟩
def f_X12_told_p37 (v1 : Int32) (v2 : Int32) (I : Nat → Nat → Int32) (L : Nat → Nat → Int64) : Option (Int32 × bf_St) :=
  (if v1 = 0 then (if v2 = 0 then (some ((1 : Int32), I, L)) else (some ((0 : Int32), I, L))) else (some ((-5 : Int32), I, L)))
set_option maxRecDepth 100000 in
set_option maxHeartbeats 4000000 in
theorem ok_X12_told_p37 {Γ : bf_Gm} {ad : Nat → Nat} {v1 : Int32} {v2 : Int32} {I : Nat → Nat → Int32} {L : Nat → Nat → Int64} {r : Int32 × bf_St} (hf : f_X12_told_p37 v1 v2 I L = some r) : bf_Go Γ (bf_rm 14 0 0) mu_X12_told bf_E0 (bf_Z Γ (fun q h => q = some (.int r.1) ∧ h = bf_S ad r.2.1 r.2.2) 0 0) (0, 0) 37 [(1, .int v1), (2, .int v2)] [] (bf_S ad I L) := by
  unfold f_X12_told_p37 at hf
  refine bf_iload_n 0 dX12_told_37 rfl rfl ?_
  refine bf_if_ne 53 dX12_told_38 (by decide) (fun c8 => ?_) (fun c8 => ?_)
  · have hf := (if_neg c8).symm.trans hf
    refine bf_bipush (v := -5) dX12_told_53 (by decide) ?_
    obtain rfl := Option.some.inj hf
    exact bf_iret dX12_told_55 rfl (Nat.le_refl _) (Nat.le_refl _) ⟨rfl, rfl⟩
  · have hf := (if_pos c8).symm.trans hf
    refine bf_iload_n 1 dX12_told_41 rfl rfl ?_
    refine bf_if_eq 49 dX12_told_42 (by decide) (fun c9 => ?_) (fun c9 => ?_)
    · have hf := (if_pos c9).symm.trans hf
      refine bf_iconst (v := 1) dX12_told_49 (by decide) ?_
      refine bf_goto 55 dX12_told_50 (by decide) ?_
      obtain rfl := Option.some.inj hf
      exact bf_iret dX12_told_55 rfl (Nat.le_refl _) (Nat.le_refl _) ⟨rfl, rfl⟩
    · have hf := (if_neg c9).symm.trans hf
      refine bf_iconst (v := 0) dX12_told_45 (by decide) ?_
      refine bf_goto 55 dX12_told_46 (by decide) ?_
      obtain rfl := Option.some.inj hf
      exact bf_iret dX12_told_55 rfl (Nat.le_refl _) (Nat.le_refl _) ⟨rfl, rfl⟩
def f_X12_told (o : Nat) (a0 : Int32) (I : Nat → Nat → Int32) (L : Nat → Nat → Int64) : Option (Int32 × bf_St) :=
  (if a0 = (5 : Int32) then ((f_X12_tokensAll o I L).bind (fun r23 => (some (r23.1, r23.2.1, r23.2.2)))) else ((f_X12_in (a0).toInt64 (0 : Int64) (4 : Int64) I L).bind (fun r3 => (if r3.1 = 0 then (some ((-1 : Int32), r3.2.1, r3.2.2)) else ((f_X12_isEven o r3.2.1 r3.2.2).bind (fun r6 => (if a0 = 0 then (f_X12_told_p37 a0 r6.1 r6.2.1 r6.2.2) else (if r6.1 = 0 then (f_X12_told_p37 a0 r6.1 r6.2.1 r6.2.2) else (if a0 = (1 : Int32) then ((f_X12_timesAll o r6.2.1 r6.2.2).bind (fun r21 => (some (r21.1, r21.2.1, r21.2.2)))) else (if a0 = (2 : Int32) then ((f_X12_thinks o r6.2.1 r6.2.2).bind (fun r19 => (some (((1 : Int32) - r19.1), r19.2.1, r19.2.2)))) else (if a0 = (3 : Int32) then ((f_X12_hold o r6.2.1 r6.2.2).bind (fun r17 => (some (r17.1, r17.2.1, r17.2.2)))) else ((f_X12_leastHold o r6.2.1 r6.2.2).bind (fun r15 => (some (r15.1, r15.2.1, r15.2.2)))))))))))))))
set_option maxRecDepth 100000 in
set_option maxHeartbeats 4000000 in
theorem ok_X12_told {Γ : bf_Gm} {ad : Nat → Nat} {o : Nat} {a0 : Int32} {I : Nat → Nat → Int32} {L : Nat → Nat → Int64} (hk : bf_kd o = 12) {r : Int32 × bf_St} (hf : f_X12_told o a0 I L = some r) : bf_Cn Γ 14 mu_X12_told 0 0 [.ref (ad o), .int a0] (bf_S ad I L) (fun q h => q = some (.int r.1) ∧ h = bf_S ad r.2.1 r.2.2) := by
  refine bf_met rfl (Nat.le_of_ble_eq_true rfl) ?_
  unfold f_X12_told at hf
  refine bf_iload_n 1 dX12_told_0 rfl rfl ?_
  refine bf_iconst (v := 5) dX12_told_1 (by decide) ?_
  refine bf_icmp_ne 10 dX12_told_2 (by decide) (fun c1 => ?_) (fun c1 => ?_)
  · have hf := (if_neg c1).symm.trans hf
    refine bf_iload_n 1 dX12_told_10 rfl rfl ?_
    refine bf_i2l dX12_told_11 ?_
    refine bf_lconst (v := 0) dX12_told_12 (by decide) ?_
    refine bf_ldc2 dX12_told_13 wk_X12_65 ?_
    obtain ⟨r3, e2, hf⟩ := bf_bind hf
    have hCe2 := ok_X12_in (Γ := Γ) (ad := ad)  e2
    refine cv_X12_61 0 dX12_told_16 rfl ⟨Nat.le_of_ble_eq_true rfl, Nat.le_of_ble_eq_true rfl⟩ (Nat.le_of_ble_eq_true rfl) hCe2 ?_
    refine bf_if_ne 24 dX12_told_19 (by decide) (fun c4 => ?_) (fun c4 => ?_)
    · have hf := (if_neg c4).symm.trans hf
      refine bf_aload_n 0 dX12_told_24 rfl rfl ?_
      obtain ⟨r6, e5, hf⟩ := bf_bind hf
      have hCe5 := ok_X12_isEven (Γ := Γ) (ad := ad) hk e5
      refine cv_X12_220 3 dX12_told_25 rfl ⟨Nat.le_of_ble_eq_true rfl, Nat.le_of_ble_eq_true rfl⟩ (Nat.le_of_ble_eq_true rfl) hk hCe5 ?_
      refine bf_istore_n (lv2 := [(2, .int _), (0, .ref _), (1, .int _)]) dX12_told_28 rfl (by decide) rfl ?_
      refine bf_iload_n 2 dX12_told_29 rfl rfl ?_
      refine bf_if_eq 37 dX12_told_30 (by decide) (fun c7 => ?_) (fun c7 => ?_)
      · have hf := (if_pos c7).symm.trans hf
        refine bf_perm [2, 0] rfl ?_
        exact ok_X12_told_p37   hf
      · have hf := (if_neg c7).symm.trans hf
        refine bf_iload_n 0 dX12_told_33 rfl rfl ?_
        refine bf_if_ne 56 dX12_told_34 (by decide) (fun c10 => ?_) (fun c10 => ?_)
        · have hf := (if_neg c10).symm.trans hf
          refine bf_iload_n 2 dX12_told_56 rfl rfl ?_
          refine bf_iconst (v := 1) dX12_told_57 (by decide) ?_
          refine bf_icmp_ne 68 dX12_told_58 (by decide) (fun c11 => ?_) (fun c11 => ?_)
          · have hf := (if_neg c11).symm.trans hf
            refine bf_iload_n 2 dX12_told_68 rfl rfl ?_
            refine bf_iconst (v := 2) dX12_told_69 (by decide) ?_
            refine bf_icmp_ne 82 dX12_told_70 (by decide) (fun c12 => ?_) (fun c12 => ?_)
            · have hf := (if_neg c12).symm.trans hf
              refine bf_iload_n 2 dX12_told_82 rfl rfl ?_
              refine bf_iconst (v := 3) dX12_told_83 (by decide) ?_
              refine bf_icmp_ne 94 dX12_told_84 (by decide) (fun c13 => ?_) (fun c13 => ?_)
              · have hf := (if_neg c13).symm.trans hf
                refine bf_aload_n 1 dX12_told_94 rfl rfl ?_
                obtain ⟨r15, e14, hf⟩ := bf_bind hf
                have hCe14 := ok_X12_leastHold (Γ := Γ) (ad := ad) hk e14
                refine cv_X12_248 13 dX12_told_95 rfl ⟨Nat.le_of_ble_eq_true rfl, Nat.le_of_ble_eq_true rfl⟩ (Nat.le_of_ble_eq_true rfl) hk hCe14 ?_
                obtain rfl := Option.some.inj hf
                exact bf_iret dX12_told_98 rfl (Nat.le_refl _) (Nat.le_refl _) ⟨rfl, rfl⟩
              · have hf := (if_pos c13).symm.trans hf
                refine bf_aload_n 1 dX12_told_87 rfl rfl ?_
                obtain ⟨r17, e16, hf⟩ := bf_bind hf
                have hCe16 := ok_X12_hold (Γ := Γ) (ad := ad) hk e16
                refine cv_X12_245 6 dX12_told_88 rfl ⟨Nat.le_of_ble_eq_true rfl, Nat.le_of_ble_eq_true rfl⟩ (Nat.le_of_ble_eq_true rfl) hk hCe16 ?_
                refine bf_goto 98 dX12_told_91 (by decide) ?_
                obtain rfl := Option.some.inj hf
                exact bf_iret dX12_told_98 rfl (Nat.le_refl _) (Nat.le_refl _) ⟨rfl, rfl⟩
            · have hf := (if_pos c12).symm.trans hf
              refine bf_iconst (v := 1) dX12_told_73 (by decide) ?_
              refine bf_aload_n 1 dX12_told_74 rfl rfl ?_
              obtain ⟨r19, e18, hf⟩ := bf_bind hf
              have hCe18 := ok_X12_thinks (Γ := Γ) (ad := ad) hk e18
              refine cv_X12_226 5 dX12_told_75 rfl ⟨Nat.le_of_ble_eq_true rfl, Nat.le_of_ble_eq_true rfl⟩ (Nat.le_of_ble_eq_true rfl) hk hCe18 ?_
              refine bf_isub dX12_told_78 ?_
              refine bf_goto 98 dX12_told_79 (by decide) ?_
              obtain rfl := Option.some.inj hf
              exact bf_iret dX12_told_98 rfl (Nat.le_refl _) (Nat.le_refl _) ⟨rfl, rfl⟩
          · have hf := (if_pos c11).symm.trans hf
            refine bf_aload_n 1 dX12_told_61 rfl rfl ?_
            obtain ⟨r21, e20, hf⟩ := bf_bind hf
            have hCe20 := ok_X12_timesAll (Γ := Γ) (ad := ad) hk e20
            refine cv_X12_239 0 dX12_told_62 rfl ⟨Nat.le_of_ble_eq_true rfl, Nat.le_of_ble_eq_true rfl⟩ (Nat.le_of_ble_eq_true rfl) hk hCe20 ?_
            refine bf_goto 98 dX12_told_65 (by decide) ?_
            obtain rfl := Option.some.inj hf
            exact bf_iret dX12_told_98 rfl (Nat.le_refl _) (Nat.le_refl _) ⟨rfl, rfl⟩
        · have hf := (if_pos c10).symm.trans hf
          refine bf_perm [2, 0] rfl ?_
          exact ok_X12_told_p37   hf
    · have hf := (if_pos c4).symm.trans hf
      refine bf_iconst (v := -1) dX12_told_22 (by decide) ?_
      obtain rfl := Option.some.inj hf
      exact bf_iret dX12_told_23 rfl (Nat.le_refl _) (Nat.le_refl _) ⟨rfl, rfl⟩
  · have hf := (if_pos c1).symm.trans hf
    refine bf_aload_n 0 dX12_told_5 rfl rfl ?_
    obtain ⟨r23, e22, hf⟩ := bf_bind hf
    have hCe22 := ok_X12_tokensAll (Γ := Γ) (ad := ad) hk e22
    refine cv_X12_242 2 dX12_told_6 rfl ⟨Nat.le_of_ble_eq_true rfl, Nat.le_of_ble_eq_true rfl⟩ (Nat.le_of_ble_eq_true rfl) hk hCe22 ?_
    obtain rfl := Option.some.inj hf
    exact bf_iret dX12_told_9 rfl (Nat.le_refl _) (Nat.le_refl _) ⟨rfl, rfl⟩
def f_X12_when (o : Nat) (a0 : Int32) (I : Nat → Nat → Int32) (L : Nat → Nat → Int64) : Option (Int32 × bf_St) :=
  (if 0 ≤ a0 then ((f_X12_isEven o I L).bind (fun r3 => (if r3.1 = 0 then (some ((-5 : Int32), r3.2.1, r3.2.2)) else ((f_X12_thinks o (bf_u r3.2.1 o 19 a0) r3.2.2).bind (fun r6 => (some ((r6.2.1 o 20), r6.2.1, r6.2.2))))))) else (some ((-1 : Int32), I, L)))
set_option maxRecDepth 100000 in
set_option maxHeartbeats 4000000 in
theorem ok_X12_when {Γ : bf_Gm} {ad : Nat → Nat} {o : Nat} {a0 : Int32} {I : Nat → Nat → Int32} {L : Nat → Nat → Int64} (hk : bf_kd o = 12) {r : Int32 × bf_St} (hf : f_X12_when o a0 I L = some r) : bf_Cn Γ 6 mu_X12_when 0 0 [.ref (ad o), .int a0] (bf_S ad I L) (fun q h => q = some (.int r.1) ∧ h = bf_S ad r.2.1 r.2.2) := by
  refine bf_met rfl (Nat.le_of_ble_eq_true rfl) ?_
  unfold f_X12_when at hf
  refine bf_iload_n 1 dX12_when_0 rfl rfl ?_
  refine bf_if_ge 6 dX12_when_1 (by decide) (fun c1 => ?_) (fun c1 => ?_)
  · have hf := (if_pos c1).symm.trans hf
    refine bf_aload_n 0 dX12_when_6 rfl rfl ?_
    obtain ⟨r3, e2, hf⟩ := bf_bind hf
    have hCe2 := ok_X12_isEven (Γ := Γ) (ad := ad) hk e2
    refine cv_X12_220 3 dX12_when_7 rfl ⟨Nat.le_of_ble_eq_true rfl, Nat.le_of_ble_eq_true rfl⟩ (Nat.le_of_ble_eq_true rfl) hk hCe2 ?_
    refine bf_if_ne 16 dX12_when_10 (by decide) (fun c4 => ?_) (fun c4 => ?_)
    · have hf := (if_neg c4).symm.trans hf
      refine bf_aload_n 0 dX12_when_16 rfl rfl ?_
      refine bf_iload_n 1 dX12_when_17 rfl rfl ?_
      refine fp_X12_207 dX12_when_18 rfl hk ?_
      refine bf_aload_n 0 dX12_when_21 rfl rfl ?_
      obtain ⟨r6, e5, hf⟩ := bf_bind hf
      have hCe5 := ok_X12_thinks (Γ := Γ) (ad := ad) hk e5
      refine cv_X12_226 5 dX12_when_22 rfl ⟨Nat.le_of_ble_eq_true rfl, Nat.le_of_ble_eq_true rfl⟩ (Nat.le_of_ble_eq_true rfl) hk hCe5 ?_
      refine bf_istore_n (lv2 := [(2, .int _), (0, .ref _), (1, .int _)]) dX12_when_25 rfl (by decide) rfl ?_
      refine bf_aload_n 1 dX12_when_26 rfl rfl ?_
      refine fg_X12_197 dX12_when_27 rfl hk ?_
      obtain rfl := Option.some.inj hf
      exact bf_iret dX12_when_30 rfl (Nat.le_refl _) (Nat.le_refl _) ⟨rfl, rfl⟩
    · have hf := (if_pos c4).symm.trans hf
      refine bf_bipush (v := -5) dX12_when_13 (by decide) ?_
      obtain rfl := Option.some.inj hf
      exact bf_iret dX12_when_15 rfl (Nat.le_refl _) (Nat.le_refl _) ⟨rfl, rfl⟩
  · have hf := (if_neg c1).symm.trans hf
    refine bf_iconst (v := -1) dX12_when_4 (by decide) ?_
    obtain rfl := Option.some.inj hf
    exact bf_iret dX12_when_5 rfl (Nat.le_refl _) (Nat.le_refl _) ⟨rfl, rfl⟩
def f_X12_reached_13 (v0 : Nat) (v1 : Int32) (v3 : Int32) (K : Int32 → (Nat → Nat → Int32) → (Nat → Nat → Int64) → Option (Int32 × bf_St)) : Nat → Int32 → Int32 → (Nat → Nat → Int32) → (Nat → Nat → Int64) → Option (Int32 × bf_St)
  | 0, _, _, _, _ => none
  | n + 1, v2, v4, I, L =>
    (if (I (v0 + 1) (1 : Int32).toNatClampNeg) ≤ v4 then (K v2 I L) else ((f_X12_isWire v0 v4 I L).bind (fun r4 => (if r4.1 = 0 then (f_X12_reached_13 v0 v1 v3 K n (v2 ||| (0 : Int32)) (v4 + (1 : Int32)) r4.2.1 r4.2.2) else ((f_X12_from v0 v4 r4.2.1 r4.2.2).bind (fun r7 => (if r7.1 = v1 then ((f_X12_to v0 v4 r7.2.1 r7.2.2).bind (fun r10 => (f_X12_reached_13 v0 v1 v3 K n (v2 ||| ((1 : Int32) <<< (r10.1 &&& 31))) (v4 + (1 : Int32)) r10.2.1 r10.2.2))) else ((f_X12_from v0 v4 r7.2.1 r7.2.2).bind (fun r12 => (if ((v2 >>> (r12.1 &&& 31)) &&& (1 : Int32)) = (1 : Int32) then ((f_X12_to v0 v4 r12.2.1 r12.2.2).bind (fun r15 => (f_X12_reached_13 v0 v1 v3 K n (v2 ||| ((1 : Int32) <<< (r15.1 &&& 31))) (v4 + (1 : Int32)) r15.2.1 r15.2.2))) else (f_X12_reached_13 v0 v1 v3 K n (v2 ||| (0 : Int32)) (v4 + (1 : Int32)) r12.2.1 r12.2.2)))))))))))
set_option maxRecDepth 100000 in
set_option maxHeartbeats 4000000 in
theorem ok_X12_reached_13 {Γ : bf_Gm} {ad : Nat → Nat} {v0 : Nat} {v1 : Int32} {v3 : Int32} (hv0 : bf_kd v0 = 12) {r : Int32 × bf_St} {K : Int32 → (Nat → Nat → Int32) → (Nat → Nat → Int64) → Option (Int32 × bf_St)} (hK : ∀ (v2 : Int32) (I : Nat → Nat → Int32) (L : Nat → Nat → Int64), K v2 I L = some r → bf_Go Γ (bf_rm 2 0 0) mu_X12_reached bf_E0 (bf_Z Γ (fun q h => q = some (.int r.1) ∧ h = bf_S ad r.2.1 r.2.2) 0 0) (0, 0) 90 [(0, .ref (ad v0)), (1, .int v1), (2, .int v2), (3, .int v3)] [] (bf_S ad I L)) : ∀ (n : Nat) (v2 : Int32) (v4 : Int32) (I : Nat → Nat → Int32) (L : Nat → Nat → Int64), f_X12_reached_13 v0 v1 v3 K n v2 v4 I L = some r → bf_Go Γ (bf_rm 2 0 0) mu_X12_reached bf_E0 (bf_Z Γ (fun q h => q = some (.int r.1) ∧ h = bf_S ad r.2.1 r.2.2) 0 0) (0, 0) 13 [(0, .ref (ad v0)), (1, .int v1), (2, .int v2), (3, .int v3), (4, .int v4)] [] (bf_S ad I L) := by
  intro n
  induction n with
  | zero => intro v2 v4 I L hf; exact absurd (show none = some r from hf) (by simp)
  | succ n ih =>
    intro v2 v4 I L hf
    rw [f_X12_reached_13] at hf
    refine bf_iload 4 dX12_reached_13 rfl ?_
    refine bf_aload_n 0 dX12_reached_15 rfl rfl ?_
    refine fg_X12_11 dX12_reached_16 rfl hv0 ?_
    refine bf_iconst (v := 1) dX12_reached_19 (by decide) ?_
    refine bf_iald dX12_reached_20 (kr_12_0 hv0) (by rw [(kl_12_0 hv0)]; decide) ?_
    refine bf_icmp_ge 90 dX12_reached_21 (by decide) (fun c2 => ?_) (fun c2 => ?_)
    · have hf := (if_pos c2).symm.trans hf
      refine bf_perm [0, 1, 2, 3] rfl ?_
      exact hK _ _ _ hf
    · have hf := (if_neg c2).symm.trans hf
      refine bf_aload_n 0 dX12_reached_24 rfl rfl ?_
      refine bf_iload 4 dX12_reached_25 rfl ?_
      obtain ⟨r4, e3, hf⟩ := bf_bind hf
      have hCe3 := ok_X12_isWire (Γ := Γ) (ad := ad) hv0 e3
      refine cv_X12_73 1 dX12_reached_27 rfl ⟨Nat.le_of_ble_eq_true rfl, Nat.le_of_ble_eq_true rfl⟩ (Nat.le_of_ble_eq_true rfl) hv0 hCe3 ?_
      refine bf_if_eq 61 dX12_reached_30 (by decide) (fun c5 => ?_) (fun c5 => ?_)
      · have hf := (if_pos c5).symm.trans hf
        refine bf_iconst (v := 0) dX12_reached_61 (by decide) ?_
        refine bf_istore (lv2 := [(5, .int _), (0, .ref _), (1, .int _), (2, .int _), (3, .int _), (4, .int _)]) dX12_reached_62 (by decide) rfl ?_
        refine bf_iload_n 3 dX12_reached_64 rfl rfl ?_
        refine bf_iload 0 dX12_reached_65 rfl ?_
        refine bf_if_eq 81 dX12_reached_67 (by decide) (fun _ => ?_) (fun q => absurd q (by decide))
        refine bf_iconst (v := 0) dX12_reached_81 (by decide) ?_
        refine bf_ior dX12_reached_82 ?_
        refine bf_istore_n (lv2 := [(2, .int _), (5, .int _), (0, .ref _), (1, .int _), (3, .int _), (4, .int _)]) dX12_reached_83 rfl (by decide) rfl ?_
        refine bf_iinc 5 (v := _ + (1 : Int32)) (lv2 := [(4, .int _), (2, .int _), (5, .int _), (0, .ref _), (1, .int _), (3, .int _)]) dX12_reached_84 rfl (by rfl) (by decide) rfl ?_
        refine bf_goto 13 dX12_reached_87 (by decide) ?_
        refine bf_perm [3, 4, 1, 5, 0] rfl ?_
        exact ih _ _ _ _ hf
      · have hf := (if_neg c5).symm.trans hf
        refine bf_aload_n 0 dX12_reached_33 rfl rfl ?_
        refine bf_iload 4 dX12_reached_34 rfl ?_
        obtain ⟨r7, e6, hf⟩ := bf_bind hf
        have hCe6 := ok_X12_from (Γ := Γ) (ad := ad) hv0 e6
        refine cv_X12_127 0 dX12_reached_36 rfl ⟨Nat.le_of_ble_eq_true rfl, Nat.le_of_ble_eq_true rfl⟩ (Nat.le_of_ble_eq_true rfl) hv0 hCe6 ?_
        refine bf_iload_n 1 dX12_reached_39 rfl rfl ?_
        refine bf_icmp_eq 57 dX12_reached_40 (by decide) (fun c8 => ?_) (fun c8 => ?_)
        · have hf := (if_pos c8).symm.trans hf
          refine bf_iconst (v := 1) dX12_reached_57 (by decide) ?_
          refine bf_goto 62 dX12_reached_58 (by decide) ?_
          refine bf_istore (lv2 := [(5, .int _), (0, .ref _), (1, .int _), (2, .int _), (3, .int _), (4, .int _)]) dX12_reached_62 (by decide) rfl ?_
          refine bf_iload_n 3 dX12_reached_64 rfl rfl ?_
          refine bf_iload 0 dX12_reached_65 rfl ?_
          refine bf_if_eq 81 dX12_reached_67 (by decide) (fun q => absurd q (by decide)) (fun _ => ?_)
          refine bf_iconst (v := 1) dX12_reached_70 (by decide) ?_
          refine bf_aload_n 1 dX12_reached_71 rfl rfl ?_
          refine bf_iload 5 dX12_reached_72 rfl ?_
          obtain ⟨r10, e9, hf⟩ := bf_bind hf
          have hCe9 := ok_X12_to (Γ := Γ) (ad := ad) hv0 e9
          refine cv_X12_121 0 dX12_reached_74 rfl ⟨Nat.le_of_ble_eq_true rfl, Nat.le_of_ble_eq_true rfl⟩ (Nat.le_of_ble_eq_true rfl) hv0 hCe9 ?_
          refine bf_ishl dX12_reached_77 ?_
          refine bf_goto 82 dX12_reached_78 (by decide) ?_
          refine bf_ior dX12_reached_82 ?_
          refine bf_istore_n (lv2 := [(2, .int _), (5, .int _), (0, .ref _), (1, .int _), (3, .int _), (4, .int _)]) dX12_reached_83 rfl (by decide) rfl ?_
          refine bf_iinc 5 (v := _ + (1 : Int32)) (lv2 := [(4, .int _), (2, .int _), (5, .int _), (0, .ref _), (1, .int _), (3, .int _)]) dX12_reached_84 rfl (by rfl) (by decide) rfl ?_
          refine bf_goto 13 dX12_reached_87 (by decide) ?_
          refine bf_perm [3, 4, 1, 5, 0] rfl ?_
          exact ih _ _ _ _ hf
        · have hf := (if_neg c8).symm.trans hf
          refine bf_iload_n 2 dX12_reached_43 rfl rfl ?_
          refine bf_aload_n 0 dX12_reached_44 rfl rfl ?_
          refine bf_iload 4 dX12_reached_45 rfl ?_
          obtain ⟨r12, e11, hf⟩ := bf_bind hf
          have hCe11 := ok_X12_from (Γ := Γ) (ad := ad) hv0 e11
          refine cv_X12_127 0 dX12_reached_47 rfl ⟨Nat.le_of_ble_eq_true rfl, Nat.le_of_ble_eq_true rfl⟩ (Nat.le_of_ble_eq_true rfl) hv0 hCe11 ?_
          refine bf_ishr dX12_reached_50 ?_
          refine bf_iconst (v := 1) dX12_reached_51 (by decide) ?_
          refine bf_iand dX12_reached_52 ?_
          refine bf_iconst (v := 1) dX12_reached_53 (by decide) ?_
          refine bf_icmp_ne 61 dX12_reached_54 (by decide) (fun c13 => ?_) (fun c13 => ?_)
          · have hf := (if_neg c13).symm.trans hf
            refine bf_iconst (v := 0) dX12_reached_61 (by decide) ?_
            refine bf_istore (lv2 := [(5, .int _), (0, .ref _), (1, .int _), (2, .int _), (3, .int _), (4, .int _)]) dX12_reached_62 (by decide) rfl ?_
            refine bf_iload_n 3 dX12_reached_64 rfl rfl ?_
            refine bf_iload 0 dX12_reached_65 rfl ?_
            refine bf_if_eq 81 dX12_reached_67 (by decide) (fun _ => ?_) (fun q => absurd q (by decide))
            refine bf_iconst (v := 0) dX12_reached_81 (by decide) ?_
            refine bf_ior dX12_reached_82 ?_
            refine bf_istore_n (lv2 := [(2, .int _), (5, .int _), (0, .ref _), (1, .int _), (3, .int _), (4, .int _)]) dX12_reached_83 rfl (by decide) rfl ?_
            refine bf_iinc 5 (v := _ + (1 : Int32)) (lv2 := [(4, .int _), (2, .int _), (5, .int _), (0, .ref _), (1, .int _), (3, .int _)]) dX12_reached_84 rfl (by rfl) (by decide) rfl ?_
            refine bf_goto 13 dX12_reached_87 (by decide) ?_
            refine bf_perm [3, 4, 1, 5, 0] rfl ?_
            exact ih _ _ _ _ hf
          · have hf := (if_pos c13).symm.trans hf
            refine bf_iconst (v := 1) dX12_reached_57 (by decide) ?_
            refine bf_goto 62 dX12_reached_58 (by decide) ?_
            refine bf_istore (lv2 := [(5, .int _), (0, .ref _), (1, .int _), (2, .int _), (3, .int _), (4, .int _)]) dX12_reached_62 (by decide) rfl ?_
            refine bf_iload_n 3 dX12_reached_64 rfl rfl ?_
            refine bf_iload 0 dX12_reached_65 rfl ?_
            refine bf_if_eq 81 dX12_reached_67 (by decide) (fun q => absurd q (by decide)) (fun _ => ?_)
            refine bf_iconst (v := 1) dX12_reached_70 (by decide) ?_
            refine bf_aload_n 1 dX12_reached_71 rfl rfl ?_
            refine bf_iload 5 dX12_reached_72 rfl ?_
            obtain ⟨r15, e14, hf⟩ := bf_bind hf
            have hCe14 := ok_X12_to (Γ := Γ) (ad := ad) hv0 e14
            refine cv_X12_121 0 dX12_reached_74 rfl ⟨Nat.le_of_ble_eq_true rfl, Nat.le_of_ble_eq_true rfl⟩ (Nat.le_of_ble_eq_true rfl) hv0 hCe14 ?_
            refine bf_ishl dX12_reached_77 ?_
            refine bf_goto 82 dX12_reached_78 (by decide) ?_
            refine bf_ior dX12_reached_82 ?_
            refine bf_istore_n (lv2 := [(2, .int _), (5, .int _), (0, .ref _), (1, .int _), (3, .int _), (4, .int _)]) dX12_reached_83 rfl (by decide) rfl ?_
            refine bf_iinc 5 (v := _ + (1 : Int32)) (lv2 := [(4, .int _), (2, .int _), (5, .int _), (0, .ref _), (1, .int _), (3, .int _)]) dX12_reached_84 rfl (by rfl) (by decide) rfl ?_
            refine bf_goto 13 dX12_reached_87 (by decide) ?_
            refine bf_perm [3, 4, 1, 5, 0] rfl ?_
            exact ih _ _ _ _ hf
def f_X12_reached_4 (v0 : Nat) (v1 : Int32) (K : Int32 → (Nat → Nat → Int32) → (Nat → Nat → Int64) → Option (Int32 × bf_St)) : Nat → Int32 → Int32 → (Nat → Nat → Int32) → (Nat → Nat → Int64) → Option (Int32 × bf_St)
  | 0, _, _, _, _ => none
  | n + 1, v2, v3, I, L =>
    (if (7 : Int32) ≤ v3 then (K v2 I L) else (f_X12_reached_13 v0 v1 v3 (fun k2_16 I16 L16 => (f_X12_reached_4 v0 v1 K n k2_16 (v3 + (1 : Int32)) I16 L16)) 400 v2 (0 : Int32) I L))
set_option maxRecDepth 100000 in
set_option maxHeartbeats 4000000 in
theorem ok_X12_reached_4 {Γ : bf_Gm} {ad : Nat → Nat} {v0 : Nat} {v1 : Int32} (hv0 : bf_kd v0 = 12) {r : Int32 × bf_St} {K : Int32 → (Nat → Nat → Int32) → (Nat → Nat → Int64) → Option (Int32 × bf_St)} (hK : ∀ (v2 : Int32) (I : Nat → Nat → Int32) (L : Nat → Nat → Int64), K v2 I L = some r → bf_Go Γ (bf_rm 2 0 0) mu_X12_reached bf_E0 (bf_Z Γ (fun q h => q = some (.int r.1) ∧ h = bf_S ad r.2.1 r.2.2) 0 0) (0, 0) 96 [(2, .int v2)] [] (bf_S ad I L)) : ∀ (n : Nat) (v2 : Int32) (v3 : Int32) (I : Nat → Nat → Int32) (L : Nat → Nat → Int64), f_X12_reached_4 v0 v1 K n v2 v3 I L = some r → bf_Go Γ (bf_rm 2 0 0) mu_X12_reached bf_E0 (bf_Z Γ (fun q h => q = some (.int r.1) ∧ h = bf_S ad r.2.1 r.2.2) 0 0) (0, 0) 4 [(0, .ref (ad v0)), (1, .int v1), (2, .int v2), (3, .int v3)] [] (bf_S ad I L) := by
  intro n
  induction n with
  | zero => intro v2 v3 I L hf; exact absurd (show none = some r from hf) (by simp)
  | succ n ih =>
    intro v2 v3 I L hf
    rw [f_X12_reached_4] at hf
    refine bf_iload_n 3 dX12_reached_4 rfl rfl ?_
    refine bf_bipush (v := 7) dX12_reached_5 (by decide) ?_
    refine bf_icmp_ge 96 dX12_reached_7 (by decide) (fun c1 => ?_) (fun c1 => ?_)
    · have hf := (if_pos c1).symm.trans hf
      refine bf_perm [2] rfl ?_
      exact hK _ _ _ hf
    · have hf := (if_neg c1).symm.trans hf
      refine bf_iconst (v := 0) dX12_reached_10 (by decide) ?_
      refine bf_istore (lv2 := [(4, .int _), (0, .ref _), (1, .int _), (2, .int _), (3, .int _)]) dX12_reached_11 (by decide) rfl ?_
      refine bf_perm [1, 2, 3, 4, 0] rfl ?_
      refine ok_X12_reached_13 hv0 (fun k2_16 I16 L16 hf => ?_) _ _ _ _ _  hf
      refine bf_iinc 3 (v := _ + (1 : Int32)) (lv2 := [(3, .int _), (0, .ref _), (1, .int _), (2, .int _)]) dX12_reached_90 rfl (by rfl) (by decide) rfl ?_
      refine bf_goto 4 dX12_reached_93 (by decide) ?_
      refine bf_perm [1, 2, 3, 0] rfl ?_
      exact ih _ _ _ _ hf
def f_X12_reached (o : Nat) (a0 : Int32) (I : Nat → Nat → Int32) (L : Nat → Nat → Int64) : Option (Int32 × bf_St) :=
  (f_X12_reached_4 o a0 (fun k2_17 I17 L17 => (some (k2_17, I17, L17))) 400 (0 : Int32) (0 : Int32) I L)
set_option maxRecDepth 100000 in
set_option maxHeartbeats 4000000 in
theorem ok_X12_reached {Γ : bf_Gm} {ad : Nat → Nat} {o : Nat} {a0 : Int32} {I : Nat → Nat → Int32} {L : Nat → Nat → Int64} (hk : bf_kd o = 12) {r : Int32 × bf_St} (hf : f_X12_reached o a0 I L = some r) : bf_Cn Γ 2 mu_X12_reached 0 0 [.ref (ad o), .int a0] (bf_S ad I L) (fun q h => q = some (.int r.1) ∧ h = bf_S ad r.2.1 r.2.2) := by
  refine bf_met rfl (Nat.le_of_ble_eq_true rfl) ?_
  unfold f_X12_reached at hf
  refine bf_iconst (v := 0) dX12_reached_0 (by decide) ?_
  refine bf_istore_n (lv2 := [(2, .int _), (0, .ref _), (1, .int _)]) dX12_reached_1 rfl (by decide) rfl ?_
  refine bf_iconst (v := 0) dX12_reached_2 (by decide) ?_
  refine bf_istore_n (lv2 := [(3, .int _), (2, .int _), (0, .ref _), (1, .int _)]) dX12_reached_3 rfl (by decide) rfl ?_
  refine bf_perm [2, 3, 1, 0] rfl ?_
  refine ok_X12_reached_4 hk (fun k2_17 I17 L17 hf => ?_) _ _ _ _ _  hf
  refine bf_iload_n 0 dX12_reached_96 rfl rfl ?_
  obtain rfl := Option.some.inj hf
  exact bf_iret dX12_reached_97 rfl (Nat.le_refl _) (Nat.le_refl _) ⟨rfl, rfl⟩
def f_X12_feedback_11 (v0 : Nat) (v1 : Int32) (v3 : Int32) (K : Int32 → (Nat → Nat → Int32) → (Nat → Nat → Int64) → Option (Int32 × bf_St)) : Nat → Int32 → Int32 → (Nat → Nat → Int32) → (Nat → Nat → Int64) → Option (Int32 × bf_St)
  | 0, _, _, _, _ => none
  | n + 1, v2, v4, I, L =>
    (if (I (v0 + 1) (0 : Int32).toNatClampNeg) ≤ v4 then (K v2 I L) else (if ((v3 >>> (v4 &&& 31)) &&& (1 : Int32)) = (1 : Int32) then ((f_X12_reached v0 v4 I L).bind (fun r6 => (if ((r6.1 >>> (v1 &&& 31)) &&& (1 : Int32)) = (1 : Int32) then (f_X12_feedback_11 v0 v1 v3 K n (v2 ||| ((1 : Int32) <<< (v4 &&& 31))) (v4 + (1 : Int32)) r6.2.1 r6.2.2) else (f_X12_feedback_11 v0 v1 v3 K n (v2 ||| (0 : Int32)) (v4 + (1 : Int32)) r6.2.1 r6.2.2)))) else (f_X12_feedback_11 v0 v1 v3 K n (v2 ||| (0 : Int32)) (v4 + (1 : Int32)) I L)))
set_option maxRecDepth 100000 in
set_option maxHeartbeats 4000000 in
theorem ok_X12_feedback_11 {Γ : bf_Gm} {ad : Nat → Nat} {v0 : Nat} {v1 : Int32} {v3 : Int32} (hv0 : bf_kd v0 = 12) {r : Int32 × bf_St} {K : Int32 → (Nat → Nat → Int32) → (Nat → Nat → Int64) → Option (Int32 × bf_St)} (hK : ∀ (v2 : Int32) (I : Nat → Nat → Int32) (L : Nat → Nat → Int64), K v2 I L = some r → bf_Go Γ (bf_rm 3 0 0) mu_X12_feedback bf_E0 (bf_Z Γ (fun q h => q = some (.int r.1) ∧ h = bf_S ad r.2.1 r.2.2) 0 0) (0, 0) 63 [(2, .int v2)] [] (bf_S ad I L)) : ∀ (n : Nat) (v2 : Int32) (v4 : Int32) (I : Nat → Nat → Int32) (L : Nat → Nat → Int64), f_X12_feedback_11 v0 v1 v3 K n v2 v4 I L = some r → bf_Go Γ (bf_rm 3 0 0) mu_X12_feedback bf_E0 (bf_Z Γ (fun q h => q = some (.int r.1) ∧ h = bf_S ad r.2.1 r.2.2) 0 0) (0, 0) 11 [(0, .ref (ad v0)), (1, .int v1), (2, .int v2), (3, .int v3), (4, .int v4)] [] (bf_S ad I L) := by
  intro n
  induction n with
  | zero => intro v2 v4 I L hf; exact absurd (show none = some r from hf) (by simp)
  | succ n ih =>
    intro v2 v4 I L hf
    rw [f_X12_feedback_11] at hf
    refine bf_iload 4 dX12_feedback_11 rfl ?_
    refine bf_aload_n 0 dX12_feedback_13 rfl rfl ?_
    refine fg_X12_11 dX12_feedback_14 rfl hv0 ?_
    refine bf_iconst (v := 0) dX12_feedback_17 (by decide) ?_
    refine bf_iald dX12_feedback_18 (kr_12_0 hv0) (by rw [(kl_12_0 hv0)]; decide) ?_
    refine bf_icmp_ge 63 dX12_feedback_19 (by decide) (fun c3 => ?_) (fun c3 => ?_)
    · have hf := (if_pos c3).symm.trans hf
      refine bf_perm [2] rfl ?_
      exact hK _ _ _ hf
    · have hf := (if_neg c3).symm.trans hf
      refine bf_iload_n 2 dX12_feedback_22 rfl rfl ?_
      refine bf_iload_n 3 dX12_feedback_23 rfl rfl ?_
      refine bf_iload 4 dX12_feedback_24 rfl ?_
      refine bf_ishr dX12_feedback_26 ?_
      refine bf_iconst (v := 1) dX12_feedback_27 (by decide) ?_
      refine bf_iand dX12_feedback_28 ?_
      refine bf_iconst (v := 1) dX12_feedback_29 (by decide) ?_
      refine bf_icmp_ne 54 dX12_feedback_30 (by decide) (fun c4 => ?_) (fun c4 => ?_)
      · have hf := (if_neg c4).symm.trans hf
        refine bf_iconst (v := 0) dX12_feedback_54 (by decide) ?_
        refine bf_ior dX12_feedback_55 ?_
        refine bf_istore_n (lv2 := [(2, .int _), (0, .ref _), (1, .int _), (3, .int _), (4, .int _)]) dX12_feedback_56 rfl (by decide) rfl ?_
        refine bf_iinc 4 (v := _ + (1 : Int32)) (lv2 := [(4, .int _), (2, .int _), (0, .ref _), (1, .int _), (3, .int _)]) dX12_feedback_57 rfl (by rfl) (by decide) rfl ?_
        refine bf_goto 11 dX12_feedback_60 (by decide) ?_
        refine bf_perm [2, 3, 1, 4, 0] rfl ?_
        exact ih _ _ _ _ hf
      · have hf := (if_pos c4).symm.trans hf
        refine bf_aload_n 0 dX12_feedback_33 rfl rfl ?_
        refine bf_iload 4 dX12_feedback_34 rfl ?_
        obtain ⟨r6, e5, hf⟩ := bf_bind hf
        have hCe5 := ok_X12_reached (Γ := Γ) (ad := ad) hv0 e5
        refine cv_X12_251 2 dX12_feedback_36 rfl ⟨Nat.le_of_ble_eq_true rfl, Nat.le_of_ble_eq_true rfl⟩ (Nat.le_of_ble_eq_true rfl) hv0 hCe5 ?_
        refine bf_iload_n 1 dX12_feedback_39 rfl rfl ?_
        refine bf_ishr dX12_feedback_40 ?_
        refine bf_iconst (v := 1) dX12_feedback_41 (by decide) ?_
        refine bf_iand dX12_feedback_42 ?_
        refine bf_iconst (v := 1) dX12_feedback_43 (by decide) ?_
        refine bf_icmp_ne 54 dX12_feedback_44 (by decide) (fun c7 => ?_) (fun c7 => ?_)
        · have hf := (if_neg c7).symm.trans hf
          refine bf_iconst (v := 0) dX12_feedback_54 (by decide) ?_
          refine bf_ior dX12_feedback_55 ?_
          refine bf_istore_n (lv2 := [(2, .int _), (0, .ref _), (1, .int _), (3, .int _), (4, .int _)]) dX12_feedback_56 rfl (by decide) rfl ?_
          refine bf_iinc 4 (v := _ + (1 : Int32)) (lv2 := [(4, .int _), (2, .int _), (0, .ref _), (1, .int _), (3, .int _)]) dX12_feedback_57 rfl (by rfl) (by decide) rfl ?_
          refine bf_goto 11 dX12_feedback_60 (by decide) ?_
          refine bf_perm [2, 3, 1, 4, 0] rfl ?_
          exact ih _ _ _ _ hf
        · have hf := (if_pos c7).symm.trans hf
          refine bf_iconst (v := 1) dX12_feedback_47 (by decide) ?_
          refine bf_iload 4 dX12_feedback_48 rfl ?_
          refine bf_ishl dX12_feedback_50 ?_
          refine bf_goto 55 dX12_feedback_51 (by decide) ?_
          refine bf_ior dX12_feedback_55 ?_
          refine bf_istore_n (lv2 := [(2, .int _), (0, .ref _), (1, .int _), (3, .int _), (4, .int _)]) dX12_feedback_56 rfl (by decide) rfl ?_
          refine bf_iinc 4 (v := _ + (1 : Int32)) (lv2 := [(4, .int _), (2, .int _), (0, .ref _), (1, .int _), (3, .int _)]) dX12_feedback_57 rfl (by rfl) (by decide) rfl ?_
          refine bf_goto 11 dX12_feedback_60 (by decide) ?_
          refine bf_perm [2, 3, 1, 4, 0] rfl ?_
          exact ih _ _ _ _ hf
def f_X12_feedback (o : Nat) (a0 : Int32) (I : Nat → Nat → Int32) (L : Nat → Nat → Int64) : Option (Int32 × bf_St) :=
  ((f_X12_reached o a0 I L).bind (fun r2 => (f_X12_feedback_11 o a0 r2.1 (fun k2_8 I8 L8 => (some (k2_8, I8, L8))) 400 (0 : Int32) (0 : Int32) r2.2.1 r2.2.2)))
set_option maxRecDepth 100000 in
set_option maxHeartbeats 4000000 in
theorem ok_X12_feedback {Γ : bf_Gm} {ad : Nat → Nat} {o : Nat} {a0 : Int32} {I : Nat → Nat → Int32} {L : Nat → Nat → Int64} (hk : bf_kd o = 12) {r : Int32 × bf_St} (hf : f_X12_feedback o a0 I L = some r) : bf_Cn Γ 3 mu_X12_feedback 0 0 [.ref (ad o), .int a0] (bf_S ad I L) (fun q h => q = some (.int r.1) ∧ h = bf_S ad r.2.1 r.2.2) := by
  refine bf_met rfl (Nat.le_of_ble_eq_true rfl) ?_
  unfold f_X12_feedback at hf
  refine bf_iconst (v := 0) dX12_feedback_0 (by decide) ?_
  refine bf_istore_n (lv2 := [(2, .int _), (0, .ref _), (1, .int _)]) dX12_feedback_1 rfl (by decide) rfl ?_
  refine bf_aload_n 1 dX12_feedback_2 rfl rfl ?_
  refine bf_iload_n 2 dX12_feedback_3 rfl rfl ?_
  obtain ⟨r2, e1, hf⟩ := bf_bind hf
  have hCe1 := ok_X12_reached (Γ := Γ) (ad := ad) hk e1
  refine cv_X12_251 2 dX12_feedback_4 rfl ⟨Nat.le_of_ble_eq_true rfl, Nat.le_of_ble_eq_true rfl⟩ (Nat.le_of_ble_eq_true rfl) hk hCe1 ?_
  refine bf_istore_n (lv2 := [(3, .int _), (2, .int _), (0, .ref _), (1, .int _)]) dX12_feedback_7 rfl (by decide) rfl ?_
  refine bf_iconst (v := 0) dX12_feedback_8 (by decide) ?_
  refine bf_istore (lv2 := [(4, .int _), (3, .int _), (2, .int _), (0, .ref _), (1, .int _)]) dX12_feedback_9 (by decide) rfl ?_
  refine bf_perm [3, 4, 2, 1, 0] rfl ?_
  refine ok_X12_feedback_11 hk (fun k2_8 I8 L8 hf => ?_) _ _ _ _ _  hf
  refine bf_iload_n 0 dX12_feedback_63 rfl rfl ?_
  obtain rfl := Option.some.inj hf
  exact bf_iret dX12_feedback_64 rfl (Nat.le_refl _) (Nat.le_refl _) ⟨rfl, rfl⟩
def f_X12_wires_5 (v0 : Nat) (v1 : Int32) (v2 : Int32) (K : Int32 → (Nat → Nat → Int32) → (Nat → Nat → Int64) → Option (Int32 × bf_St)) : Nat → Int32 → Int32 → (Nat → Nat → Int32) → (Nat → Nat → Int64) → Option (Int32 × bf_St)
  | 0, _, _, _, _ => none
  | n + 1, v3, v4, I, L =>
    (if (I (v0 + 1) (1 : Int32).toNatClampNeg) ≤ v4 then (K v3 I L) else ((f_X12_isWire v0 v4 I L).bind (fun r3 => (if r3.1 = 0 then (f_X12_wires_5 v0 v1 v2 K n (v3 ||| (0 : Int32)) (v4 + (1 : Int32)) r3.2.1 r3.2.2) else (if v2 = 0 then ((f_X12_from v0 v4 r3.2.1 r3.2.2).bind (fun r7 => (if r7.1 = v1 then (f_X12_wires_5 v0 v1 v2 K n (v3 ||| ((1 : Int32) <<< (v4 &&& 31))) (v4 + (1 : Int32)) r7.2.1 r7.2.2) else (f_X12_wires_5 v0 v1 v2 K n (v3 ||| (0 : Int32)) (v4 + (1 : Int32)) r7.2.1 r7.2.2)))) else ((f_X12_to v0 v4 r3.2.1 r3.2.2).bind (fun r10 => (if r10.1 = v1 then (f_X12_wires_5 v0 v1 v2 K n (v3 ||| ((1 : Int32) <<< (v4 &&& 31))) (v4 + (1 : Int32)) r10.2.1 r10.2.2) else (f_X12_wires_5 v0 v1 v2 K n (v3 ||| (0 : Int32)) (v4 + (1 : Int32)) r10.2.1 r10.2.2)))))))))
set_option maxRecDepth 100000 in
set_option maxHeartbeats 4000000 in
theorem ok_X12_wires_5 {Γ : bf_Gm} {ad : Nat → Nat} {v0 : Nat} {v1 : Int32} {v2 : Int32} (hv0 : bf_kd v0 = 12) {r : Int32 × bf_St} {K : Int32 → (Nat → Nat → Int32) → (Nat → Nat → Int64) → Option (Int32 × bf_St)} (hK : ∀ (v3 : Int32) (I : Nat → Nat → Int32) (L : Nat → Nat → Int64), K v3 I L = some r → bf_Go Γ (bf_rm 2 0 0) mu_X12_wires bf_E0 (bf_Z Γ (fun q h => q = some (.int r.1) ∧ h = bf_S ad r.2.1 r.2.2) 0 0) (0, 0) 65 [(3, .int v3)] [] (bf_S ad I L)) : ∀ (n : Nat) (v3 : Int32) (v4 : Int32) (I : Nat → Nat → Int32) (L : Nat → Nat → Int64), f_X12_wires_5 v0 v1 v2 K n v3 v4 I L = some r → bf_Go Γ (bf_rm 2 0 0) mu_X12_wires bf_E0 (bf_Z Γ (fun q h => q = some (.int r.1) ∧ h = bf_S ad r.2.1 r.2.2) 0 0) (0, 0) 5 [(0, .ref (ad v0)), (1, .int v1), (2, .int v2), (3, .int v3), (4, .int v4)] [] (bf_S ad I L) := by
  intro n
  induction n with
  | zero => intro v3 v4 I L hf; exact absurd (show none = some r from hf) (by simp)
  | succ n ih =>
    intro v3 v4 I L hf
    rw [f_X12_wires_5] at hf
    refine bf_iload 4 dX12_wires_5 rfl ?_
    refine bf_aload_n 0 dX12_wires_7 rfl rfl ?_
    refine fg_X12_11 dX12_wires_8 rfl hv0 ?_
    refine bf_iconst (v := 1) dX12_wires_11 (by decide) ?_
    refine bf_iald dX12_wires_12 (kr_12_0 hv0) (by rw [(kl_12_0 hv0)]; decide) ?_
    refine bf_icmp_ge 65 dX12_wires_13 (by decide) (fun c1 => ?_) (fun c1 => ?_)
    · have hf := (if_pos c1).symm.trans hf
      refine bf_perm [3] rfl ?_
      exact hK _ _ _ hf
    · have hf := (if_neg c1).symm.trans hf
      refine bf_iload_n 3 dX12_wires_16 rfl rfl ?_
      refine bf_aload_n 0 dX12_wires_17 rfl rfl ?_
      refine bf_iload 4 dX12_wires_18 rfl ?_
      obtain ⟨r3, e2, hf⟩ := bf_bind hf
      have hCe2 := ok_X12_isWire (Γ := Γ) (ad := ad) hv0 e2
      refine cv_X12_73 1 dX12_wires_20 rfl ⟨Nat.le_of_ble_eq_true rfl, Nat.le_of_ble_eq_true rfl⟩ (Nat.le_of_ble_eq_true rfl) hv0 hCe2 ?_
      refine bf_if_eq 56 dX12_wires_23 (by decide) (fun c4 => ?_) (fun c4 => ?_)
      · have hf := (if_pos c4).symm.trans hf
        refine bf_iconst (v := 0) dX12_wires_56 (by decide) ?_
        refine bf_ior dX12_wires_57 ?_
        refine bf_istore_n (lv2 := [(3, .int _), (0, .ref _), (1, .int _), (2, .int _), (4, .int _)]) dX12_wires_58 rfl (by decide) rfl ?_
        refine bf_iinc 4 (v := _ + (1 : Int32)) (lv2 := [(4, .int _), (3, .int _), (0, .ref _), (1, .int _), (2, .int _)]) dX12_wires_59 rfl (by rfl) (by decide) rfl ?_
        refine bf_goto 5 dX12_wires_62 (by decide) ?_
        refine bf_perm [2, 3, 4, 1, 0] rfl ?_
        exact ih _ _ _ _ hf
      · have hf := (if_neg c4).symm.trans hf
        refine bf_iload_n 2 dX12_wires_26 rfl rfl ?_
        refine bf_if_eq 39 dX12_wires_27 (by decide) (fun c5 => ?_) (fun c5 => ?_)
        · have hf := (if_pos c5).symm.trans hf
          refine bf_aload_n 0 dX12_wires_39 rfl rfl ?_
          refine bf_iload 4 dX12_wires_40 rfl ?_
          obtain ⟨r7, e6, hf⟩ := bf_bind hf
          have hCe6 := ok_X12_from (Γ := Γ) (ad := ad) hv0 e6
          refine cv_X12_127 0 dX12_wires_42 rfl ⟨Nat.le_of_ble_eq_true rfl, Nat.le_of_ble_eq_true rfl⟩ (Nat.le_of_ble_eq_true rfl) hv0 hCe6 ?_
          refine bf_iload_n 1 dX12_wires_45 rfl rfl ?_
          refine bf_icmp_ne 56 dX12_wires_46 (by decide) (fun c8 => ?_) (fun c8 => ?_)
          · have hf := (if_neg c8).symm.trans hf
            refine bf_iconst (v := 0) dX12_wires_56 (by decide) ?_
            refine bf_ior dX12_wires_57 ?_
            refine bf_istore_n (lv2 := [(3, .int _), (0, .ref _), (1, .int _), (2, .int _), (4, .int _)]) dX12_wires_58 rfl (by decide) rfl ?_
            refine bf_iinc 4 (v := _ + (1 : Int32)) (lv2 := [(4, .int _), (3, .int _), (0, .ref _), (1, .int _), (2, .int _)]) dX12_wires_59 rfl (by rfl) (by decide) rfl ?_
            refine bf_goto 5 dX12_wires_62 (by decide) ?_
            refine bf_perm [2, 3, 4, 1, 0] rfl ?_
            exact ih _ _ _ _ hf
          · have hf := (if_pos c8).symm.trans hf
            refine bf_iconst (v := 1) dX12_wires_49 (by decide) ?_
            refine bf_iload 4 dX12_wires_50 rfl ?_
            refine bf_ishl dX12_wires_52 ?_
            refine bf_goto 57 dX12_wires_53 (by decide) ?_
            refine bf_ior dX12_wires_57 ?_
            refine bf_istore_n (lv2 := [(3, .int _), (0, .ref _), (1, .int _), (2, .int _), (4, .int _)]) dX12_wires_58 rfl (by decide) rfl ?_
            refine bf_iinc 4 (v := _ + (1 : Int32)) (lv2 := [(4, .int _), (3, .int _), (0, .ref _), (1, .int _), (2, .int _)]) dX12_wires_59 rfl (by rfl) (by decide) rfl ?_
            refine bf_goto 5 dX12_wires_62 (by decide) ?_
            refine bf_perm [2, 3, 4, 1, 0] rfl ?_
            exact ih _ _ _ _ hf
        · have hf := (if_neg c5).symm.trans hf
          refine bf_aload_n 0 dX12_wires_30 rfl rfl ?_
          refine bf_iload 4 dX12_wires_31 rfl ?_
          obtain ⟨r10, e9, hf⟩ := bf_bind hf
          have hCe9 := ok_X12_to (Γ := Γ) (ad := ad) hv0 e9
          refine cv_X12_121 0 dX12_wires_33 rfl ⟨Nat.le_of_ble_eq_true rfl, Nat.le_of_ble_eq_true rfl⟩ (Nat.le_of_ble_eq_true rfl) hv0 hCe9 ?_
          refine bf_goto 45 dX12_wires_36 (by decide) ?_
          refine bf_iload_n 1 dX12_wires_45 rfl rfl ?_
          refine bf_icmp_ne 56 dX12_wires_46 (by decide) (fun c11 => ?_) (fun c11 => ?_)
          · have hf := (if_neg c11).symm.trans hf
            refine bf_iconst (v := 0) dX12_wires_56 (by decide) ?_
            refine bf_ior dX12_wires_57 ?_
            refine bf_istore_n (lv2 := [(3, .int _), (0, .ref _), (1, .int _), (2, .int _), (4, .int _)]) dX12_wires_58 rfl (by decide) rfl ?_
            refine bf_iinc 4 (v := _ + (1 : Int32)) (lv2 := [(4, .int _), (3, .int _), (0, .ref _), (1, .int _), (2, .int _)]) dX12_wires_59 rfl (by rfl) (by decide) rfl ?_
            refine bf_goto 5 dX12_wires_62 (by decide) ?_
            refine bf_perm [2, 3, 4, 1, 0] rfl ?_
            exact ih _ _ _ _ hf
          · have hf := (if_pos c11).symm.trans hf
            refine bf_iconst (v := 1) dX12_wires_49 (by decide) ?_
            refine bf_iload 4 dX12_wires_50 rfl ?_
            refine bf_ishl dX12_wires_52 ?_
            refine bf_goto 57 dX12_wires_53 (by decide) ?_
            refine bf_ior dX12_wires_57 ?_
            refine bf_istore_n (lv2 := [(3, .int _), (0, .ref _), (1, .int _), (2, .int _), (4, .int _)]) dX12_wires_58 rfl (by decide) rfl ?_
            refine bf_iinc 4 (v := _ + (1 : Int32)) (lv2 := [(4, .int _), (3, .int _), (0, .ref _), (1, .int _), (2, .int _)]) dX12_wires_59 rfl (by rfl) (by decide) rfl ?_
            refine bf_goto 5 dX12_wires_62 (by decide) ?_
            refine bf_perm [2, 3, 4, 1, 0] rfl ?_
            exact ih _ _ _ _ hf
def f_X12_wires (o : Nat) (a0 : Int32) (a1 : Int32) (I : Nat → Nat → Int32) (L : Nat → Nat → Int64) : Option (Int32 × bf_St) :=
  (f_X12_wires_5 o a0 a1 (fun k3_12 I12 L12 => (some (k3_12, I12, L12))) 400 (0 : Int32) (0 : Int32) I L)
set_option maxRecDepth 100000 in
set_option maxHeartbeats 4000000 in
theorem ok_X12_wires {Γ : bf_Gm} {ad : Nat → Nat} {o : Nat} {a0 : Int32} {a1 : Int32} {I : Nat → Nat → Int32} {L : Nat → Nat → Int64} (hk : bf_kd o = 12) {r : Int32 × bf_St} (hf : f_X12_wires o a0 a1 I L = some r) : bf_Cn Γ 2 mu_X12_wires 0 0 [.ref (ad o), .int a0, .int a1] (bf_S ad I L) (fun q h => q = some (.int r.1) ∧ h = bf_S ad r.2.1 r.2.2) := by
  refine bf_met rfl (Nat.le_of_ble_eq_true rfl) ?_
  unfold f_X12_wires at hf
  refine bf_iconst (v := 0) dX12_wires_0 (by decide) ?_
  refine bf_istore_n (lv2 := [(3, .int _), (0, .ref _), (1, .int _), (2, .int _)]) dX12_wires_1 rfl (by decide) rfl ?_
  refine bf_iconst (v := 0) dX12_wires_2 (by decide) ?_
  refine bf_istore (lv2 := [(4, .int _), (3, .int _), (0, .ref _), (1, .int _), (2, .int _)]) dX12_wires_3 (by decide) rfl ?_
  refine bf_perm [2, 3, 4, 1, 0] rfl ?_
  refine ok_X12_wires_5 hk (fun k3_12 I12 L12 hf => ?_) _ _ _ _ _  hf
  refine bf_iload_n 0 dX12_wires_65 rfl rfl ?_
  obtain rfl := Option.some.inj hf
  exact bf_iret dX12_wires_66 rfl (Nat.le_refl _) (Nat.le_refl _) ⟨rfl, rfl⟩
def f_X12_of (o : Nat) (a0 : Int32) (a1 : Int32) (I : Nat → Nat → Int32) (L : Nat → Nat → Int64) : Option (Int32 × bf_St) :=
  ((f_X12_isBox o a0 I L).bind (fun r2 => (if r2.1 = 0 then (some ((-1 : Int32), r2.2.1, r2.2.2)) else (if a1 = 0 then (if bf_ok (((5 : Int32) + ((3 : Int32) * a0)) + a1) 914 then (some ((r2.2.1 (o + 1) (((5 : Int32) + ((3 : Int32) * a0)) + a1).toNatClampNeg), r2.2.1, r2.2.2)) else none) else (if a1 = 1 then (if bf_ok (((5 : Int32) + ((3 : Int32) * a0)) + a1) 914 then (some ((r2.2.1 (o + 1) (((5 : Int32) + ((3 : Int32) * a0)) + a1).toNatClampNeg), r2.2.1, r2.2.2)) else none) else (if a1 = 2 then (if bf_ok (((5 : Int32) + ((3 : Int32) * a0)) + a1) 914 then (some ((r2.2.1 (o + 1) (((5 : Int32) + ((3 : Int32) * a0)) + a1).toNatClampNeg), r2.2.1, r2.2.2)) else none) else (if a1 = 3 then ((f_X12_isEven o r2.2.1 r2.2.2).bind (fun r12 => (if r12.1 = 0 then (some ((-5 : Int32), r12.2.1, r12.2.2)) else (if bf_ok a0 6 then (some ((r12.2.1 (o + 8) a0.toNatClampNeg), r12.2.1, r12.2.2)) else none)))) else (if a1 = 4 then ((f_X12_canFire o a0 r2.2.1 r2.2.2).bind (fun r17 => (if r17.1 = 0 then (some ((0 : Int32), r17.2.1, r17.2.2)) else (some ((1 : Int32), r17.2.1, r17.2.2))))) else (if a1 = 5 then ((f_X12_feedback o a0 r2.2.1 r2.2.2).bind (fun r21 => (some (r21.1, r21.2.1, r21.2.2)))) else (if a1 = 6 then ((f_X12_wires o a0 (1 : Int32) r2.2.1 r2.2.2).bind (fun r24 => (some (r24.1, r24.2.1, r24.2.2)))) else (if a1 = 7 then ((f_X12_wires o a0 (0 : Int32) r2.2.1 r2.2.2).bind (fun r27 => (some (r27.1, r27.2.1, r27.2.2)))) else (some ((-1 : Int32), r2.2.1, r2.2.2)))))))))))))
set_option maxRecDepth 100000 in
set_option maxHeartbeats 4000000 in
theorem ok_X12_of {Γ : bf_Gm} {ad : Nat → Nat} {o : Nat} {a0 : Int32} {a1 : Int32} {I : Nat → Nat → Int32} {L : Nat → Nat → Int64} (hk : bf_kd o = 12) {r : Int32 × bf_St} (hf : f_X12_of o a0 a1 I L = some r) : bf_Cn Γ 4 mu_X12_of 0 0 [.ref (ad o), .int a0, .int a1] (bf_S ad I L) (fun q h => q = some (.int r.1) ∧ h = bf_S ad r.2.1 r.2.2) := by
  refine bf_met rfl (Nat.le_of_ble_eq_true rfl) ?_
  unfold f_X12_of at hf
  refine bf_aload_n 0 dX12_of_0 rfl rfl ?_
  refine bf_iload_n 1 dX12_of_1 rfl rfl ?_
  obtain ⟨r2, e1, hf⟩ := bf_bind hf
  have hCe1 := ok_X12_isBox (Γ := Γ) (ad := ad) hk e1
  refine cv_X12_69 1 dX12_of_2 rfl ⟨Nat.le_of_ble_eq_true rfl, Nat.le_of_ble_eq_true rfl⟩ (Nat.le_of_ble_eq_true rfl) hk hCe1 ?_
  refine bf_if_ne 10 dX12_of_5 (by decide) (fun c3 => ?_) (fun c3 => ?_)
  · have hf := (if_neg c3).symm.trans hf
    refine bf_iload_n 2 dX12_of_10 rfl rfl ?_
    rcases Decidable.em (a1 = 0) with c4 | c4
    · have hf := (if_pos c4).symm.trans hf
      refine bf_swIn 56 dX12_of_11 (by rw [c4]; decide) (by rw [c4]; decide) (by rw [c4]; rfl) (by decide) ?_
      refine bf_aload_n 0 dX12_of_56 rfl rfl ?_
      refine fg_X12_11 dX12_of_57 rfl hk ?_
      refine bf_iconst (v := 5) dX12_of_60 (by decide) ?_
      refine bf_iconst (v := 3) dX12_of_61 (by decide) ?_
      refine bf_iload_n 1 dX12_of_62 rfl rfl ?_
      refine bf_imul dX12_of_63 ?_
      refine bf_iadd dX12_of_64 ?_
      refine bf_iload_n 2 dX12_of_65 rfl rfl ?_
      refine bf_iadd dX12_of_66 ?_
      rcases Decidable.em (bf_ok (((5 : Int32) + ((3 : Int32) * a0)) + a1) 914) with c5 | c5
      · have hf := (if_pos c5).symm.trans hf
        refine bf_iald dX12_of_67 (kr_12_0 hk) (by rw [(kl_12_0 hk)]; exact c5) ?_
        obtain rfl := Option.some.inj hf
        exact bf_iret dX12_of_68 rfl (Nat.le_refl _) (Nat.le_refl _) ⟨rfl, rfl⟩
      · exact absurd ((if_neg c5).symm.trans hf) (by simp)
    · have hf := (if_neg c4).symm.trans hf
      rcases Decidable.em (a1 = 1) with c6 | c6
      · have hf := (if_pos c6).symm.trans hf
        refine bf_swIn 56 dX12_of_11 (by rw [c6]; decide) (by rw [c6]; decide) (by rw [c6]; rfl) (by decide) ?_
        refine bf_aload_n 0 dX12_of_56 rfl rfl ?_
        refine fg_X12_11 dX12_of_57 rfl hk ?_
        refine bf_iconst (v := 5) dX12_of_60 (by decide) ?_
        refine bf_iconst (v := 3) dX12_of_61 (by decide) ?_
        refine bf_iload_n 1 dX12_of_62 rfl rfl ?_
        refine bf_imul dX12_of_63 ?_
        refine bf_iadd dX12_of_64 ?_
        refine bf_iload_n 2 dX12_of_65 rfl rfl ?_
        refine bf_iadd dX12_of_66 ?_
        rcases Decidable.em (bf_ok (((5 : Int32) + ((3 : Int32) * a0)) + a1) 914) with c7 | c7
        · have hf := (if_pos c7).symm.trans hf
          refine bf_iald dX12_of_67 (kr_12_0 hk) (by rw [(kl_12_0 hk)]; exact c7) ?_
          obtain rfl := Option.some.inj hf
          exact bf_iret dX12_of_68 rfl (Nat.le_refl _) (Nat.le_refl _) ⟨rfl, rfl⟩
        · exact absurd ((if_neg c7).symm.trans hf) (by simp)
      · have hf := (if_neg c6).symm.trans hf
        rcases Decidable.em (a1 = 2) with c8 | c8
        · have hf := (if_pos c8).symm.trans hf
          refine bf_swIn 56 dX12_of_11 (by rw [c8]; decide) (by rw [c8]; decide) (by rw [c8]; rfl) (by decide) ?_
          refine bf_aload_n 0 dX12_of_56 rfl rfl ?_
          refine fg_X12_11 dX12_of_57 rfl hk ?_
          refine bf_iconst (v := 5) dX12_of_60 (by decide) ?_
          refine bf_iconst (v := 3) dX12_of_61 (by decide) ?_
          refine bf_iload_n 1 dX12_of_62 rfl rfl ?_
          refine bf_imul dX12_of_63 ?_
          refine bf_iadd dX12_of_64 ?_
          refine bf_iload_n 2 dX12_of_65 rfl rfl ?_
          refine bf_iadd dX12_of_66 ?_
          rcases Decidable.em (bf_ok (((5 : Int32) + ((3 : Int32) * a0)) + a1) 914) with c9 | c9
          · have hf := (if_pos c9).symm.trans hf
            refine bf_iald dX12_of_67 (kr_12_0 hk) (by rw [(kl_12_0 hk)]; exact c9) ?_
            obtain rfl := Option.some.inj hf
            exact bf_iret dX12_of_68 rfl (Nat.le_refl _) (Nat.le_refl _) ⟨rfl, rfl⟩
          · exact absurd ((if_neg c9).symm.trans hf) (by simp)
        · have hf := (if_neg c8).symm.trans hf
          rcases Decidable.em (a1 = 3) with c10 | c10
          · have hf := (if_pos c10).symm.trans hf
            refine bf_swIn 69 dX12_of_11 (by rw [c10]; decide) (by rw [c10]; decide) (by rw [c10]; rfl) (by decide) ?_
            refine bf_aload_n 0 dX12_of_69 rfl rfl ?_
            obtain ⟨r12, e11, hf⟩ := bf_bind hf
            have hCe11 := ok_X12_isEven (Γ := Γ) (ad := ad) hk e11
            refine cv_X12_220 3 dX12_of_70 rfl ⟨Nat.le_of_ble_eq_true rfl, Nat.le_of_ble_eq_true rfl⟩ (Nat.le_of_ble_eq_true rfl) hk hCe11 ?_
            refine bf_if_eq 85 dX12_of_73 (by decide) (fun c13 => ?_) (fun c13 => ?_)
            · have hf := (if_pos c13).symm.trans hf
              refine bf_bipush (v := -5) dX12_of_85 (by decide) ?_
              obtain rfl := Option.some.inj hf
              exact bf_iret dX12_of_87 rfl (Nat.le_refl _) (Nat.le_refl _) ⟨rfl, rfl⟩
            · have hf := (if_neg c13).symm.trans hf
              refine bf_aload_n 0 dX12_of_76 rfl rfl ?_
              refine fg_X12_34 dX12_of_77 rfl hk ?_
              refine bf_iload_n 1 dX12_of_80 rfl rfl ?_
              rcases Decidable.em (bf_ok a0 6) with c14 | c14
              · have hf := (if_pos c14).symm.trans hf
                refine bf_iald dX12_of_81 (kr_12_16 hk) (by rw [(kl_12_16 hk)]; exact c14) ?_
                refine bf_goto 87 dX12_of_82 (by decide) ?_
                obtain rfl := Option.some.inj hf
                exact bf_iret dX12_of_87 rfl (Nat.le_refl _) (Nat.le_refl _) ⟨rfl, rfl⟩
              · exact absurd ((if_neg c14).symm.trans hf) (by simp)
          · have hf := (if_neg c10).symm.trans hf
            rcases Decidable.em (a1 = 4) with c15 | c15
            · have hf := (if_pos c15).symm.trans hf
              refine bf_swIn 88 dX12_of_11 (by rw [c15]; decide) (by rw [c15]; decide) (by rw [c15]; rfl) (by decide) ?_
              refine bf_aload_n 0 dX12_of_88 rfl rfl ?_
              refine bf_iload_n 1 dX12_of_89 rfl rfl ?_
              obtain ⟨r17, e16, hf⟩ := bf_bind hf
              have hCe16 := ok_X12_canFire (Γ := Γ) (ad := ad) hk e16
              refine cv_X12_163 2 dX12_of_90 rfl ⟨Nat.le_of_ble_eq_true rfl, Nat.le_of_ble_eq_true rfl⟩ (Nat.le_of_ble_eq_true rfl) hk hCe16 ?_
              refine bf_if_eq 100 dX12_of_93 (by decide) (fun c18 => ?_) (fun c18 => ?_)
              · have hf := (if_pos c18).symm.trans hf
                refine bf_iconst (v := 0) dX12_of_100 (by decide) ?_
                obtain rfl := Option.some.inj hf
                exact bf_iret dX12_of_101 rfl (Nat.le_refl _) (Nat.le_refl _) ⟨rfl, rfl⟩
              · have hf := (if_neg c18).symm.trans hf
                refine bf_iconst (v := 1) dX12_of_96 (by decide) ?_
                refine bf_goto 101 dX12_of_97 (by decide) ?_
                obtain rfl := Option.some.inj hf
                exact bf_iret dX12_of_101 rfl (Nat.le_refl _) (Nat.le_refl _) ⟨rfl, rfl⟩
            · have hf := (if_neg c15).symm.trans hf
              rcases Decidable.em (a1 = 5) with c19 | c19
              · have hf := (if_pos c19).symm.trans hf
                refine bf_swIn 102 dX12_of_11 (by rw [c19]; decide) (by rw [c19]; decide) (by rw [c19]; rfl) (by decide) ?_
                refine bf_aload_n 0 dX12_of_102 rfl rfl ?_
                refine bf_iload_n 1 dX12_of_103 rfl rfl ?_
                obtain ⟨r21, e20, hf⟩ := bf_bind hf
                have hCe20 := ok_X12_feedback (Γ := Γ) (ad := ad) hk e20
                refine cv_X12_254 3 dX12_of_104 rfl ⟨Nat.le_of_ble_eq_true rfl, Nat.le_of_ble_eq_true rfl⟩ (Nat.le_of_ble_eq_true rfl) hk hCe20 ?_
                obtain rfl := Option.some.inj hf
                exact bf_iret dX12_of_107 rfl (Nat.le_refl _) (Nat.le_refl _) ⟨rfl, rfl⟩
              · have hf := (if_neg c19).symm.trans hf
                rcases Decidable.em (a1 = 6) with c22 | c22
                · have hf := (if_pos c22).symm.trans hf
                  refine bf_swIn 108 dX12_of_11 (by rw [c22]; decide) (by rw [c22]; decide) (by rw [c22]; rfl) (by decide) ?_
                  refine bf_aload_n 0 dX12_of_108 rfl rfl ?_
                  refine bf_iload_n 1 dX12_of_109 rfl rfl ?_
                  refine bf_iconst (v := 1) dX12_of_110 (by decide) ?_
                  obtain ⟨r24, e23, hf⟩ := bf_bind hf
                  have hCe23 := ok_X12_wires (Γ := Γ) (ad := ad) hk e23
                  refine cv_X12_257 2 dX12_of_111 rfl ⟨Nat.le_of_ble_eq_true rfl, Nat.le_of_ble_eq_true rfl⟩ (Nat.le_of_ble_eq_true rfl) hk hCe23 ?_
                  obtain rfl := Option.some.inj hf
                  exact bf_iret dX12_of_114 rfl (Nat.le_refl _) (Nat.le_refl _) ⟨rfl, rfl⟩
                · have hf := (if_neg c22).symm.trans hf
                  rcases Decidable.em (a1 = 7) with c25 | c25
                  · have hf := (if_pos c25).symm.trans hf
                    refine bf_swIn 115 dX12_of_11 (by rw [c25]; decide) (by rw [c25]; decide) (by rw [c25]; rfl) (by decide) ?_
                    refine bf_aload_n 0 dX12_of_115 rfl rfl ?_
                    refine bf_iload_n 1 dX12_of_116 rfl rfl ?_
                    refine bf_iconst (v := 0) dX12_of_117 (by decide) ?_
                    obtain ⟨r27, e26, hf⟩ := bf_bind hf
                    have hCe26 := ok_X12_wires (Γ := Γ) (ad := ad) hk e26
                    refine cv_X12_257 2 dX12_of_118 rfl ⟨Nat.le_of_ble_eq_true rfl, Nat.le_of_ble_eq_true rfl⟩ (Nat.le_of_ble_eq_true rfl) hk hCe26 ?_
                    obtain rfl := Option.some.inj hf
                    exact bf_iret dX12_of_121 rfl (Nat.le_refl _) (Nat.le_refl _) ⟨rfl, rfl⟩
                  · have hf := (if_neg c25).symm.trans hf
                    have c4 : _ ≠ (0 : Int) := bf_nne c4
                    have c6 : _ ≠ (1 : Int) := bf_nne c6
                    have c8 : _ ≠ (2 : Int) := bf_nne c8
                    have c10 : _ ≠ (3 : Int) := bf_nne c10
                    have c15 : _ ≠ (4 : Int) := bf_nne c15
                    have c19 : _ ≠ (5 : Int) := bf_nne c19
                    have c22 : _ ≠ (6 : Int) := bf_nne c22
                    have c25 : _ ≠ (7 : Int) := bf_nne c25
                    refine bf_swOut 122 dX12_of_11 (by omega) (by decide) ?_
                    refine bf_iconst (v := -1) dX12_of_122 (by decide) ?_
                    obtain rfl := Option.some.inj hf
                    exact bf_iret dX12_of_123 rfl (Nat.le_refl _) (Nat.le_refl _) ⟨rfl, rfl⟩
  · have hf := (if_pos c3).symm.trans hf
    refine bf_iconst (v := -1) dX12_of_8 (by decide) ?_
    obtain rfl := Option.some.inj hf
    exact bf_iret dX12_of_9 rfl (Nat.le_refl _) (Nat.le_refl _) ⟨rfl, rfl⟩
def f_X12_goesWith_31 (v0 : Nat) (v2 : Int32) (v3 : Int32) (K : (Nat → Nat → Int32) → (Nat → Nat → Int64) → Option (Int32 × bf_St)) : Nat → Int32 → (Nat → Nat → Int32) → (Nat → Nat → Int64) → Option (Int32 × bf_St)
  | 0, _, _, _ => none
  | n + 1, v4, I, L =>
    (if v2 ≤ v4 then (K I L) else (if bf_ok ((v3 + (1 : Int32)) + v4) 914 then (f_X12_goesWith_31 v0 v2 v3 K n (v4 + (1 : Int32)) (bf_u I (v0 + 1) ((v3 + (1 : Int32)) + v4).toNatClampNeg (0 : Int32)) L) else none))
set_option maxRecDepth 100000 in
set_option maxHeartbeats 4000000 in
theorem ok_X12_goesWith_31 {Γ : bf_Gm} {ad : Nat → Nat} {v0 : Nat} {v2 : Int32} {v3 : Int32} (hv0 : bf_kd v0 = 12) {r : Int32 × bf_St} {K : (Nat → Nat → Int32) → (Nat → Nat → Int64) → Option (Int32 × bf_St)} (hK : ∀ (I : Nat → Nat → Int32) (L : Nat → Nat → Int64), K  I L = some r → bf_Go Γ (bf_rm 5 0 0) mu_X12_goesWith bf_E0 (bf_Z Γ (fun q h => q = some (.int r.1) ∧ h = bf_S ad r.2.1 r.2.2) 0 0) (0, 0) 55 [(0, .ref (ad v0))] [] (bf_S ad I L)) : ∀ (n : Nat) (v4 : Int32) (I : Nat → Nat → Int32) (L : Nat → Nat → Int64), f_X12_goesWith_31 v0 v2 v3 K n v4 I L = some r → bf_Go Γ (bf_rm 5 0 0) mu_X12_goesWith bf_E0 (bf_Z Γ (fun q h => q = some (.int r.1) ∧ h = bf_S ad r.2.1 r.2.2) 0 0) (0, 0) 31 [(0, .ref (ad v0)), (2, .int v2), (3, .int v3), (4, .int v4)] [] (bf_S ad I L) := by
  intro n
  induction n with
  | zero => intro v4 I L hf; exact absurd (show none = some r from hf) (by simp)
  | succ n ih =>
    intro v4 I L hf
    rw [f_X12_goesWith_31] at hf
    refine bf_iload 3 dX12_goesWith_31 rfl ?_
    refine bf_iload_n 1 dX12_goesWith_33 rfl rfl ?_
    refine bf_icmp_ge 55 dX12_goesWith_34 (by decide) (fun c4 => ?_) (fun c4 => ?_)
    · have hf := (if_pos c4).symm.trans hf
      refine bf_perm [0] rfl ?_
      exact hK _ _ hf
    · have hf := (if_neg c4).symm.trans hf
      refine bf_aload_n 0 dX12_goesWith_37 rfl rfl ?_
      refine fg_X12_11 dX12_goesWith_38 rfl hv0 ?_
      refine bf_iload_n 2 dX12_goesWith_41 rfl rfl ?_
      refine bf_iconst (v := 1) dX12_goesWith_42 (by decide) ?_
      refine bf_iadd dX12_goesWith_43 ?_
      refine bf_iload 3 dX12_goesWith_44 rfl ?_
      refine bf_iadd dX12_goesWith_46 ?_
      refine bf_iconst (v := 0) dX12_goesWith_47 (by decide) ?_
      rcases Decidable.em (bf_ok ((v3 + (1 : Int32)) + v4) 914) with c5 | c5
      · have hf := (if_pos c5).symm.trans hf
        refine bf_iast dX12_goesWith_48 (kr_12_0 hv0) (by rw [(kl_12_0 hv0)]; exact c5) ?_
        refine bf_iinc 3 (v := _ + (1 : Int32)) (lv2 := [(4, .int _), (0, .ref _), (2, .int _), (3, .int _)]) dX12_goesWith_49 rfl (by rfl) (by decide) rfl ?_
        refine bf_goto 31 dX12_goesWith_52 (by decide) ?_
        refine bf_perm [1, 2, 3, 0] rfl ?_
        exact ih _ _ _ hf
      · exact absurd ((if_neg c5).symm.trans hf) (by simp)
def f_X12_goesWith_p55 (v0 : Nat) (I : Nat → Nat → Int32) (L : Nat → Nat → Int64) : Option (Int32 × bf_St) :=
  ((f_X12_goes v0 I L).bind (fun r8 => ((f_X12_copies (v0 + 2) (v0 + 1) r8.2.1 r8.2.2).bind (fun r10 => (if r8.1 = 0 ∨ r8.1 = 1 then some (r8.1, r10.1, r10.2) else none)))))
set_option maxRecDepth 100000 in
set_option maxHeartbeats 4000000 in
theorem ok_X12_goesWith_p55 {Γ : bf_Gm} {ad : Nat → Nat} {v0 : Nat} {I : Nat → Nat → Int32} {L : Nat → Nat → Int64} (hv0 : bf_kd v0 = 12) {r : Int32 × bf_St} (hf : f_X12_goesWith_p55 v0 I L = some r) : bf_Go Γ (bf_rm 5 0 0) mu_X12_goesWith bf_E0 (bf_Z Γ (fun q h => q = some (.int r.1) ∧ h = bf_S ad r.2.1 r.2.2) 0 0) (0, 0) 55 [(0, .ref (ad v0))] [] (bf_S ad I L) := by
  unfold f_X12_goesWith_p55 at hf
  refine bf_aload_n 0 dX12_goesWith_55 rfl rfl ?_
  obtain ⟨r8, e7, hf⟩ := bf_bind hf
  have hCe7 := ok_X12_goes (Γ := Γ) (ad := ad) hv0 e7
  refine cv_X12_217 4 dX12_goesWith_56 rfl ⟨Nat.le_of_ble_eq_true rfl, Nat.le_of_ble_eq_true rfl⟩ (Nat.le_of_ble_eq_true rfl) hv0 hCe7 ?_
  refine bf_istore (lv2 := [(4, .int _), (0, .ref _)]) dX12_goesWith_59 (by decide) rfl ?_
  refine bf_aload_n 1 dX12_goesWith_61 rfl rfl ?_
  refine fg_X12_15 dX12_goesWith_62 rfl hv0 ?_
  refine bf_aload_n 1 dX12_goesWith_65 rfl rfl ?_
  refine fg_X12_11 dX12_goesWith_66 rfl hv0 ?_
  obtain ⟨r10, e9, hf⟩ := bf_bind hf
  have hCe9 := ok_X12_copies (Γ := Γ) (ad := ad) (kr_12_1 hv0) (kr_12_0 hv0) e9
  refine cv_X12_213 0 dX12_goesWith_69 rfl ⟨Nat.le_of_ble_eq_true rfl, Nat.le_of_ble_eq_true rfl⟩ (Nat.le_of_ble_eq_true rfl) hCe9 ?_
  refine bf_iload 0 dX12_goesWith_72 rfl ?_
  rcases Decidable.em (r8.1 = 0 ∨ r8.1 = 1) with c11 | c11
  · have hf := (if_pos c11).symm.trans hf
    obtain rfl := Option.some.inj hf
    exact bf_zret dX12_goesWith_74 rfl (by rcases c11 with q | q <;> rw [q] <;> rfl) (Nat.le_refl _) (Nat.le_refl _) ⟨rfl, rfl⟩
  · exact absurd ((if_neg c11).symm.trans hf) (by simp)
def f_X12_goesWith (o : Nat) (a0 : Int32) (a1 : Int32) (I : Nat → Nat → Int32) (L : Nat → Nat → Int64) : Option (Int32 × bf_St) :=
  ((f_X12_copies (o + 1) (o + 2) I L).bind (fun r2 => (if bf_ok (((74 : Int32) + ((105 : Int32) * a0)) + (5 : Int32)) 914 then (f_X12_goesWith_31 o a1 (((74 : Int32) + ((105 : Int32) * a0)) + (5 : Int32)) (fun I6 L6 => (f_X12_goesWith_p55 o I6 L6)) 400 (0 : Int32) (bf_u r2.1 (o + 1) (((74 : Int32) + ((105 : Int32) * a0)) + (5 : Int32)).toNatClampNeg a1) r2.2) else none)))
set_option maxRecDepth 100000 in
set_option maxHeartbeats 4000000 in
theorem ok_X12_goesWith {Γ : bf_Gm} {ad : Nat → Nat} {o : Nat} {a0 : Int32} {a1 : Int32} {I : Nat → Nat → Int32} {L : Nat → Nat → Int64} (hk : bf_kd o = 12) {r : Int32 × bf_St} (hf : f_X12_goesWith o a0 a1 I L = some r) : bf_Cn Γ 5 mu_X12_goesWith 0 0 [.ref (ad o), .int a0, .int a1] (bf_S ad I L) (fun q h => q = some (.int r.1) ∧ h = bf_S ad r.2.1 r.2.2) := by
  refine bf_met rfl (Nat.le_of_ble_eq_true rfl) ?_
  unfold f_X12_goesWith at hf
  refine bf_bipush (v := 74) dX12_goesWith_0 (by decide) ?_
  refine bf_bipush (v := 105) dX12_goesWith_2 (by decide) ?_
  refine bf_iload_n 1 dX12_goesWith_4 rfl rfl ?_
  refine bf_imul dX12_goesWith_5 ?_
  refine bf_iadd dX12_goesWith_6 ?_
  refine bf_iconst (v := 5) dX12_goesWith_7 (by decide) ?_
  refine bf_iadd dX12_goesWith_8 ?_
  refine bf_istore_n (lv2 := [(3, .int _), (0, .ref _), (1, .int _), (2, .int _)]) dX12_goesWith_9 rfl (by decide) rfl ?_
  refine bf_aload_n 1 dX12_goesWith_10 rfl rfl ?_
  refine fg_X12_11 dX12_goesWith_11 rfl hk ?_
  refine bf_aload_n 1 dX12_goesWith_14 rfl rfl ?_
  refine fg_X12_15 dX12_goesWith_15 rfl hk ?_
  obtain ⟨r2, e1, hf⟩ := bf_bind hf
  have hCe1 := ok_X12_copies (Γ := Γ) (ad := ad) (kr_12_0 hk) (kr_12_1 hk) e1
  refine cv_X12_213 0 dX12_goesWith_18 rfl ⟨Nat.le_of_ble_eq_true rfl, Nat.le_of_ble_eq_true rfl⟩ (Nat.le_of_ble_eq_true rfl) hCe1 ?_
  refine bf_aload_n 1 dX12_goesWith_21 rfl rfl ?_
  refine fg_X12_11 dX12_goesWith_22 rfl hk ?_
  refine bf_iload_n 0 dX12_goesWith_25 rfl rfl ?_
  refine bf_iload_n 3 dX12_goesWith_26 rfl rfl ?_
  rcases Decidable.em (bf_ok (((74 : Int32) + ((105 : Int32) * a0)) + (5 : Int32)) 914) with c3 | c3
  · have hf := (if_pos c3).symm.trans hf
    refine bf_iast dX12_goesWith_27 (kr_12_0 hk) (by rw [(kl_12_0 hk)]; exact c3) ?_
    refine bf_iconst (v := 0) dX12_goesWith_28 (by decide) ?_
    refine bf_istore (lv2 := [(4, .int _), (3, .int _), (0, .ref _), (1, .int _), (2, .int _)]) dX12_goesWith_29 (by decide) rfl ?_
    refine bf_perm [2, 4, 1, 0] rfl ?_
    refine ok_X12_goesWith_31 hk (fun I6 L6 hf => ?_) _ _ _ _  hf
    exact ok_X12_goesWith_p55 hk  hf
  · exact absurd ((if_neg c3).symm.trans hf) (by simp)
