def f_X4_followAll_24 (rec : Nat → Nat → Int32 → Int32 → (Nat → Nat → Int32) → (Nat → Nat → Int64) → Option (bf_St)) (v0 : Nat) (v1 : Nat) (v2 : Int32) (K : (Nat → Nat → Int32) → (Nat → Nat → Int64) → Option (bf_St)) : Nat → Int32 → (Nat → Nat → Int32) → (Nat → Nat → Int64) → Option (bf_St)
  | 0, _, _, _ => none
  | n + 1, v4, I, L =>
    (if (6 : Int32) ≤ v4 then (K I L) else (if bf_ok v4 6 then (if (I (v0 + 3) v4.toNatClampNeg) ≤ 0 then (f_X4_followAll_24 rec v0 v1 v2 K n (v4 + (1 : Int32)) I L) else ((f_X2_canFire (v0 + 1) v1 v4 I L).bind (fun r7 => (if r7.1 = 0 then (f_X4_followAll_24 rec v0 v1 v2 K n (v4 + (1 : Int32)) r7.2.1 r7.2.2) else (if bf_ok v4 6 then (if bf_ok v4 6 then ((f_X2_fireBox (v0 + 1) v1 v4 (bf_u r7.2.1 (v0 + 3) v4.toNatClampNeg ((r7.2.1 (v0 + 3) v4.toNatClampNeg) - (1 : Int32))) r7.2.2).bind (fun r12 => ((f_X4_raiseMost v0 v2 r12.1 r12.2).bind (fun r14 => (if (r14.2.1 v0 4) ≤ r14.1 then ((f_X2_takeBack (v0 + 1) v1 v4 r14.2.1 r14.2.2).bind (fun r17 => (if bf_ok v4 6 then (if bf_ok v4 6 then (f_X4_followAll_24 rec v0 v1 v2 K n (v4 + (1 : Int32)) (bf_u r17.1 (v0 + 3) v4.toNatClampNeg ((r17.1 (v0 + 3) v4.toNatClampNeg) + (1 : Int32))) r17.2) else none) else none))) else ((rec v0 v1 (v2 + (1 : Int32)) r14.1 r14.2.1 r14.2.2).bind (fun r21 => ((f_X2_takeBack (v0 + 1) v1 v4 r21.1 r21.2).bind (fun r23 => (if bf_ok v4 6 then (if bf_ok v4 6 then (f_X4_followAll_24 rec v0 v1 v2 K n (v4 + (1 : Int32)) (bf_u r23.1 (v0 + 3) v4.toNatClampNeg ((r23.1 (v0 + 3) v4.toNatClampNeg) + (1 : Int32))) r23.2) else none) else none)))))))))) else none) else none))))) else none))
set_option maxRecDepth 100000 in
set_option maxHeartbeats 4000000 in
theorem ok_X4_followAll_24 {Γ : bf_Gm} {ad : Nat → Nat} {d : Nat} {rec : Nat → Nat → Int32 → Int32 → (Nat → Nat → Int32) → (Nat → Nat → Int64) → Option (bf_St)} (hrec : ∀ {o : Nat} {a0 : Nat} {a1 : Int32} {a2 : Int32} {I : Nat → Nat → Int32} {L : Nat → Nat → Int64} {r : bf_St}, bf_kd o = 4 → bf_kd a0 = 3 → rec o a0 a1 a2 I L = some r → bf_Cn Γ (3 + d) mu_X4_followAll 0 0 [.ref (ad o), .ref (ad a0), .int a1, .int a2] (bf_S ad I L) (fun q h => q = none ∧ h = bf_S ad r.1 r.2)) {v0 : Nat} {v1 : Nat} {v2 : Int32} (hv0 : bf_kd v0 = 4) (hv1 : bf_kd v1 = 3) {r : bf_St} {K : (Nat → Nat → Int32) → (Nat → Nat → Int64) → Option (bf_St)} (hK : ∀ (I : Nat → Nat → Int32) (L : Nat → Nat → Int64), K  I L = some r → bf_Go Γ (bf_rm (3 + (d + 1)) 0 0) mu_X4_followAll bf_E0 (bf_Z Γ (fun q h => q = none ∧ h = bf_S ad r.1 r.2) 0 0) (0, 0) 128 [] [] (bf_S ad I L)) : ∀ (n : Nat) (v4 : Int32) (I : Nat → Nat → Int32) (L : Nat → Nat → Int64), f_X4_followAll_24 rec v0 v1 v2 K n v4 I L = some r → bf_Go Γ (bf_rm (3 + (d + 1)) 0 0) mu_X4_followAll bf_E0 (bf_Z Γ (fun q h => q = none ∧ h = bf_S ad r.1 r.2) 0 0) (0, 0) 24 [(0, .ref (ad v0)), (1, .ref (ad v1)), (2, .int v2), (4, .int v4)] [] (bf_S ad I L) := by
  intro n
  induction n with
  | zero => intro v4 I L hf; exact absurd (show none = some r from hf) (by simp)
  | succ n ih =>
    intro v4 I L hf
    rw [f_X4_followAll_24] at hf
    refine bf_iload 3 dX4_followAll_24 rfl ?_
    refine bf_bipush (v := 6) dX4_followAll_26 (by decide) ?_
    refine bf_icmp_ge 128 dX4_followAll_28 (by decide) (fun c3 => ?_) (fun c3 => ?_)
    · have hf := (if_pos c3).symm.trans hf
      refine bf_perm [] rfl ?_
      exact hK _ _ hf
    · have hf := (if_neg c3).symm.trans hf
      refine bf_aload_n 0 dX4_followAll_31 rfl rfl ?_
      refine fg_X4_18 dX4_followAll_32 rfl hv0 ?_
      refine bf_iload 3 dX4_followAll_35 rfl ?_
      rcases Decidable.em (bf_ok v4 6) with c4 | c4
      · have hf := (if_pos c4).symm.trans hf
        refine bf_iald dX4_followAll_37 (kr_4_1 hv0) (by rw [(kl_4_1 hv0)]; exact c4) ?_
        refine bf_if_le 122 dX4_followAll_38 (by decide) (fun c5 => ?_) (fun c5 => ?_)
        · have hf := (if_pos c5).symm.trans hf
          refine bf_iinc 3 (v := _ + (1 : Int32)) (lv2 := [(4, .int _), (0, .ref _), (1, .ref _), (2, .int _)]) dX4_followAll_122 rfl (by rfl) (by decide) rfl ?_
          refine bf_goto 24 dX4_followAll_125 (by decide) ?_
          refine bf_perm [1, 2, 3, 0] rfl ?_
          exact ih _ _ _ hf
        · have hf := (if_neg c5).symm.trans hf
          refine bf_aload_n 0 dX4_followAll_41 rfl rfl ?_
          refine fg_X4_12 dX4_followAll_42 rfl hv0 ?_
          refine bf_aload_n 1 dX4_followAll_45 rfl rfl ?_
          refine bf_iload 3 dX4_followAll_46 rfl ?_
          obtain ⟨r7, e6, hf⟩ := bf_bind hf
          have hCe6 := ok_X2_canFire (Γ := Γ) (ad := ad) (kr_4_0 hv0) hv1 e6
          refine cv_X4_60 2 dX4_followAll_48 rfl (by constructor <;> (simp only [bf_rm]; omega)) (Nat.le_of_ble_eq_true rfl) (kr_4_0 hv0) hCe6 ?_
          refine bf_if_eq 122 dX4_followAll_51 (by decide) (fun c8 => ?_) (fun c8 => ?_)
          · have hf := (if_pos c8).symm.trans hf
            refine bf_iinc 3 (v := _ + (1 : Int32)) (lv2 := [(4, .int _), (0, .ref _), (1, .ref _), (2, .int _)]) dX4_followAll_122 rfl (by rfl) (by decide) rfl ?_
            refine bf_goto 24 dX4_followAll_125 (by decide) ?_
            refine bf_perm [1, 2, 3, 0] rfl ?_
            exact ih _ _ _ hf
          · have hf := (if_neg c8).symm.trans hf
            refine bf_aload_n 0 dX4_followAll_54 rfl rfl ?_
            refine fg_X4_18 dX4_followAll_55 rfl hv0 ?_
            refine bf_iload 3 dX4_followAll_58 rfl ?_
            refine bf_dup2 dX4_followAll_60 rfl rfl ?_
            rcases Decidable.em (bf_ok v4 6) with c9 | c9
            · have hf := (if_pos c9).symm.trans hf
              refine bf_iald dX4_followAll_61 (kr_4_1 hv0) (by rw [(kl_4_1 hv0)]; exact c9) ?_
              refine bf_iconst (v := 1) dX4_followAll_62 (by decide) ?_
              refine bf_isub dX4_followAll_63 ?_
              rcases Decidable.em (bf_ok v4 6) with c10 | c10
              · have hf := (if_pos c10).symm.trans hf
                refine bf_iast dX4_followAll_64 (kr_4_1 hv0) (by rw [(kl_4_1 hv0)]; exact c10) ?_
                refine bf_aload_n 0 dX4_followAll_65 rfl rfl ?_
                refine fg_X4_12 dX4_followAll_66 rfl hv0 ?_
                refine bf_aload_n 1 dX4_followAll_69 rfl rfl ?_
                refine bf_iload 3 dX4_followAll_70 rfl ?_
                obtain ⟨r12, e11, hf⟩ := bf_bind hf
                have hCe11 := ok_X2_fireBox (Γ := Γ) (ad := ad) (kr_4_0 hv0) hv1 e11
                refine cv_X4_64 2 dX4_followAll_72 rfl (by constructor <;> (simp only [bf_rm]; omega)) (Nat.le_of_ble_eq_true rfl) (kr_4_0 hv0) hCe11 ?_
                refine bf_aload_n 0 dX4_followAll_75 rfl rfl ?_
                refine bf_iload_n 2 dX4_followAll_76 rfl rfl ?_
                obtain ⟨r14, e13, hf⟩ := bf_bind hf
                have hCe13 := ok_X4_raiseMost (Γ := Γ) (ad := ad) hv0 e13
                refine cv_X4_68 1 dX4_followAll_77 rfl (by constructor <;> (simp only [bf_rm]; omega)) (Nat.le_of_ble_eq_true rfl) hv0 hCe13 ?_
                refine bf_istore (lv2 := [(5, .int _), (0, .ref _), (1, .ref _), (2, .int _), (4, .int _)]) dX4_followAll_80 (by decide) rfl ?_
                refine bf_iload 0 dX4_followAll_82 rfl ?_
                refine bf_aload_n 1 dX4_followAll_84 rfl rfl ?_
                refine fg_X4_50 dX4_followAll_85 rfl hv0 ?_
                refine bf_icmp_ge 101 dX4_followAll_88 (by decide) (fun c15 => ?_) (fun c15 => ?_)
                · have hf := (if_pos c15).symm.trans hf
                  refine bf_aload_n 1 dX4_followAll_101 rfl rfl ?_
                  refine fg_X4_12 dX4_followAll_102 rfl hv0 ?_
                  refine bf_aload_n 2 dX4_followAll_105 rfl rfl ?_
                  refine bf_iload 4 dX4_followAll_106 rfl ?_
                  obtain ⟨r17, e16, hf⟩ := bf_bind hf
                  have hCe16 := ok_X2_takeBack (Γ := Γ) (ad := ad) (kr_4_0 hv0) hv1 e16
                  refine cv_X4_72 2 dX4_followAll_108 rfl (by constructor <;> (simp only [bf_rm]; omega)) (Nat.le_of_ble_eq_true rfl) (kr_4_0 hv0) hCe16 ?_
                  refine bf_aload_n 1 dX4_followAll_111 rfl rfl ?_
                  refine fg_X4_18 dX4_followAll_112 rfl hv0 ?_
                  refine bf_iload 4 dX4_followAll_115 rfl ?_
                  refine bf_dup2 dX4_followAll_117 rfl rfl ?_
                  rcases Decidable.em (bf_ok v4 6) with c18 | c18
                  · have hf := (if_pos c18).symm.trans hf
                    refine bf_iald dX4_followAll_118 (kr_4_1 hv0) (by rw [(kl_4_1 hv0)]; exact c18) ?_
                    refine bf_iconst (v := 1) dX4_followAll_119 (by decide) ?_
                    refine bf_iadd dX4_followAll_120 ?_
                    rcases Decidable.em (bf_ok v4 6) with c19 | c19
                    · have hf := (if_pos c19).symm.trans hf
                      refine bf_iast dX4_followAll_121 (kr_4_1 hv0) (by rw [(kl_4_1 hv0)]; exact c19) ?_
                      refine bf_iinc 4 (v := _ + (1 : Int32)) (lv2 := [(4, .int _), (5, .int _), (0, .ref _), (1, .ref _), (2, .int _)]) dX4_followAll_122 rfl (by rfl) (by decide) rfl ?_
                      refine bf_goto 24 dX4_followAll_125 (by decide) ?_
                      refine bf_perm [2, 3, 4, 0] rfl ?_
                      exact ih _ _ _ hf
                    · exact absurd ((if_neg c19).symm.trans hf) (by simp)
                  · exact absurd ((if_neg c18).symm.trans hf) (by simp)
                · have hf := (if_neg c15).symm.trans hf
                  refine bf_aload_n 1 dX4_followAll_91 rfl rfl ?_
                  refine bf_aload_n 2 dX4_followAll_92 rfl rfl ?_
                  refine bf_iload_n 3 dX4_followAll_93 rfl rfl ?_
                  refine bf_iconst (v := 1) dX4_followAll_94 (by decide) ?_
                  refine bf_iadd dX4_followAll_95 ?_
                  refine bf_iload 0 dX4_followAll_96 rfl ?_
                  obtain ⟨r21, e20, hf⟩ := bf_bind hf
                  have hCe20 := hrec hv0 hv1 e20
                  refine cv_X4_56 (3 + d) dX4_followAll_98 rfl (by constructor <;> (simp only [bf_rm]; omega)) (Nat.le_of_ble_eq_true rfl) hv0 hCe20 ?_
                  refine bf_aload_n 1 dX4_followAll_101 rfl rfl ?_
                  refine fg_X4_12 dX4_followAll_102 rfl hv0 ?_
                  refine bf_aload_n 2 dX4_followAll_105 rfl rfl ?_
                  refine bf_iload 4 dX4_followAll_106 rfl ?_
                  obtain ⟨r23, e22, hf⟩ := bf_bind hf
                  have hCe22 := ok_X2_takeBack (Γ := Γ) (ad := ad) (kr_4_0 hv0) hv1 e22
                  refine cv_X4_72 2 dX4_followAll_108 rfl (by constructor <;> (simp only [bf_rm]; omega)) (Nat.le_of_ble_eq_true rfl) (kr_4_0 hv0) hCe22 ?_
                  refine bf_aload_n 1 dX4_followAll_111 rfl rfl ?_
                  refine fg_X4_18 dX4_followAll_112 rfl hv0 ?_
                  refine bf_iload 4 dX4_followAll_115 rfl ?_
                  refine bf_dup2 dX4_followAll_117 rfl rfl ?_
                  rcases Decidable.em (bf_ok v4 6) with c24 | c24
                  · have hf := (if_pos c24).symm.trans hf
                    refine bf_iald dX4_followAll_118 (kr_4_1 hv0) (by rw [(kl_4_1 hv0)]; exact c24) ?_
                    refine bf_iconst (v := 1) dX4_followAll_119 (by decide) ?_
                    refine bf_iadd dX4_followAll_120 ?_
                    rcases Decidable.em (bf_ok v4 6) with c25 | c25
                    · have hf := (if_pos c25).symm.trans hf
                      refine bf_iast dX4_followAll_121 (kr_4_1 hv0) (by rw [(kl_4_1 hv0)]; exact c25) ?_
                      refine bf_iinc 4 (v := _ + (1 : Int32)) (lv2 := [(4, .int _), (5, .int _), (0, .ref _), (1, .ref _), (2, .int _)]) dX4_followAll_122 rfl (by rfl) (by decide) rfl ?_
                      refine bf_goto 24 dX4_followAll_125 (by decide) ?_
                      refine bf_perm [2, 3, 4, 0] rfl ?_
                      exact ih _ _ _ hf
                    · exact absurd ((if_neg c25).symm.trans hf) (by simp)
                  · exact absurd ((if_neg c24).symm.trans hf) (by simp)
              · exact absurd ((if_neg c10).symm.trans hf) (by simp)
            · exact absurd ((if_neg c9).symm.trans hf) (by simp)
      · exact absurd ((if_neg c4).symm.trans hf) (by simp)
def f_X4_followAll_b (rec : Nat → Nat → Int32 → Int32 → (Nat → Nat → Int32) → (Nat → Nat → Int64) → Option (bf_St)) (o : Nat) (a0 : Nat) (a1 : Int32) (a2 : Int32) (I : Nat → Nat → Int32) (L : Nat → Nat → Int64) : Option (bf_St) :=
  (if a1 < (I o 3) then (if a1 < (8 : Int32) then (f_X4_followAll_24 rec o a0 a1 (fun I26 L26 => (some (I26, L26))) 400 (0 : Int32) I L) else (some (I, L))) else (some ((bf_u I o 4 a2), L)))
def f_X4_followAll : Nat → Nat → Nat → Int32 → Int32 → (Nat → Nat → Int32) → (Nat → Nat → Int64) → Option (bf_St)
  | 0 => fun _ _ _ _ _ _ => none
  | d + 1 => f_X4_followAll_b (f_X4_followAll d)
set_option maxRecDepth 100000 in
set_option maxHeartbeats 4000000 in
theorem ok_X4_followAll_b {Γ : bf_Gm} {ad : Nat → Nat} {d : Nat} {rec : Nat → Nat → Int32 → Int32 → (Nat → Nat → Int32) → (Nat → Nat → Int64) → Option (bf_St)} (hrec : ∀ {o : Nat} {a0 : Nat} {a1 : Int32} {a2 : Int32} {I : Nat → Nat → Int32} {L : Nat → Nat → Int64} {r : bf_St}, bf_kd o = 4 → bf_kd a0 = 3 → rec o a0 a1 a2 I L = some r → bf_Cn Γ (3 + d) mu_X4_followAll 0 0 [.ref (ad o), .ref (ad a0), .int a1, .int a2] (bf_S ad I L) (fun q h => q = none ∧ h = bf_S ad r.1 r.2)) {o : Nat} {a0 : Nat} {a1 : Int32} {a2 : Int32} {I : Nat → Nat → Int32} {L : Nat → Nat → Int64} (hk : bf_kd o = 4) (hk0 : bf_kd a0 = 3) {r : bf_St} (hf : f_X4_followAll_b rec o a0 a1 a2 I L = some r) : bf_Cn Γ (3 + (d + 1)) mu_X4_followAll 0 0 [.ref (ad o), .ref (ad a0), .int a1, .int a2] (bf_S ad I L) (fun q h => q = none ∧ h = bf_S ad r.1 r.2) := by
  refine bf_met rfl (Nat.le_of_ble_eq_true rfl) ?_
  unfold f_X4_followAll_b at hf
  refine bf_iload_n 2 dX4_followAll_0 rfl rfl ?_
  refine bf_aload_n 0 dX4_followAll_1 rfl rfl ?_
  refine fg_X4_46 dX4_followAll_2 rfl hk ?_
  refine bf_icmp_lt 14 dX4_followAll_5 (by decide) (fun c1 => ?_) (fun c1 => ?_)
  · have hf := (if_pos c1).symm.trans hf
    refine bf_iload_n 2 dX4_followAll_14 rfl rfl ?_
    refine bf_bipush (v := 8) dX4_followAll_15 (by decide) ?_
    refine bf_icmp_lt 21 dX4_followAll_17 (by decide) (fun c2 => ?_) (fun c2 => ?_)
    · have hf := (if_pos c2).symm.trans hf
      refine bf_iconst (v := 0) dX4_followAll_21 (by decide) ?_
      refine bf_istore (lv2 := [(4, .int _), (0, .ref _), (1, .ref _), (2, .int _), (3, .int _)]) dX4_followAll_22 (by decide) rfl ?_
      refine bf_perm [1, 2, 3, 0] rfl ?_
      refine ok_X4_followAll_24 hrec hk hk0 (fun I26 L26 hf => ?_) _ _ _ _  hf
      obtain rfl := Option.some.inj hf
      exact bf_vret dX4_followAll_128 rfl (Nat.le_refl _) (Nat.le_refl _) ⟨rfl, rfl⟩
    · have hf := (if_neg c2).symm.trans hf
      obtain rfl := Option.some.inj hf
      exact bf_vret dX4_followAll_20 rfl (Nat.le_refl _) (Nat.le_refl _) ⟨rfl, rfl⟩
  · have hf := (if_neg c1).symm.trans hf
    refine bf_aload_n 0 dX4_followAll_8 rfl rfl ?_
    refine bf_iload_n 3 dX4_followAll_9 rfl rfl ?_
    refine fp_X4_50 dX4_followAll_10 rfl hk ?_
    obtain rfl := Option.some.inj hf
    exact bf_vret dX4_followAll_13 rfl (Nat.le_refl _) (Nat.le_refl _) ⟨rfl, rfl⟩
theorem ok_X4_followAll_r {Γ : bf_Gm} {ad : Nat → Nat} : ∀ (d : Nat) {o : Nat} {a0 : Nat} {a1 : Int32} {a2 : Int32} {I : Nat → Nat → Int32} {L : Nat → Nat → Int64} {r : bf_St}, bf_kd o = 4 → bf_kd a0 = 3 → f_X4_followAll d o a0 a1 a2 I L = some r → bf_Cn Γ (3 + d) mu_X4_followAll 0 0 [.ref (ad o), .ref (ad a0), .int a1, .int a2] (bf_S ad I L) (fun q h => q = none ∧ h = bf_S ad r.1 r.2) := by
  intro d
  induction d with
  | zero => intro o a0 a1 a2 I L r hk hk0 hf; exact absurd (show none = some r from hf) (by simp)
  | succ d ih => intro o a0 a1 a2 I L r hk hk0 hf; exact ok_X4_followAll_b ih hk hk0 hf
theorem ok_X4_followAll {Γ : bf_Gm} {ad : Nat → Nat} {o : Nat} {a0 : Nat} {a1 : Int32} {a2 : Int32} {I : Nat → Nat → Int32} {L : Nat → Nat → Int64} (hk : bf_kd o = 4) (hk0 : bf_kd a0 = 3) {r : bf_St} (hf : f_X4_followAll 9 o a0 a1 a2 I L = some r) : bf_Cn Γ 12 mu_X4_followAll 0 0 [.ref (ad o), .ref (ad a0), .int a1, .int a2] (bf_S ad I L) (fun q h => q = none ∧ h = bf_S ad r.1 r.2) := ok_X4_followAll_r 9 hk hk0 hf
def f_X4_least_42 (v0 : Nat) (v1 : Nat) (K : Int32 → (Nat → Nat → Int32) → (Nat → Nat → Int64) → Option (Int32 × bf_St)) : Nat → Int32 → Int32 → (Nat → Nat → Int32) → (Nat → Nat → Int64) → Option (Int32 × bf_St)
  | 0, _, _, _, _ => none
  | n + 1, v3, v4, I, L =>
    (if (8 : Int32) ≤ v4 then (K v3 I L) else (if bf_ok v4 8 then (if bf_ok v4 8 then (if bf_ok v4 8 then (f_X4_least_42 v0 v1 K n (v3 + ((bf_u I ((v0 + 4) + 1 + (0 : Int32).toNatClampNeg) v4.toNatClampNeg (I ((v0 + 1) + 1) v4.toNatClampNeg)) ((v0 + 1) + 1) v4.toNatClampNeg)) (v4 + (1 : Int32)) (bf_u I ((v0 + 4) + 1 + (0 : Int32).toNatClampNeg) v4.toNatClampNeg (I ((v0 + 1) + 1) v4.toNatClampNeg)) L) else none) else none) else none))
set_option maxRecDepth 100000 in
set_option maxHeartbeats 4000000 in
theorem ok_X4_least_42 {Γ : bf_Gm} {ad : Nat → Nat} {v0 : Nat} {v1 : Nat} (hv0 : bf_kd v0 = 4) (hv1 : bf_kd v1 = 3) {r : Int32 × bf_St} {K : Int32 → (Nat → Nat → Int32) → (Nat → Nat → Int64) → Option (Int32 × bf_St)} (hK : ∀ (v3 : Int32) (I : Nat → Nat → Int32) (L : Nat → Nat → Int64), K v3 I L = some r → bf_Go Γ (bf_rm 13 0 0) mu_X4_least bf_E0 (bf_Z Γ (fun q h => q = some (.int r.1) ∧ h = bf_S ad r.2.1 r.2.2) 0 0) (0, 0) 87 [(0, .ref (ad v0)), (1, .ref (ad v1)), (3, .int v3)] [] (bf_S ad I L)) : ∀ (n : Nat) (v3 : Int32) (v4 : Int32) (I : Nat → Nat → Int32) (L : Nat → Nat → Int64), f_X4_least_42 v0 v1 K n v3 v4 I L = some r → bf_Go Γ (bf_rm 13 0 0) mu_X4_least bf_E0 (bf_Z Γ (fun q h => q = some (.int r.1) ∧ h = bf_S ad r.2.1 r.2.2) 0 0) (0, 0) 42 [(0, .ref (ad v0)), (1, .ref (ad v1)), (3, .int v3), (4, .int v4)] [] (bf_S ad I L) := by
  intro n
  induction n with
  | zero => intro v3 v4 I L hf; exact absurd (show none = some r from hf) (by simp)
  | succ n ih =>
    intro v3 v4 I L hf
    rw [f_X4_least_42] at hf
    refine bf_iload 3 dX4_least_42 rfl ?_
    refine bf_bipush (v := 8) dX4_least_44 (by decide) ?_
    refine bf_icmp_ge 87 dX4_least_46 (by decide) (fun c4 => ?_) (fun c4 => ?_)
    · have hf := (if_pos c4).symm.trans hf
      refine bf_perm [0, 1, 2] rfl ?_
      exact hK _ _ _ hf
    · have hf := (if_neg c4).symm.trans hf
      refine bf_aload_n 0 dX4_least_49 rfl rfl ?_
      refine fg_X4_24 dX4_least_50 rfl hv0 ?_
      refine bf_iconst (v := 0) dX4_least_53 (by decide) ?_
      refine al_20 dX4_least_54 (kr_4_2 hv0) (by rw [(la_20 (kr_4_2 hv0))]; decide) ?_
      refine bf_iload 3 dX4_least_55 rfl ?_
      refine bf_aload_n 0 dX4_least_57 rfl rfl ?_
      refine fg_X4_12 dX4_least_58 rfl hv0 ?_
      refine fg_X4_53 dX4_least_61 rfl (kr_4_0 hv0) ?_
      refine bf_iload 3 dX4_least_64 rfl ?_
      rcases Decidable.em (bf_ok v4 8) with c5 | c5
      · have hf := (if_pos c5).symm.trans hf
        refine bf_iald dX4_least_66 (kr_2_0 (kr_4_0 hv0)) (by rw [(kl_2_0 (kr_4_0 hv0))]; exact c5) ?_
        rcases Decidable.em (bf_ok v4 8) with c6 | c6
        · have hf := (if_pos c6).symm.trans hf
          refine bf_iast dX4_least_67 (ka_20 (kr_4_2 hv0) ((by rw [(la_20 (kr_4_2 hv0))]; decide) : bf_ok _ _).2) (by rw [(lb_20 (kr_4_2 hv0) ((by rw [(la_20 (kr_4_2 hv0))]; decide) : bf_ok _ _).2)]; exact c6) ?_
          refine bf_iload_n 2 dX4_least_68 rfl rfl ?_
          refine bf_aload_n 0 dX4_least_69 rfl rfl ?_
          refine fg_X4_12 dX4_least_70 rfl hv0 ?_
          refine fg_X4_53 dX4_least_73 rfl (kr_4_0 hv0) ?_
          refine bf_iload 3 dX4_least_76 rfl ?_
          rcases Decidable.em (bf_ok v4 8) with c7 | c7
          · have hf := (if_pos c7).symm.trans hf
            refine bf_iald dX4_least_78 (kr_2_0 (kr_4_0 hv0)) (by rw [(kl_2_0 (kr_4_0 hv0))]; exact c7) ?_
            refine bf_iadd dX4_least_79 ?_
            refine bf_istore_n (lv2 := [(3, .int _), (0, .ref _), (1, .ref _), (4, .int _)]) dX4_least_80 rfl (by decide) rfl ?_
            refine bf_iinc 3 (v := _ + (1 : Int32)) (lv2 := [(4, .int _), (3, .int _), (0, .ref _), (1, .ref _)]) dX4_least_81 rfl (by rfl) (by decide) rfl ?_
            refine bf_goto 42 dX4_least_84 (by decide) ?_
            refine bf_perm [2, 3, 1, 0] rfl ?_
            exact ih _ _ _ _ hf
          · exact absurd ((if_neg c7).symm.trans hf) (by simp)
        · exact absurd ((if_neg c6).symm.trans hf) (by simp)
      · exact absurd ((if_neg c5).symm.trans hf) (by simp)
def f_X4_least_p87 (v0 : Nat) (v1 : Nat) (v3 : Int32) (I : Nat → Nat → Int32) (L : Nat → Nat → Int64) : Option (Int32 × bf_St) :=
  ((f_X4_followAll 9 v0 v1 (0 : Int32) v3 I L).bind (fun r10 => (if (r10.1 v0 4) = (2147483647 : Int32) then (some ((-5 : Int32), r10.1, r10.2)) else (some ((r10.1 v0 4), r10.1, r10.2)))))
set_option maxRecDepth 100000 in
set_option maxHeartbeats 4000000 in
theorem ok_X4_least_p87 {Γ : bf_Gm} {ad : Nat → Nat} {v0 : Nat} {v1 : Nat} {v3 : Int32} {I : Nat → Nat → Int32} {L : Nat → Nat → Int64} (hv0 : bf_kd v0 = 4) (hv1 : bf_kd v1 = 3) {r : Int32 × bf_St} (hf : f_X4_least_p87 v0 v1 v3 I L = some r) : bf_Go Γ (bf_rm 13 0 0) mu_X4_least bf_E0 (bf_Z Γ (fun q h => q = some (.int r.1) ∧ h = bf_S ad r.2.1 r.2.2) 0 0) (0, 0) 87 [(0, .ref (ad v0)), (1, .ref (ad v1)), (3, .int v3)] [] (bf_S ad I L) := by
  unfold f_X4_least_p87 at hf
  refine bf_aload_n 0 dX4_least_87 rfl rfl ?_
  refine bf_aload_n 1 dX4_least_88 rfl rfl ?_
  refine bf_iconst (v := 0) dX4_least_89 (by decide) ?_
  refine bf_iload_n 2 dX4_least_90 rfl rfl ?_
  obtain ⟨r10, e9, hf⟩ := bf_bind hf
  have hCe9 := ok_X4_followAll (Γ := Γ) (ad := ad) hv0 hv1 e9
  refine cv_X4_56 12 dX4_least_91 rfl ⟨Nat.le_of_ble_eq_true rfl, Nat.le_of_ble_eq_true rfl⟩ (Nat.le_of_ble_eq_true rfl) hv0 hCe9 ?_
  refine bf_aload_n 0 dX4_least_94 rfl rfl ?_
  refine fg_X4_50 dX4_least_95 rfl hv0 ?_
  refine bf_ldc dX4_least_98 wk_X4_49 ?_
  refine bf_icmp_ne 108 dX4_least_100 (by decide) (fun c11 => ?_) (fun c11 => ?_)
  · have hf := (if_neg c11).symm.trans hf
    refine bf_aload_n 0 dX4_least_108 rfl rfl ?_
    refine fg_X4_50 dX4_least_109 rfl hv0 ?_
    obtain rfl := Option.some.inj hf
    exact bf_iret dX4_least_112 rfl (Nat.le_refl _) (Nat.le_refl _) ⟨rfl, rfl⟩
  · have hf := (if_pos c11).symm.trans hf
    refine bf_bipush (v := -5) dX4_least_103 (by decide) ?_
    refine bf_goto 112 dX4_least_105 (by decide) ?_
    obtain rfl := Option.some.inj hf
    exact bf_iret dX4_least_112 rfl (Nat.le_refl _) (Nat.le_refl _) ⟨rfl, rfl⟩
def f_X4_least (o : Nat) (a0 : Nat) (a1 : Nat) (I : Nat → Nat → Int32) (L : Nat → Nat → Int64) : Option (Int32 × bf_St) :=
  ((f_X2_load (o + 1) a0 I L).bind (fun r2 => (if bf_cpOK (0 : Int32) (0 : Int32) (6 : Int32) (a1 + 1) (o + 3) then (f_X4_least_42 o a0 (fun k3_8 I8 L8 => (f_X4_least_p87 o a0 k3_8 I8 L8)) 400 (0 : Int32) (0 : Int32) (bf_u (bf_u (bf_w r2.1 (o + 3) (va_cpy (r2.1 (a1 + 1)) (r2.1 (o + 3)) (0 : Int32).toNatClampNeg (0 : Int32).toNatClampNeg (6 : Int32).toNatClampNeg)) o 3 ((bf_w r2.1 (o + 3) (va_cpy (r2.1 (a1 + 1)) (r2.1 (o + 3)) (0 : Int32).toNatClampNeg (0 : Int32).toNatClampNeg (6 : Int32).toNatClampNeg)) a1 2)) o 4 (2147483647 : Int32)) r2.2) else none)))
set_option maxRecDepth 100000 in
set_option maxHeartbeats 4000000 in
theorem ok_X4_least {Γ : bf_Gm} {ad : Nat → Nat} {o : Nat} {a0 : Nat} {a1 : Nat} {I : Nat → Nat → Int32} {L : Nat → Nat → Int64} (hk : bf_kd o = 4) (hk0 : bf_kd a0 = 3) (hk1 : bf_kd a1 = 6) {r : Int32 × bf_St} (hf : f_X4_least o a0 a1 I L = some r) : bf_Cn Γ 13 mu_X4_least 0 0 [.ref (ad o), .ref (ad a0), .ref (ad a1)] (bf_S ad I L) (fun q h => q = some (.int r.1) ∧ h = bf_S ad r.2.1 r.2.2) := by
  refine bf_met rfl (Nat.le_of_ble_eq_true rfl) ?_
  unfold f_X4_least at hf
  refine bf_aload_n 0 dX4_least_0 rfl rfl ?_
  refine fg_X4_12 dX4_least_1 rfl hk ?_
  refine bf_aload_n 1 dX4_least_4 rfl rfl ?_
  obtain ⟨r2, e1, hf⟩ := bf_bind hf
  have hCe1 := ok_X2_load (Γ := Γ) (ad := ad) (kr_4_0 hk) hk0 e1
  refine cv_X4_27 0 dX4_least_5 rfl ⟨Nat.le_of_ble_eq_true rfl, Nat.le_of_ble_eq_true rfl⟩ (Nat.le_of_ble_eq_true rfl) (kr_4_0 hk) hCe1 ?_
  refine bf_aload_n 2 dX4_least_8 rfl rfl ?_
  refine fg_X4_31 dX4_least_9 rfl hk1 ?_
  refine bf_iconst (v := 0) dX4_least_12 (by decide) ?_
  refine bf_aload_n 0 dX4_least_13 rfl rfl ?_
  refine fg_X4_18 dX4_least_14 rfl hk ?_
  refine bf_iconst (v := 0) dX4_least_17 (by decide) ?_
  refine bf_bipush (v := 6) dX4_least_18 (by decide) ?_
  rcases Decidable.em (bf_cpOK (0 : Int32) (0 : Int32) (6 : Int32) (a1 + 1) (o + 3)) with c3 | c3
  · have hf := (if_pos c3).symm.trans hf
    refine bf_copyi dX4_least_20 wl_X4_36 wn_Jcopy wt_Jcopy wi_J10 (kr_6_3 hk1) (kr_4_1 hk) c3 (Nat.le_of_ble_eq_true rfl) (Nat.le_of_ble_eq_true rfl) ?_
    refine bf_aload_n 0 dX4_least_23 rfl rfl ?_
    refine bf_aload_n 2 dX4_least_24 rfl rfl ?_
    refine fg_X4_42 dX4_least_25 rfl hk1 ?_
    refine fp_X4_46 dX4_least_28 rfl hk ?_
    refine bf_aload_n 0 dX4_least_31 rfl rfl ?_
    refine bf_ldc dX4_least_32 wk_X4_49 ?_
    refine fp_X4_50 dX4_least_34 rfl hk ?_
    refine bf_iconst (v := 0) dX4_least_37 (by decide) ?_
    refine bf_istore_n (lv2 := [(3, .int _), (0, .ref _), (1, .ref _), (2, .ref _)]) dX4_least_38 rfl (by decide) rfl ?_
    refine bf_iconst (v := 0) dX4_least_39 (by decide) ?_
    refine bf_istore (lv2 := [(4, .int _), (3, .int _), (0, .ref _), (1, .ref _), (2, .ref _)]) dX4_least_40 (by decide) rfl ?_
    refine bf_perm [2, 3, 1, 0] rfl ?_
    refine ok_X4_least_42 hk hk0 (fun k3_8 I8 L8 hf => ?_) _ _ _ _ _  hf
    exact ok_X4_least_p87 hk hk0  hf
  · exact absurd ((if_neg c3).symm.trans hf) (by simp)
def f_X5_clear (o : Nat) (I : Nat → Nat → Int32) (L : Nat → Nat → Int64) : Option (Int32 × bf_St) :=
  (some ((0 : Int32), (bf_u I o 0 (0 : Int32)), L))
set_option maxRecDepth 100000 in
set_option maxHeartbeats 4000000 in
theorem ok_X5_clear {Γ : bf_Gm} {ad : Nat → Nat} {o : Nat} {I : Nat → Nat → Int32} {L : Nat → Nat → Int64} (hk : bf_kd o = 5) {r : Int32 × bf_St} (hf : f_X5_clear o I L = some r) : bf_Cn Γ 0 mu_X5_clear 0 0 [.ref (ad o)] (bf_S ad I L) (fun q h => q = some (.int r.1) ∧ h = bf_S ad r.2.1 r.2.2) := by
  refine bf_met rfl (Nat.le_of_ble_eq_true rfl) ?_
  unfold f_X5_clear at hf
  refine bf_aload_n 0 dX5_clear_0 rfl rfl ?_
  refine bf_iconst (v := 0) dX5_clear_1 (by decide) ?_
  refine fp_X5_27 dX5_clear_2 rfl hk ?_
  refine bf_iconst (v := 0) dX5_clear_5 (by decide) ?_
  obtain rfl := Option.some.inj hf
  exact bf_iret dX5_clear_6 rfl (Nat.le_refl _) (Nat.le_refl _) ⟨rfl, rfl⟩
def f_X5_append (o : Nat) (a0 : Int32) (a1 : Int32) (a2 : Int32) (I : Nat → Nat → Int32) (L : Nat → Nat → Int64) : Option (Int32 × bf_St) :=
  (if (I o 0) < (Int32.ofNat (bf_le (o + 1))) then (if bf_ok (I o 0) (bf_le (o + 1)) then (if bf_ok ((bf_u I (o + 1) (I o 0).toNatClampNeg a0) o 0) (bf_le (o + 2)) then (if bf_ok ((bf_u (bf_u I (o + 1) (I o 0).toNatClampNeg a0) (o + 2) ((bf_u I (o + 1) (I o 0).toNatClampNeg a0) o 0).toNatClampNeg a1) o 0) (bf_le (o + 3)) then (some (((bf_u (bf_u (bf_u (bf_u I (o + 1) (I o 0).toNatClampNeg a0) (o + 2) ((bf_u I (o + 1) (I o 0).toNatClampNeg a0) o 0).toNatClampNeg a1) (o + 3) ((bf_u (bf_u I (o + 1) (I o 0).toNatClampNeg a0) (o + 2) ((bf_u I (o + 1) (I o 0).toNatClampNeg a0) o 0).toNatClampNeg a1) o 0).toNatClampNeg a2) o 0 (((bf_u (bf_u (bf_u I (o + 1) (I o 0).toNatClampNeg a0) (o + 2) ((bf_u I (o + 1) (I o 0).toNatClampNeg a0) o 0).toNatClampNeg a1) (o + 3) ((bf_u (bf_u I (o + 1) (I o 0).toNatClampNeg a0) (o + 2) ((bf_u I (o + 1) (I o 0).toNatClampNeg a0) o 0).toNatClampNeg a1) o 0).toNatClampNeg a2) o 0) + (1 : Int32))) o 0), (bf_u (bf_u (bf_u (bf_u I (o + 1) (I o 0).toNatClampNeg a0) (o + 2) ((bf_u I (o + 1) (I o 0).toNatClampNeg a0) o 0).toNatClampNeg a1) (o + 3) ((bf_u (bf_u I (o + 1) (I o 0).toNatClampNeg a0) (o + 2) ((bf_u I (o + 1) (I o 0).toNatClampNeg a0) o 0).toNatClampNeg a1) o 0).toNatClampNeg a2) o 0 (((bf_u (bf_u (bf_u I (o + 1) (I o 0).toNatClampNeg a0) (o + 2) ((bf_u I (o + 1) (I o 0).toNatClampNeg a0) o 0).toNatClampNeg a1) (o + 3) ((bf_u (bf_u I (o + 1) (I o 0).toNatClampNeg a0) (o + 2) ((bf_u I (o + 1) (I o 0).toNatClampNeg a0) o 0).toNatClampNeg a1) o 0).toNatClampNeg a2) o 0) + (1 : Int32))), L)) else none) else none) else none) else (some ((-4 : Int32), I, L)))
set_option maxRecDepth 100000 in
set_option maxHeartbeats 4000000 in
theorem ok_X5_append {Γ : bf_Gm} {ad : Nat → Nat} {o : Nat} {a0 : Int32} {a1 : Int32} {a2 : Int32} {I : Nat → Nat → Int32} {L : Nat → Nat → Int64} (hk : bf_kd o = 5) {r : Int32 × bf_St} (hf : f_X5_append o a0 a1 a2 I L = some r) : bf_Cn Γ 0 mu_X5_append 0 0 [.ref (ad o), .int a0, .int a1, .int a2] (bf_S ad I L) (fun q h => q = some (.int r.1) ∧ h = bf_S ad r.2.1 r.2.2) := by
  refine bf_met rfl (Nat.le_of_ble_eq_true rfl) ?_
  unfold f_X5_append at hf
  refine bf_aload_n 0 dX5_append_0 rfl rfl ?_
  refine fg_X5_27 dX5_append_1 rfl hk ?_
  refine bf_aload_n 0 dX5_append_4 rfl rfl ?_
  refine fg_X5_15 dX5_append_5 rfl hk ?_
  refine bf_alenI dX5_append_8 (kr_5_1 hk) ?_
  refine bf_icmp_lt 15 dX5_append_9 (by decide) (fun c1 => ?_) (fun c1 => ?_)
  · have hf := (if_pos c1).symm.trans hf
    refine bf_aload_n 0 dX5_append_15 rfl rfl ?_
    refine fg_X5_15 dX5_append_16 rfl hk ?_
    refine bf_aload_n 0 dX5_append_19 rfl rfl ?_
    refine fg_X5_27 dX5_append_20 rfl hk ?_
    refine bf_iload_n 1 dX5_append_23 rfl rfl ?_
    rcases Decidable.em (bf_ok (I o 0) (bf_le (o + 1))) with c2 | c2
    · have hf := (if_pos c2).symm.trans hf
      refine bf_iast dX5_append_24 (kr_5_1 hk) c2 ?_
      refine bf_aload_n 0 dX5_append_25 rfl rfl ?_
      refine fg_X5_21 dX5_append_26 rfl hk ?_
      refine bf_aload_n 0 dX5_append_29 rfl rfl ?_
      refine fg_X5_27 dX5_append_30 rfl hk ?_
      refine bf_iload_n 2 dX5_append_33 rfl rfl ?_
      rcases Decidable.em (bf_ok ((bf_u I (o + 1) (I o 0).toNatClampNeg a0) o 0) (bf_le (o + 2))) with c3 | c3
      · have hf := (if_pos c3).symm.trans hf
        refine bf_iast dX5_append_34 (kr_5_2 hk) c3 ?_
        refine bf_aload_n 0 dX5_append_35 rfl rfl ?_
        refine fg_X5_24 dX5_append_36 rfl hk ?_
        refine bf_aload_n 0 dX5_append_39 rfl rfl ?_
        refine fg_X5_27 dX5_append_40 rfl hk ?_
        refine bf_iload_n 3 dX5_append_43 rfl rfl ?_
        rcases Decidable.em (bf_ok ((bf_u (bf_u I (o + 1) (I o 0).toNatClampNeg a0) (o + 2) ((bf_u I (o + 1) (I o 0).toNatClampNeg a0) o 0).toNatClampNeg a1) o 0) (bf_le (o + 3))) with c4 | c4
        · have hf := (if_pos c4).symm.trans hf
          refine bf_iast dX5_append_44 (kr_5_3 hk) c4 ?_
          refine bf_aload_n 0 dX5_append_45 rfl rfl ?_
          refine bf_dup dX5_append_46 rfl ?_
          refine fg_X5_27 dX5_append_47 rfl hk ?_
          refine bf_iconst (v := 1) dX5_append_50 (by decide) ?_
          refine bf_iadd dX5_append_51 ?_
          refine fp_X5_27 dX5_append_52 rfl hk ?_
          refine bf_aload_n 0 dX5_append_55 rfl rfl ?_
          refine fg_X5_27 dX5_append_56 rfl hk ?_
          obtain rfl := Option.some.inj hf
          exact bf_iret dX5_append_59 rfl (Nat.le_refl _) (Nat.le_refl _) ⟨rfl, rfl⟩
        · exact absurd ((if_neg c4).symm.trans hf) (by simp)
      · exact absurd ((if_neg c3).symm.trans hf) (by simp)
    · exact absurd ((if_neg c2).symm.trans hf) (by simp)
  · have hf := (if_neg c1).symm.trans hf
    refine bf_bipush (v := -4) dX5_append_12 (by decide) ?_
    obtain rfl := Option.some.inj hf
    exact bf_iret dX5_append_14 rfl (Nat.le_refl _) (Nat.le_refl _) ⟨rfl, rfl⟩
def f_X5_copyFrom_7 (v0 : Nat) (v1 : Nat) (K : (Nat → Nat → Int32) → (Nat → Nat → Int64) → Option (bf_St)) : Nat → Int32 → (Nat → Nat → Int32) → (Nat → Nat → Int64) → Option (bf_St)
  | 0, _, _, _ => none
  | n + 1, v2, I, L =>
    (if (I v1 0) ≤ v2 then (K I L) else (if bf_ok v2 (bf_le (v1 + 1)) then (if bf_ok v2 (bf_le (v1 + 2)) then (if bf_ok v2 (bf_le (v1 + 3)) then ((f_X5_append v0 (I (v1 + 1) v2.toNatClampNeg) (I (v1 + 2) v2.toNatClampNeg) (I (v1 + 3) v2.toNatClampNeg) I L).bind (fun r8 => (f_X5_copyFrom_7 v0 v1 K n (v2 + (1 : Int32)) r8.2.1 r8.2.2))) else none) else none) else none))
set_option maxRecDepth 100000 in
set_option maxHeartbeats 4000000 in
theorem ok_X5_copyFrom_7 {Γ : bf_Gm} {ad : Nat → Nat} {v0 : Nat} {v1 : Nat} (hv0 : bf_kd v0 = 5) (hv1 : bf_kd v1 = 5) {r : bf_St} {K : (Nat → Nat → Int32) → (Nat → Nat → Int64) → Option (bf_St)} (hK : ∀ (I : Nat → Nat → Int32) (L : Nat → Nat → Int64), K  I L = some r → bf_Go Γ (bf_rm 1 0 0) mu_X5_copyFrom bf_E0 (bf_Z Γ (fun q h => q = none ∧ h = bf_S ad r.1 r.2) 0 0) (0, 0) 44 [] [] (bf_S ad I L)) : ∀ (n : Nat) (v2 : Int32) (I : Nat → Nat → Int32) (L : Nat → Nat → Int64), f_X5_copyFrom_7 v0 v1 K n v2 I L = some r → bf_Go Γ (bf_rm 1 0 0) mu_X5_copyFrom bf_E0 (bf_Z Γ (fun q h => q = none ∧ h = bf_S ad r.1 r.2) 0 0) (0, 0) 7 [(0, .ref (ad v0)), (1, .ref (ad v1)), (2, .int v2)] [] (bf_S ad I L) := by
  intro n
  induction n with
  | zero => intro v2 I L hf; exact absurd (show none = some r from hf) (by simp)
  | succ n ih =>
    intro v2 I L hf
    rw [f_X5_copyFrom_7] at hf
    refine bf_iload_n 2 dX5_copyFrom_7 rfl rfl ?_
    refine bf_aload_n 1 dX5_copyFrom_8 rfl rfl ?_
    refine fg_X5_27 dX5_copyFrom_9 rfl hv1 ?_
    refine bf_icmp_ge 44 dX5_copyFrom_12 (by decide) (fun c3 => ?_) (fun c3 => ?_)
    · have hf := (if_pos c3).symm.trans hf
      refine bf_perm [] rfl ?_
      exact hK _ _ hf
    · have hf := (if_neg c3).symm.trans hf
      refine bf_aload_n 0 dX5_copyFrom_15 rfl rfl ?_
      refine bf_aload_n 1 dX5_copyFrom_16 rfl rfl ?_
      refine fg_X5_15 dX5_copyFrom_17 rfl hv1 ?_
      refine bf_iload_n 2 dX5_copyFrom_20 rfl rfl ?_
      rcases Decidable.em (bf_ok v2 (bf_le (v1 + 1))) with c4 | c4
      · have hf := (if_pos c4).symm.trans hf
        refine bf_iald dX5_copyFrom_21 (kr_5_1 hv1) c4 ?_
        refine bf_aload_n 1 dX5_copyFrom_22 rfl rfl ?_
        refine fg_X5_21 dX5_copyFrom_23 rfl hv1 ?_
        refine bf_iload_n 2 dX5_copyFrom_26 rfl rfl ?_
        rcases Decidable.em (bf_ok v2 (bf_le (v1 + 2))) with c5 | c5
        · have hf := (if_pos c5).symm.trans hf
          refine bf_iald dX5_copyFrom_27 (kr_5_2 hv1) c5 ?_
          refine bf_aload_n 1 dX5_copyFrom_28 rfl rfl ?_
          refine fg_X5_24 dX5_copyFrom_29 rfl hv1 ?_
          refine bf_iload_n 2 dX5_copyFrom_32 rfl rfl ?_
          rcases Decidable.em (bf_ok v2 (bf_le (v1 + 3))) with c6 | c6
          · have hf := (if_pos c6).symm.trans hf
            refine bf_iald dX5_copyFrom_33 (kr_5_3 hv1) c6 ?_
            obtain ⟨r8, e7, hf⟩ := bf_bind hf
            have hCe7 := ok_X5_append (Γ := Γ) (ad := ad) hv0 e7
            refine cv_X5_35 0 dX5_copyFrom_34 rfl ⟨Nat.le_of_ble_eq_true rfl, Nat.le_of_ble_eq_true rfl⟩ (Nat.le_of_ble_eq_true rfl) hv0 hCe7 ?_
            refine bf_pop dX5_copyFrom_37 rfl ?_
            refine bf_iinc 2 (v := _ + (1 : Int32)) (lv2 := [(2, .int _), (0, .ref _), (1, .ref _)]) dX5_copyFrom_38 rfl (by rfl) (by decide) rfl ?_
            refine bf_goto 7 dX5_copyFrom_41 (by decide) ?_
            refine bf_perm [1, 2, 0] rfl ?_
            exact ih _ _ _ hf
          · exact absurd ((if_neg c6).symm.trans hf) (by simp)
        · exact absurd ((if_neg c5).symm.trans hf) (by simp)
      · exact absurd ((if_neg c4).symm.trans hf) (by simp)
def f_X5_copyFrom (o : Nat) (a0 : Nat) (I : Nat → Nat → Int32) (L : Nat → Nat → Int64) : Option (bf_St) :=
  ((f_X5_clear o I L).bind (fun r2 => (f_X5_copyFrom_7 o a0 (fun I9 L9 => (some (I9, L9))) 400 (0 : Int32) r2.2.1 r2.2.2)))
set_option maxRecDepth 100000 in
set_option maxHeartbeats 4000000 in
theorem ok_X5_copyFrom {Γ : bf_Gm} {ad : Nat → Nat} {o : Nat} {a0 : Nat} {I : Nat → Nat → Int32} {L : Nat → Nat → Int64} (hk : bf_kd o = 5) (hk0 : bf_kd a0 = 5) {r : bf_St} (hf : f_X5_copyFrom o a0 I L = some r) : bf_Cn Γ 1 mu_X5_copyFrom 0 0 [.ref (ad o), .ref (ad a0)] (bf_S ad I L) (fun q h => q = none ∧ h = bf_S ad r.1 r.2) := by
  refine bf_met rfl (Nat.le_of_ble_eq_true rfl) ?_
  unfold f_X5_copyFrom at hf
  refine bf_aload_n 0 dX5_copyFrom_0 rfl rfl ?_
  obtain ⟨r2, e1, hf⟩ := bf_bind hf
  have hCe1 := ok_X5_clear (Γ := Γ) (ad := ad) hk e1
  refine cv_X5_31 0 dX5_copyFrom_1 rfl ⟨Nat.le_of_ble_eq_true rfl, Nat.le_of_ble_eq_true rfl⟩ (Nat.le_of_ble_eq_true rfl) hk hCe1 ?_
  refine bf_pop dX5_copyFrom_4 rfl ?_
  refine bf_iconst (v := 0) dX5_copyFrom_5 (by decide) ?_
  refine bf_istore_n (lv2 := [(2, .int _), (0, .ref _), (1, .ref _)]) dX5_copyFrom_6 rfl (by decide) rfl ?_
  refine bf_perm [1, 2, 0] rfl ?_
  refine ok_X5_copyFrom_7 hk hk0 (fun I9 L9 hf => ?_) _ _ _ _  hf
  obtain rfl := Option.some.inj hf
  exact bf_vret dX5_copyFrom_44 rfl (Nat.le_refl _) (Nat.le_refl _) ⟨rfl, rfl⟩
def f_X6_canFire (o : Nat) (a0 : Nat) (a1 : Int32) (I : Nat → Nat → Int32) (L : Nat → Nat → Int64) : Option (Int32 × bf_St) :=
  ((f_X2_load (o + 6) a0 I L).bind (fun r2 => ((f_X2_canFire (o + 6) a0 a1 r2.1 r2.2).bind (fun r4 => (if r4.1 = 0 ∨ r4.1 = 1 then some (r4.1, r4.2.1, r4.2.2) else none)))))
set_option maxRecDepth 100000 in
set_option maxHeartbeats 4000000 in
theorem ok_X6_canFire {Γ : bf_Gm} {ad : Nat → Nat} {o : Nat} {a0 : Nat} {a1 : Int32} {I : Nat → Nat → Int32} {L : Nat → Nat → Int64} (hk : bf_kd o = 6) (hk0 : bf_kd a0 = 3) {r : Int32 × bf_St} (hf : f_X6_canFire o a0 a1 I L = some r) : bf_Cn Γ 3 mu_X6_canFire 0 0 [.ref (ad o), .ref (ad a0), .int a1] (bf_S ad I L) (fun q h => q = some (.int r.1) ∧ h = bf_S ad r.2.1 r.2.2) := by
  refine bf_met rfl (Nat.le_of_ble_eq_true rfl) ?_
  unfold f_X6_canFire at hf
  refine bf_aload_n 0 dX6_canFire_0 rfl rfl ?_
  refine fg_X6_30 dX6_canFire_1 rfl hk ?_
  refine bf_aload_n 1 dX6_canFire_4 rfl rfl ?_
  obtain ⟨r2, e1, hf⟩ := bf_bind hf
  have hCe1 := ok_X2_load (Γ := Γ) (ad := ad) (kr_6_9 hk) hk0 e1
  refine cv_X6_34 0 dX6_canFire_5 rfl ⟨Nat.le_of_ble_eq_true rfl, Nat.le_of_ble_eq_true rfl⟩ (Nat.le_of_ble_eq_true rfl) (kr_6_9 hk) hCe1 ?_
  refine bf_aload_n 0 dX6_canFire_8 rfl rfl ?_
  refine fg_X6_30 dX6_canFire_9 rfl hk ?_
  refine bf_aload_n 1 dX6_canFire_12 rfl rfl ?_
  refine bf_iload_n 2 dX6_canFire_13 rfl rfl ?_
  obtain ⟨r4, e3, hf⟩ := bf_bind hf
  have hCe3 := ok_X2_canFire (Γ := Γ) (ad := ad) (kr_6_9 hk) hk0 e3
  refine cv_X6_38 2 dX6_canFire_14 rfl ⟨Nat.le_of_ble_eq_true rfl, Nat.le_of_ble_eq_true rfl⟩ (Nat.le_of_ble_eq_true rfl) (kr_6_9 hk) hCe3 ?_
  rcases Decidable.em (r4.1 = 0 ∨ r4.1 = 1) with c5 | c5
  · have hf := (if_pos c5).symm.trans hf
    obtain rfl := Option.some.inj hf
    exact bf_zret dX6_canFire_17 rfl (by rcases c5 with q | q <;> rw [q] <;> rfl) (Nat.le_refl _) (Nat.le_refl _) ⟨rfl, rfl⟩
  · exact absurd ((if_neg c5).symm.trans hf) (by simp)
def f_X6_goes (o : Nat) (I : Nat → Nat → Int32) (L : Nat → Nat → Int64) : Option (Int32 × bf_St) :=
  (if (I o 0) = 0 then (if (I o 1) = 0 then (some ((1 : Int32), I, L)) else (some ((0 : Int32), I, L))) else (some ((0 : Int32), I, L)))
set_option maxRecDepth 100000 in
set_option maxHeartbeats 4000000 in
theorem ok_X6_goes {Γ : bf_Gm} {ad : Nat → Nat} {o : Nat} {I : Nat → Nat → Int32} {L : Nat → Nat → Int64} (hk : bf_kd o = 6) {r : Int32 × bf_St} (hf : f_X6_goes o I L = some r) : bf_Cn Γ 0 mu_X6_goes 0 0 [.ref (ad o)] (bf_S ad I L) (fun q h => q = some (.int r.1) ∧ h = bf_S ad r.2.1 r.2.2) := by
  refine bf_met rfl (Nat.le_of_ble_eq_true rfl) ?_
  unfold f_X6_goes at hf
  refine bf_aload_n 0 dX6_goes_0 rfl rfl ?_
  refine fg_X6_42 dX6_goes_1 rfl hk ?_
  refine bf_if_ne 18 dX6_goes_4 (by decide) (fun c1 => ?_) (fun c1 => ?_)
  · have hf := (if_neg c1).symm.trans hf
    refine bf_iconst (v := 0) dX6_goes_18 (by decide) ?_
    obtain rfl := Option.some.inj hf
    exact bf_zret dX6_goes_19 rfl rfl (Nat.le_refl _) (Nat.le_refl _) ⟨rfl, rfl⟩
  · have hf := (if_pos c1).symm.trans hf
    refine bf_aload_n 0 dX6_goes_7 rfl rfl ?_
    refine fg_X6_46 dX6_goes_8 rfl hk ?_
    refine bf_if_ne 18 dX6_goes_11 (by decide) (fun c2 => ?_) (fun c2 => ?_)
    · have hf := (if_neg c2).symm.trans hf
      refine bf_iconst (v := 0) dX6_goes_18 (by decide) ?_
      obtain rfl := Option.some.inj hf
      exact bf_zret dX6_goes_19 rfl rfl (Nat.le_refl _) (Nat.le_refl _) ⟨rfl, rfl⟩
    · have hf := (if_pos c2).symm.trans hf
      refine bf_iconst (v := 1) dX6_goes_14 (by decide) ?_
      refine bf_goto 19 dX6_goes_15 (by decide) ?_
      obtain rfl := Option.some.inj hf
      exact bf_zret dX6_goes_19 rfl rfl (Nat.le_refl _) (Nat.le_refl _) ⟨rfl, rfl⟩
def f_X11_greatestDivisor_9 (K : Int64 → (Nat → Nat → Int32) → (Nat → Nat → Int64) → Option (Int64 × bf_St)) : Nat → Int64 → Int64 → Int32 → (Nat → Nat → Int32) → (Nat → Nat → Int64) → Option (Int64 × bf_St)
  | 0, _, _, _, _, _ => none
  | n + 1, v4, v6, v8, I, L =>
    (if (200 : Int32) ≤ v8 then (K v4 I L) else (if (lg_cmp v6 (0 : Int64)) = 0 then (K v4 I L) else (if v6 = 0 then none else (f_X11_greatestDivisor_9 K n v6 (v4 - v4 / v6 * v6) (v8 + (1 : Int32)) I L))))
set_option maxRecDepth 100000 in
set_option maxHeartbeats 4000000 in
theorem ok_X11_greatestDivisor_9 {Γ : bf_Gm} {ad : Nat → Nat} {r : Int64 × bf_St} {K : Int64 → (Nat → Nat → Int32) → (Nat → Nat → Int64) → Option (Int64 × bf_St)} (hK : ∀ (v4 : Int64) (I : Nat → Nat → Int32) (L : Nat → Nat → Int64), K v4 I L = some r → bf_Go Γ (bf_rm 0 0 0) mu_X11_greatestDivisor bf_E0 (bf_Z Γ (fun q h => q = some (.long r.1) ∧ h = bf_S ad r.2.1 r.2.2) 0 0) (0, 0) 45 [(4, .long v4)] [] (bf_S ad I L)) : ∀ (n : Nat) (v4 : Int64) (v6 : Int64) (v8 : Int32) (I : Nat → Nat → Int32) (L : Nat → Nat → Int64), f_X11_greatestDivisor_9  K n v4 v6 v8 I L = some r → bf_Go Γ (bf_rm 0 0 0) mu_X11_greatestDivisor bf_E0 (bf_Z Γ (fun q h => q = some (.long r.1) ∧ h = bf_S ad r.2.1 r.2.2) 0 0) (0, 0) 9 [(4, .long v4), (6, .long v6), (8, .int v8)] [] (bf_S ad I L) := by
  intro n
  induction n with
  | zero => intro v4 v6 v8 I L hf; exact absurd (show none = some r from hf) (by simp)
  | succ n ih =>
    intro v4 v6 v8 I L hf
    rw [f_X11_greatestDivisor_9] at hf
    refine bf_iload 2 dX11_greatestDivisor_9 rfl ?_
    refine bf_sipush (v := 200) dX11_greatestDivisor_11 (by decide) ?_
    refine bf_icmp_ge 45 dX11_greatestDivisor_14 (by decide) (fun c1 => ?_) (fun c1 => ?_)
    · have hf := (if_pos c1).symm.trans hf
      refine bf_perm [0] rfl ?_
      exact hK _ _ _ hf
    · have hf := (if_neg c1).symm.trans hf
      refine bf_lload 1 dX11_greatestDivisor_17 rfl ?_
      refine bf_lconst (v := 0) dX11_greatestDivisor_19 (by decide) ?_
      refine bf_lcmp dX11_greatestDivisor_20 ?_
      refine bf_if_eq 45 dX11_greatestDivisor_21 (by decide) (fun c2 => ?_) (fun c2 => ?_)
      · have hf := (if_pos c2).symm.trans hf
        refine bf_perm [0] rfl ?_
        exact hK _ _ _ hf
      · have hf := (if_neg c2).symm.trans hf
        refine bf_lload 0 dX11_greatestDivisor_24 rfl ?_
        refine bf_lload 1 dX11_greatestDivisor_26 rfl ?_
        rcases Decidable.em (v6 = 0) with c3 | c3
        · exact absurd ((if_pos c3).symm.trans hf) (by simp)
        · have hf := (if_neg c3).symm.trans hf
          refine bf_lrem dX11_greatestDivisor_28 c3 ?_
          refine bf_lstore (lv2 := [(9, .long _), (4, .long _), (6, .long _), (8, .int _)]) dX11_greatestDivisor_29 (by decide) rfl ?_
          refine bf_lload 2 dX11_greatestDivisor_31 rfl ?_
          refine bf_lstore (lv2 := [(4, .long _), (9, .long _), (6, .long _), (8, .int _)]) dX11_greatestDivisor_33 (by decide) rfl ?_
          refine bf_lload 1 dX11_greatestDivisor_35 rfl ?_
          refine bf_lstore (lv2 := [(6, .long _), (4, .long _), (9, .long _), (8, .int _)]) dX11_greatestDivisor_37 (by decide) rfl ?_
          refine bf_iinc 3 (v := _ + (1 : Int32)) (lv2 := [(8, .int _), (6, .long _), (4, .long _), (9, .long _)]) dX11_greatestDivisor_39 rfl (by rfl) (by decide) rfl ?_
          refine bf_goto 9 dX11_greatestDivisor_42 (by decide) ?_
          refine bf_perm [2, 1, 0] rfl ?_
          exact ih _ _ _ _ _ hf
def f_X11_greatestDivisor (a0 : Int64) (a1 : Int64) (I : Nat → Nat → Int32) (L : Nat → Nat → Int64) : Option (Int64 × bf_St) :=
  (f_X11_greatestDivisor_9 (fun k4_4 I4 L4 => (some (k4_4, I4, L4))) 400 a0 a1 (0 : Int32) I L)
set_option maxRecDepth 100000 in
set_option maxHeartbeats 4000000 in
theorem ok_X11_greatestDivisor {Γ : bf_Gm} {ad : Nat → Nat} {a0 : Int64} {a1 : Int64} {I : Nat → Nat → Int32} {L : Nat → Nat → Int64} {r : Int64 × bf_St} (hf : f_X11_greatestDivisor a0 a1 I L = some r) : bf_Cn Γ 0 mu_X11_greatestDivisor 0 0 [.long a0, .long a1] (bf_S ad I L) (fun q h => q = some (.long r.1) ∧ h = bf_S ad r.2.1 r.2.2) := by
  refine bf_met rfl (Nat.le_of_ble_eq_true rfl) ?_
  unfold f_X11_greatestDivisor at hf
  refine bf_lload_n 0 dX11_greatestDivisor_0 rfl rfl ?_
  refine bf_lstore (lv2 := [(4, .long _), (0, .long _), (2, .long _)]) dX11_greatestDivisor_1 (by decide) rfl ?_
  refine bf_lload_n 2 dX11_greatestDivisor_3 rfl rfl ?_
  refine bf_lstore (lv2 := [(6, .long _), (4, .long _), (0, .long _), (2, .long _)]) dX11_greatestDivisor_4 (by decide) rfl ?_
  refine bf_iconst (v := 0) dX11_greatestDivisor_6 (by decide) ?_
  refine bf_istore (lv2 := [(8, .int _), (6, .long _), (4, .long _), (0, .long _), (2, .long _)]) dX11_greatestDivisor_7 (by decide) rfl ?_
  refine bf_perm [2, 1, 0] rfl ?_
  refine ok_X11_greatestDivisor_9  (fun k4_4 I4 L4 hf => ?_) _ _ _ _ _ _  hf
  refine bf_lload 0 dX11_greatestDivisor_45 rfl ?_
  obtain rfl := Option.some.inj hf
  exact bf_lret dX11_greatestDivisor_47 rfl (Nat.le_refl _) (Nat.le_refl _) ⟨rfl, rfl⟩
def f_X6_growLot_3 (v0 : Nat) (v1 : Int32) (v2 : Int32) (v3 : Int32) (K : (Nat → Nat → Int32) → (Nat → Nat → Int64) → Option (bf_St)) : Nat → Int32 → (Nat → Nat → Int32) → (Nat → Nat → Int64) → Option (bf_St)
  | 0, _, _, _ => none
  | n + 1, v4, I, L =>
    (if (6 : Int32) ≤ v4 then (K I L) else (if bf_ok v4 6 then (if (I (v0 + 4) v4.toNatClampNeg) = v1 then (if bf_ok v4 6 then (if bf_ok v4 6 then (if bf_ok v4 6 then (f_X6_growLot_3 v0 v1 v2 v3 K n (v4 + (1 : Int32)) (bf_u (bf_u I (v0 + 1) v4.toNatClampNeg ((I (v0 + 1) v4.toNatClampNeg) * v2)) (v0 + 4) v4.toNatClampNeg v3) L) else none) else none) else none) else (f_X6_growLot_3 v0 v1 v2 v3 K n (v4 + (1 : Int32)) I L)) else none))
set_option maxRecDepth 100000 in
set_option maxHeartbeats 4000000 in
theorem ok_X6_growLot_3 {Γ : bf_Gm} {ad : Nat → Nat} {v0 : Nat} {v1 : Int32} {v2 : Int32} {v3 : Int32} (hv0 : bf_kd v0 = 6) {r : bf_St} {K : (Nat → Nat → Int32) → (Nat → Nat → Int64) → Option (bf_St)} (hK : ∀ (I : Nat → Nat → Int32) (L : Nat → Nat → Int64), K  I L = some r → bf_Go Γ (bf_rm 0 0 0) mu_X6_growLot bf_E0 (bf_Z Γ (fun q h => q = none ∧ h = bf_S ad r.1 r.2) 0 0) (0, 0) 46 [] [] (bf_S ad I L)) : ∀ (n : Nat) (v4 : Int32) (I : Nat → Nat → Int32) (L : Nat → Nat → Int64), f_X6_growLot_3 v0 v1 v2 v3 K n v4 I L = some r → bf_Go Γ (bf_rm 0 0 0) mu_X6_growLot bf_E0 (bf_Z Γ (fun q h => q = none ∧ h = bf_S ad r.1 r.2) 0 0) (0, 0) 3 [(0, .ref (ad v0)), (1, .int v1), (2, .int v2), (3, .int v3), (4, .int v4)] [] (bf_S ad I L) := by
  intro n
  induction n with
  | zero => intro v4 I L hf; exact absurd (show none = some r from hf) (by simp)
  | succ n ih =>
    intro v4 I L hf
    rw [f_X6_growLot_3] at hf
    refine bf_iload 4 dX6_growLot_3 rfl ?_
    refine bf_bipush (v := 6) dX6_growLot_5 (by decide) ?_
    refine bf_icmp_ge 46 dX6_growLot_7 (by decide) (fun c1 => ?_) (fun c1 => ?_)
    · have hf := (if_pos c1).symm.trans hf
      refine bf_perm [] rfl ?_
      exact hK _ _ hf
    · have hf := (if_neg c1).symm.trans hf
      refine bf_aload_n 0 dX6_growLot_10 rfl rfl ?_
      refine fg_X6_21 dX6_growLot_11 rfl hv0 ?_
      refine bf_iload 4 dX6_growLot_14 rfl ?_
      rcases Decidable.em (bf_ok v4 6) with c2 | c2
      · have hf := (if_pos c2).symm.trans hf
        refine bf_iald dX6_growLot_16 (kr_6_7 hv0) (by rw [(kl_6_7 hv0)]; exact c2) ?_
        refine bf_iload_n 1 dX6_growLot_17 rfl rfl ?_
        refine bf_icmp_ne 40 dX6_growLot_18 (by decide) (fun c3 => ?_) (fun c3 => ?_)
        · have hf := (if_neg c3).symm.trans hf
          refine bf_iinc 4 (v := _ + (1 : Int32)) (lv2 := [(4, .int _), (0, .ref _), (1, .int _), (2, .int _), (3, .int _)]) dX6_growLot_40 rfl (by rfl) (by decide) rfl ?_
          refine bf_goto 3 dX6_growLot_43 (by decide) ?_
          refine bf_perm [1, 2, 3, 4, 0] rfl ?_
          exact ih _ _ _ hf
        · have hf := (if_pos c3).symm.trans hf
          refine bf_aload_n 0 dX6_growLot_21 rfl rfl ?_
          refine fg_X6_9 dX6_growLot_22 rfl hv0 ?_
          refine bf_iload 4 dX6_growLot_25 rfl ?_
          refine bf_dup2 dX6_growLot_27 rfl rfl ?_
          rcases Decidable.em (bf_ok v4 6) with c4 | c4
          · have hf := (if_pos c4).symm.trans hf
            refine bf_iald dX6_growLot_28 (kr_6_3 hv0) (by rw [(kl_6_3 hv0)]; exact c4) ?_
            refine bf_iload_n 2 dX6_growLot_29 rfl rfl ?_
            refine bf_imul dX6_growLot_30 ?_
            rcases Decidable.em (bf_ok v4 6) with c5 | c5
            · have hf := (if_pos c5).symm.trans hf
              refine bf_iast dX6_growLot_31 (kr_6_3 hv0) (by rw [(kl_6_3 hv0)]; exact c5) ?_
              refine bf_aload_n 0 dX6_growLot_32 rfl rfl ?_
              refine fg_X6_21 dX6_growLot_33 rfl hv0 ?_
              refine bf_iload 4 dX6_growLot_36 rfl ?_
              refine bf_iload_n 3 dX6_growLot_38 rfl rfl ?_
              rcases Decidable.em (bf_ok v4 6) with c6 | c6
              · have hf := (if_pos c6).symm.trans hf
                refine bf_iast dX6_growLot_39 (kr_6_7 hv0) (by rw [(kl_6_7 hv0)]; exact c6) ?_
                refine bf_iinc 4 (v := _ + (1 : Int32)) (lv2 := [(4, .int _), (0, .ref _), (1, .int _), (2, .int _), (3, .int _)]) dX6_growLot_40 rfl (by rfl) (by decide) rfl ?_
                refine bf_goto 3 dX6_growLot_43 (by decide) ?_
                refine bf_perm [1, 2, 3, 4, 0] rfl ?_
                exact ih _ _ _ hf
              · exact absurd ((if_neg c6).symm.trans hf) (by simp)
            · exact absurd ((if_neg c5).symm.trans hf) (by simp)
          · exact absurd ((if_neg c4).symm.trans hf) (by simp)
      · exact absurd ((if_neg c2).symm.trans hf) (by simp)
def f_X6_growLot (o : Nat) (a0 : Int32) (a1 : Int32) (a2 : Int32) (I : Nat → Nat → Int32) (L : Nat → Nat → Int64) : Option (bf_St) :=
  (f_X6_growLot_3 o a0 a1 a2 (fun I7 L7 => (some (I7, L7))) 400 (0 : Int32) I L)
set_option maxRecDepth 100000 in
set_option maxHeartbeats 4000000 in
theorem ok_X6_growLot {Γ : bf_Gm} {ad : Nat → Nat} {o : Nat} {a0 : Int32} {a1 : Int32} {a2 : Int32} {I : Nat → Nat → Int32} {L : Nat → Nat → Int64} (hk : bf_kd o = 6) {r : bf_St} (hf : f_X6_growLot o a0 a1 a2 I L = some r) : bf_Cn Γ 0 mu_X6_growLot 0 0 [.ref (ad o), .int a0, .int a1, .int a2] (bf_S ad I L) (fun q h => q = none ∧ h = bf_S ad r.1 r.2) := by
  refine bf_met rfl (Nat.le_of_ble_eq_true rfl) ?_
  unfold f_X6_growLot at hf
  refine bf_iconst (v := 0) dX6_growLot_0 (by decide) ?_
  refine bf_istore (lv2 := [(4, .int _), (0, .ref _), (1, .int _), (2, .int _), (3, .int _)]) dX6_growLot_1 (by decide) rfl ?_
  refine bf_perm [1, 2, 3, 4, 0] rfl ?_
  refine ok_X6_growLot_3 hk (fun I7 L7 hf => ?_) _ _ _ _  hf
  obtain rfl := Option.some.inj hf
  exact bf_vret dX6_growLot_46 rfl (Nat.le_refl _) (Nat.le_refl _) ⟨rfl, rfl⟩
def f_X6_joinLots (o : Nat) (a0 : Nat) (I : Nat → Nat → Int32) (L : Nat → Nat → Int64) : Option (Int32 × bf_St) :=
  (if bf_ok (I a0 0) 6 then (if bf_ok (I a0 1) 6 then (if bf_ok (I a0 0) 6 then (if bf_ok (I a0 1) 6 then (if (I (o + 4) (I a0 0).toNatClampNeg) = (I (o + 4) (I a0 1).toNatClampNeg) then (if ((I (o + 1) (I a0 0).toNatClampNeg) * (I a0 2)) = ((I (o + 1) (I a0 1).toNatClampNeg) * (I a0 3)) then (some ((1 : Int32), I, L)) else (some ((0 : Int32), I, L))) else ((f_X11_greatestDivisor (((I (o + 1) (I a0 0).toNatClampNeg) * (I a0 2))).toInt64 (((I (o + 1) (I a0 1).toNatClampNeg) * (I a0 3))).toInt64 I L).bind (fun r7 => (if 0 < (r7.1).toInt32 then (if (r7.1).toInt32 = 0 then none else ((f_X6_growLot o (I (o + 4) (I a0 0).toNatClampNeg) (((I (o + 1) (I a0 1).toNatClampNeg) * (I a0 3)) / (r7.1).toInt32) (I (o + 4) (I a0 0).toNatClampNeg) r7.2.1 r7.2.2).bind (fun r11 => (if (r7.1).toInt32 = 0 then none else ((f_X6_growLot o (I (o + 4) (I a0 1).toNatClampNeg) (((I (o + 1) (I a0 0).toNatClampNeg) * (I a0 2)) / (r7.1).toInt32) (I (o + 4) (I a0 0).toNatClampNeg) r11.1 r11.2).bind (fun r14 => (some ((1 : Int32), r14.1, r14.2)))))))) else (some ((0 : Int32), r7.2.1, r7.2.2)))))) else none) else none) else none) else none)
set_option maxRecDepth 100000 in
set_option maxHeartbeats 4000000 in
theorem ok_X6_joinLots {Γ : bf_Gm} {ad : Nat → Nat} {o : Nat} {a0 : Nat} {I : Nat → Nat → Int32} {L : Nat → Nat → Int64} (hk : bf_kd o = 6) (hk0 : bf_kd a0 = 10) {r : Int32 × bf_St} (hf : f_X6_joinLots o a0 I L = some r) : bf_Cn Γ 1 mu_X6_joinLots 0 0 [.ref (ad o), .ref (ad a0)] (bf_S ad I L) (fun q h => q = some (.int r.1) ∧ h = bf_S ad r.2.1 r.2.2) := by
  refine bf_met rfl (Nat.le_of_ble_eq_true rfl) ?_
  unfold f_X6_joinLots at hf
  refine bf_aload_n 0 dX6_joinLots_0 rfl rfl ?_
  refine fg_X6_9 dX6_joinLots_1 rfl hk ?_
  refine bf_aload_n 1 dX6_joinLots_4 rfl rfl ?_
  refine fg_X6_114 dX6_joinLots_5 rfl hk0 ?_
  rcases Decidable.em (bf_ok (I a0 0) 6) with c1 | c1
  · have hf := (if_pos c1).symm.trans hf
    refine bf_iald dX6_joinLots_8 (kr_6_3 hk) (by rw [(kl_6_3 hk)]; exact c1) ?_
    refine bf_aload_n 1 dX6_joinLots_9 rfl rfl ?_
    refine fg_X6_117 dX6_joinLots_10 rfl hk0 ?_
    refine bf_imul dX6_joinLots_13 ?_
    refine bf_istore_n (lv2 := [(2, .int _), (0, .ref _), (1, .ref _)]) dX6_joinLots_14 rfl (by decide) rfl ?_
    refine bf_aload_n 1 dX6_joinLots_15 rfl rfl ?_
    refine fg_X6_9 dX6_joinLots_16 rfl hk ?_
    refine bf_aload_n 2 dX6_joinLots_19 rfl rfl ?_
    refine fg_X6_120 dX6_joinLots_20 rfl hk0 ?_
    rcases Decidable.em (bf_ok (I a0 1) 6) with c2 | c2
    · have hf := (if_pos c2).symm.trans hf
      refine bf_iald dX6_joinLots_23 (kr_6_3 hk) (by rw [(kl_6_3 hk)]; exact c2) ?_
      refine bf_aload_n 2 dX6_joinLots_24 rfl rfl ?_
      refine fg_X6_123 dX6_joinLots_25 rfl hk0 ?_
      refine bf_imul dX6_joinLots_28 ?_
      refine bf_istore_n (lv2 := [(3, .int _), (2, .int _), (0, .ref _), (1, .ref _)]) dX6_joinLots_29 rfl (by decide) rfl ?_
      refine bf_aload_n 2 dX6_joinLots_30 rfl rfl ?_
      refine fg_X6_21 dX6_joinLots_31 rfl hk ?_
      refine bf_aload_n 3 dX6_joinLots_34 rfl rfl ?_
      refine fg_X6_114 dX6_joinLots_35 rfl hk0 ?_
      rcases Decidable.em (bf_ok (I a0 0) 6) with c3 | c3
      · have hf := (if_pos c3).symm.trans hf
        refine bf_iald dX6_joinLots_38 (kr_6_7 hk) (by rw [(kl_6_7 hk)]; exact c3) ?_
        refine bf_istore (lv2 := [(4, .int _), (3, .int _), (2, .int _), (0, .ref _), (1, .ref _)]) dX6_joinLots_39 (by decide) rfl ?_
        refine bf_aload_n 3 dX6_joinLots_41 rfl rfl ?_
        refine fg_X6_21 dX6_joinLots_42 rfl hk ?_
        refine bf_aload_n 4 dX6_joinLots_45 rfl rfl ?_
        refine fg_X6_120 dX6_joinLots_46 rfl hk0 ?_
        rcases Decidable.em (bf_ok (I a0 1) 6) with c4 | c4
        · have hf := (if_pos c4).symm.trans hf
          refine bf_iald dX6_joinLots_49 (kr_6_7 hk) (by rw [(kl_6_7 hk)]; exact c4) ?_
          refine bf_istore (lv2 := [(5, .int _), (4, .int _), (3, .int _), (2, .int _), (0, .ref _), (1, .ref _)]) dX6_joinLots_50 (by decide) rfl ?_
          refine bf_iload 1 dX6_joinLots_52 rfl ?_
          refine bf_iload 0 dX6_joinLots_54 rfl ?_
          refine bf_icmp_ne 70 dX6_joinLots_56 (by decide) (fun c5 => ?_) (fun c5 => ?_)
          · have hf := (if_neg c5).symm.trans hf
            refine bf_iload_n 3 dX6_joinLots_70 rfl rfl ?_
            refine bf_i2l dX6_joinLots_71 ?_
            refine bf_iload_n 2 dX6_joinLots_72 rfl rfl ?_
            refine bf_i2l dX6_joinLots_73 ?_
            obtain ⟨r7, e6, hf⟩ := bf_bind hf
            have hCe6 := ok_X11_greatestDivisor (Γ := Γ) (ad := ad)  e6
            refine cv_X6_126 0 dX6_joinLots_74 rfl ⟨Nat.le_of_ble_eq_true rfl, Nat.le_of_ble_eq_true rfl⟩ (Nat.le_of_ble_eq_true rfl) hCe6 ?_
            refine bf_l2i dX6_joinLots_77 ?_
            refine bf_istore (lv2 := [(6, .int _), (5, .int _), (4, .int _), (3, .int _), (2, .int _), (0, .ref _), (1, .ref _)]) dX6_joinLots_78 (by decide) rfl ?_
            refine bf_iload 0 dX6_joinLots_80 rfl ?_
            refine bf_if_gt 87 dX6_joinLots_82 (by decide) (fun c8 => ?_) (fun c8 => ?_)
            · have hf := (if_pos c8).symm.trans hf
              refine bf_aload_n 5 dX6_joinLots_87 rfl rfl ?_
              refine bf_iload 2 dX6_joinLots_88 rfl ?_
              refine bf_iload_n 3 dX6_joinLots_90 rfl rfl ?_
              refine bf_iload 0 dX6_joinLots_91 rfl ?_
              rcases Decidable.em ((r7.1).toInt32 = 0) with c9 | c9
              · exact absurd ((if_pos c9).symm.trans hf) (by simp)
              · have hf := (if_neg c9).symm.trans hf
                refine bf_idiv dX6_joinLots_93 c9 ?_
                refine bf_iload 2 dX6_joinLots_94 rfl ?_
                obtain ⟨r11, e10, hf⟩ := bf_bind hf
                have hCe10 := ok_X6_growLot (Γ := Γ) (ad := ad) hk e10
                refine cv_X6_130 0 dX6_joinLots_96 rfl ⟨Nat.le_of_ble_eq_true rfl, Nat.le_of_ble_eq_true rfl⟩ (Nat.le_of_ble_eq_true rfl) hk hCe10 ?_
                refine bf_aload_n 5 dX6_joinLots_99 rfl rfl ?_
                refine bf_iload 1 dX6_joinLots_100 rfl ?_
                refine bf_iload_n 4 dX6_joinLots_102 rfl rfl ?_
                refine bf_iload 0 dX6_joinLots_103 rfl ?_
                rcases Decidable.em ((r7.1).toInt32 = 0) with c12 | c12
                · exact absurd ((if_pos c12).symm.trans hf) (by simp)
                · have hf := (if_neg c12).symm.trans hf
                  refine bf_idiv dX6_joinLots_105 c12 ?_
                  refine bf_iload 2 dX6_joinLots_106 rfl ?_
                  obtain ⟨r14, e13, hf⟩ := bf_bind hf
                  have hCe13 := ok_X6_growLot (Γ := Γ) (ad := ad) hk e13
                  refine cv_X6_130 0 dX6_joinLots_108 rfl ⟨Nat.le_of_ble_eq_true rfl, Nat.le_of_ble_eq_true rfl⟩ (Nat.le_of_ble_eq_true rfl) hk hCe13 ?_
                  refine bf_iconst (v := 1) dX6_joinLots_111 (by decide) ?_
                  obtain rfl := Option.some.inj hf
                  exact bf_zret dX6_joinLots_112 rfl rfl (Nat.le_refl _) (Nat.le_refl _) ⟨rfl, rfl⟩
            · have hf := (if_neg c8).symm.trans hf
              refine bf_iconst (v := 0) dX6_joinLots_85 (by decide) ?_
              obtain rfl := Option.some.inj hf
              exact bf_zret dX6_joinLots_86 rfl rfl (Nat.le_refl _) (Nat.le_refl _) ⟨rfl, rfl⟩
          · have hf := (if_pos c5).symm.trans hf
            refine bf_iload_n 3 dX6_joinLots_59 rfl rfl ?_
            refine bf_iload_n 2 dX6_joinLots_60 rfl rfl ?_
            refine bf_icmp_ne 68 dX6_joinLots_61 (by decide) (fun c15 => ?_) (fun c15 => ?_)
            · have hf := (if_neg c15).symm.trans hf
              refine bf_iconst (v := 0) dX6_joinLots_68 (by decide) ?_
              obtain rfl := Option.some.inj hf
              exact bf_zret dX6_joinLots_69 rfl rfl (Nat.le_refl _) (Nat.le_refl _) ⟨rfl, rfl⟩
            · have hf := (if_pos c15).symm.trans hf
              refine bf_iconst (v := 1) dX6_joinLots_64 (by decide) ?_
              refine bf_goto 69 dX6_joinLots_65 (by decide) ?_
              obtain rfl := Option.some.inj hf
              exact bf_zret dX6_joinLots_69 rfl rfl (Nat.le_refl _) (Nat.le_refl _) ⟨rfl, rfl⟩
        · exact absurd ((if_neg c4).symm.trans hf) (by simp)
      · exact absurd ((if_neg c3).symm.trans hf) (by simp)
    · exact absurd ((if_neg c2).symm.trans hf) (by simp)
  · exact absurd ((if_neg c1).symm.trans hf) (by simp)
def f_X6_findTimes_2 (v0 : Nat) (v1 : Nat) (K : (Nat → Nat → Int32) → (Nat → Nat → Int64) → Option (Int32 × bf_St)) : Nat → Int32 → (Nat → Nat → Int32) → (Nat → Nat → Int64) → Option (Int32 × bf_St)
  | 0, _, _, _ => none
  | n + 1, v2, I, L =>
    (if (6 : Int32) ≤ v2 then (K I L) else ((f_X3_hasBox v1 v2 I L).bind (fun r3 => (if r3.1 = 0 then (if bf_ok v2 6 then (if bf_ok v2 6 then (f_X6_findTimes_2 v0 v1 K n (v2 + (1 : Int32)) (bf_u (bf_u r3.2.1 (v0 + 1) v2.toNatClampNeg (0 : Int32)) (v0 + 4) v2.toNatClampNeg v2) r3.2.2) else none) else none) else (if bf_ok v2 6 then (if bf_ok v2 6 then (f_X6_findTimes_2 v0 v1 K n (v2 + (1 : Int32)) (bf_u (bf_u r3.2.1 (v0 + 1) v2.toNatClampNeg (1 : Int32)) (v0 + 4) v2.toNatClampNeg v2) r3.2.2) else none) else none)))))
set_option maxRecDepth 100000 in
set_option maxHeartbeats 4000000 in
theorem ok_X6_findTimes_2 {Γ : bf_Gm} {ad : Nat → Nat} {v0 : Nat} {v1 : Nat} (hv0 : bf_kd v0 = 6) (hv1 : bf_kd v1 = 3) {r : Int32 × bf_St} {K : (Nat → Nat → Int32) → (Nat → Nat → Int64) → Option (Int32 × bf_St)} (hK : ∀ (I : Nat → Nat → Int32) (L : Nat → Nat → Int64), K  I L = some r → bf_Go Γ (bf_rm 2 0 0) mu_X6_findTimes bf_E0 (bf_Z Γ (fun q h => q = some (.int r.1) ∧ h = bf_S ad r.2.1 r.2.2) 0 0) (0, 0) 40 [(0, .ref (ad v0)), (1, .ref (ad v1))] [] (bf_S ad I L)) : ∀ (n : Nat) (v2 : Int32) (I : Nat → Nat → Int32) (L : Nat → Nat → Int64), f_X6_findTimes_2 v0 v1 K n v2 I L = some r → bf_Go Γ (bf_rm 2 0 0) mu_X6_findTimes bf_E0 (bf_Z Γ (fun q h => q = some (.int r.1) ∧ h = bf_S ad r.2.1 r.2.2) 0 0) (0, 0) 2 [(0, .ref (ad v0)), (1, .ref (ad v1)), (2, .int v2)] [] (bf_S ad I L) := by
  intro n
  induction n with
  | zero => intro v2 I L hf; exact absurd (show none = some r from hf) (by simp)
  | succ n ih =>
    intro v2 I L hf
    rw [f_X6_findTimes_2] at hf
    refine bf_iload_n 2 dX6_findTimes_2 rfl rfl ?_
    refine bf_bipush (v := 6) dX6_findTimes_3 (by decide) ?_
    refine bf_icmp_ge 40 dX6_findTimes_5 (by decide) (fun c1 => ?_) (fun c1 => ?_)
    · have hf := (if_pos c1).symm.trans hf
      refine bf_perm [0, 1] rfl ?_
      exact hK _ _ hf
    · have hf := (if_neg c1).symm.trans hf
      refine bf_aload_n 0 dX6_findTimes_8 rfl rfl ?_
      refine fg_X6_9 dX6_findTimes_9 rfl hv0 ?_
      refine bf_iload_n 2 dX6_findTimes_12 rfl rfl ?_
      refine bf_aload_n 1 dX6_findTimes_13 rfl rfl ?_
      refine bf_iload_n 2 dX6_findTimes_14 rfl rfl ?_
      obtain ⟨r3, e2, hf⟩ := bf_bind hf
      have hCe2 := ok_X3_hasBox (Γ := Γ) (ad := ad) hv1 e2
      refine cv_X6_98 0 dX6_findTimes_15 rfl ⟨Nat.le_of_ble_eq_true rfl, Nat.le_of_ble_eq_true rfl⟩ (Nat.le_of_ble_eq_true rfl) hv1 hCe2 ?_
      refine bf_if_eq 25 dX6_findTimes_18 (by decide) (fun c4 => ?_) (fun c4 => ?_)
      · have hf := (if_pos c4).symm.trans hf
        refine bf_iconst (v := 0) dX6_findTimes_25 (by decide) ?_
        rcases Decidable.em (bf_ok v2 6) with c5 | c5
        · have hf := (if_pos c5).symm.trans hf
          refine bf_iast dX6_findTimes_26 (kr_6_3 hv0) (by rw [(kl_6_3 hv0)]; exact c5) ?_
          refine bf_aload_n 0 dX6_findTimes_27 rfl rfl ?_
          refine fg_X6_21 dX6_findTimes_28 rfl hv0 ?_
          refine bf_iload_n 2 dX6_findTimes_31 rfl rfl ?_
          refine bf_iload_n 2 dX6_findTimes_32 rfl rfl ?_
          rcases Decidable.em (bf_ok v2 6) with c6 | c6
          · have hf := (if_pos c6).symm.trans hf
            refine bf_iast dX6_findTimes_33 (kr_6_7 hv0) (by rw [(kl_6_7 hv0)]; exact c6) ?_
            refine bf_iinc 2 (v := _ + (1 : Int32)) (lv2 := [(2, .int _), (0, .ref _), (1, .ref _)]) dX6_findTimes_34 rfl (by rfl) (by decide) rfl ?_
            refine bf_goto 2 dX6_findTimes_37 (by decide) ?_
            refine bf_perm [1, 2, 0] rfl ?_
            exact ih _ _ _ hf
          · exact absurd ((if_neg c6).symm.trans hf) (by simp)
        · exact absurd ((if_neg c5).symm.trans hf) (by simp)
      · have hf := (if_neg c4).symm.trans hf
        refine bf_iconst (v := 1) dX6_findTimes_21 (by decide) ?_
        refine bf_goto 26 dX6_findTimes_22 (by decide) ?_
        rcases Decidable.em (bf_ok v2 6) with c7 | c7
        · have hf := (if_pos c7).symm.trans hf
          refine bf_iast dX6_findTimes_26 (kr_6_3 hv0) (by rw [(kl_6_3 hv0)]; exact c7) ?_
          refine bf_aload_n 0 dX6_findTimes_27 rfl rfl ?_
          refine fg_X6_21 dX6_findTimes_28 rfl hv0 ?_
          refine bf_iload_n 2 dX6_findTimes_31 rfl rfl ?_
          refine bf_iload_n 2 dX6_findTimes_32 rfl rfl ?_
          rcases Decidable.em (bf_ok v2 6) with c8 | c8
          · have hf := (if_pos c8).symm.trans hf
            refine bf_iast dX6_findTimes_33 (kr_6_7 hv0) (by rw [(kl_6_7 hv0)]; exact c8) ?_
            refine bf_iinc 2 (v := _ + (1 : Int32)) (lv2 := [(2, .int _), (0, .ref _), (1, .ref _)]) dX6_findTimes_34 rfl (by rfl) (by decide) rfl ?_
            refine bf_goto 2 dX6_findTimes_37 (by decide) ?_
            refine bf_perm [1, 2, 0] rfl ?_
            exact ih _ _ _ hf
          · exact absurd ((if_neg c8).symm.trans hf) (by simp)
        · exact absurd ((if_neg c7).symm.trans hf) (by simp)
def f_X6_findTimes_42 (v0 : Nat) (v1 : Nat) (K : (Nat → Nat → Int32) → (Nat → Nat → Int64) → Option (Int32 × bf_St)) : Nat → Int32 → (Nat → Nat → Int32) → (Nat → Nat → Int64) → Option (Int32 × bf_St)
  | 0, _, _, _ => none
  | n + 1, v2, I, L =>
    (if (8 : Int32) ≤ v2 then (K I L) else (if bf_ok v2 8 then (if (I ((v1 + 8) + 1 + 2 * v2.toNatClampNeg) 4) = 0 then (f_X6_findTimes_42 v0 v1 K n (v2 + (1 : Int32)) I L) else (if bf_ok v2 8 then ((f_X6_joinLots v0 ((v1 + 8) + 1 + 2 * v2.toNatClampNeg) I L).bind (fun r15 => (if r15.1 = 0 then (some ((0 : Int32), r15.2.1, r15.2.2)) else (f_X6_findTimes_42 v0 v1 K n (v2 + (1 : Int32)) r15.2.1 r15.2.2)))) else none)) else none))
set_option maxRecDepth 100000 in
set_option maxHeartbeats 4000000 in
theorem ok_X6_findTimes_42 {Γ : bf_Gm} {ad : Nat → Nat} {v0 : Nat} {v1 : Nat} (hv0 : bf_kd v0 = 6) (hv1 : bf_kd v1 = 3) {r : Int32 × bf_St} {K : (Nat → Nat → Int32) → (Nat → Nat → Int64) → Option (Int32 × bf_St)} (hK : ∀ (I : Nat → Nat → Int32) (L : Nat → Nat → Int64), K  I L = some r → bf_Go Γ (bf_rm 2 0 0) mu_X6_findTimes bf_E0 (bf_Z Γ (fun q h => q = some (.int r.1) ∧ h = bf_S ad r.2.1 r.2.2) 0 0) (0, 0) 81 [(0, .ref (ad v0))] [] (bf_S ad I L)) : ∀ (n : Nat) (v2 : Int32) (I : Nat → Nat → Int32) (L : Nat → Nat → Int64), f_X6_findTimes_42 v0 v1 K n v2 I L = some r → bf_Go Γ (bf_rm 2 0 0) mu_X6_findTimes bf_E0 (bf_Z Γ (fun q h => q = some (.int r.1) ∧ h = bf_S ad r.2.1 r.2.2) 0 0) (0, 0) 42 [(0, .ref (ad v0)), (1, .ref (ad v1)), (2, .int v2)] [] (bf_S ad I L) := by
  intro n
  induction n with
  | zero => intro v2 I L hf; exact absurd (show none = some r from hf) (by simp)
  | succ n ih =>
    intro v2 I L hf
    rw [f_X6_findTimes_42] at hf
    refine bf_iload_n 2 dX6_findTimes_42 rfl rfl ?_
    refine bf_bipush (v := 8) dX6_findTimes_43 (by decide) ?_
    refine bf_icmp_ge 81 dX6_findTimes_45 (by decide) (fun c10 => ?_) (fun c10 => ?_)
    · have hf := (if_pos c10).symm.trans hf
      refine bf_perm [0] rfl ?_
      exact hK _ _ hf
    · have hf := (if_neg c10).symm.trans hf
      refine bf_aload_n 1 dX6_findTimes_48 rfl rfl ?_
      refine fg_X6_101 dX6_findTimes_49 rfl hv1 ?_
      refine bf_iload_n 2 dX6_findTimes_52 rfl rfl ?_
      rcases Decidable.em (bf_ok v2 8) with c11 | c11
      · have hf := (if_pos c11).symm.trans hf
        refine al_19 dX6_findTimes_53 (kr_3_1 hv1) (by rw [(la_19 (kr_3_1 hv1))]; exact c11) ?_
        refine fg_X6_105 dX6_findTimes_54 rfl (ka_19 (kr_3_1 hv1) ((by rw [(la_19 (kr_3_1 hv1))]; exact c11) : bf_ok _ _).2) ?_
        refine bf_if_eq 75 dX6_findTimes_57 (by decide) (fun c12 => ?_) (fun c12 => ?_)
        · have hf := (if_pos c12).symm.trans hf
          refine bf_iinc 2 (v := _ + (1 : Int32)) (lv2 := [(2, .int _), (0, .ref _), (1, .ref _)]) dX6_findTimes_75 rfl (by rfl) (by decide) rfl ?_
          refine bf_goto 42 dX6_findTimes_78 (by decide) ?_
          refine bf_perm [1, 2, 0] rfl ?_
          exact ih _ _ _ hf
        · have hf := (if_neg c12).symm.trans hf
          refine bf_aload_n 0 dX6_findTimes_60 rfl rfl ?_
          refine bf_aload_n 1 dX6_findTimes_61 rfl rfl ?_
          refine fg_X6_101 dX6_findTimes_62 rfl hv1 ?_
          refine bf_iload_n 2 dX6_findTimes_65 rfl rfl ?_
          rcases Decidable.em (bf_ok v2 8) with c13 | c13
          · have hf := (if_pos c13).symm.trans hf
            refine al_19 dX6_findTimes_66 (kr_3_1 hv1) (by rw [(la_19 (kr_3_1 hv1))]; exact c13) ?_
            obtain ⟨r15, e14, hf⟩ := bf_bind hf
            have hCe14 := ok_X6_joinLots (Γ := Γ) (ad := ad) hv0 (ka_19 (kr_3_1 hv1) ((by rw [(la_19 (kr_3_1 hv1))]; exact c13) : bf_ok _ _).2) e14
            refine cv_X6_110 1 dX6_findTimes_67 rfl ⟨Nat.le_of_ble_eq_true rfl, Nat.le_of_ble_eq_true rfl⟩ (Nat.le_of_ble_eq_true rfl) hv0 hCe14 ?_
            refine bf_if_ne 75 dX6_findTimes_70 (by decide) (fun c16 => ?_) (fun c16 => ?_)
            · have hf := (if_neg c16).symm.trans hf
              refine bf_iinc 2 (v := _ + (1 : Int32)) (lv2 := [(2, .int _), (0, .ref _), (1, .ref _)]) dX6_findTimes_75 rfl (by rfl) (by decide) rfl ?_
              refine bf_goto 42 dX6_findTimes_78 (by decide) ?_
              refine bf_perm [1, 2, 0] rfl ?_
              exact ih _ _ _ hf
            · have hf := (if_pos c16).symm.trans hf
              refine bf_iconst (v := 0) dX6_findTimes_73 (by decide) ?_
              obtain rfl := Option.some.inj hf
              exact bf_zret dX6_findTimes_74 rfl rfl (Nat.le_refl _) (Nat.le_refl _) ⟨rfl, rfl⟩
          · exact absurd ((if_neg c13).symm.trans hf) (by simp)
      · exact absurd ((if_neg c11).symm.trans hf) (by simp)
def f_X6_findTimes_88 (v0 : Nat) (K : (Nat → Nat → Int32) → (Nat → Nat → Int64) → Option (Int32 × bf_St)) : Nat → Int32 → (Nat → Nat → Int32) → (Nat → Nat → Int64) → Option (Int32 × bf_St)
  | 0, _, _, _ => none
  | n + 1, v2, I, L =>
    (if (6 : Int32) ≤ v2 then (K I L) else (if bf_ok v2 6 then (if (I (v0 + 1) v2.toNatClampNeg) ≤ (60 : Int32) then (if bf_ok v2 6 then (f_X6_findTimes_88 v0 K n (v2 + (1 : Int32)) (bf_u I v0 2 ((I v0 2) + (I (v0 + 1) v2.toNatClampNeg))) L) else none) else (some ((0 : Int32), I, L))) else none))
set_option maxRecDepth 100000 in
set_option maxHeartbeats 4000000 in
theorem ok_X6_findTimes_88 {Γ : bf_Gm} {ad : Nat → Nat} {v0 : Nat} (hv0 : bf_kd v0 = 6) {r : Int32 × bf_St} {K : (Nat → Nat → Int32) → (Nat → Nat → Int64) → Option (Int32 × bf_St)} (hK : ∀ (I : Nat → Nat → Int32) (L : Nat → Nat → Int64), K  I L = some r → bf_Go Γ (bf_rm 2 0 0) mu_X6_findTimes bf_E0 (bf_Z Γ (fun q h => q = some (.int r.1) ∧ h = bf_S ad r.2.1 r.2.2) 0 0) (0, 0) 128 [] [] (bf_S ad I L)) : ∀ (n : Nat) (v2 : Int32) (I : Nat → Nat → Int32) (L : Nat → Nat → Int64), f_X6_findTimes_88 v0 K n v2 I L = some r → bf_Go Γ (bf_rm 2 0 0) mu_X6_findTimes bf_E0 (bf_Z Γ (fun q h => q = some (.int r.1) ∧ h = bf_S ad r.2.1 r.2.2) 0 0) (0, 0) 88 [(0, .ref (ad v0)), (2, .int v2)] [] (bf_S ad I L) := by
  intro n
  induction n with
  | zero => intro v2 I L hf; exact absurd (show none = some r from hf) (by simp)
  | succ n ih =>
    intro v2 I L hf
    rw [f_X6_findTimes_88] at hf
    refine bf_iload_n 1 dX6_findTimes_88 rfl rfl ?_
    refine bf_bipush (v := 6) dX6_findTimes_89 (by decide) ?_
    refine bf_icmp_ge 128 dX6_findTimes_91 (by decide) (fun c18 => ?_) (fun c18 => ?_)
    · have hf := (if_pos c18).symm.trans hf
      refine bf_perm [] rfl ?_
      exact hK _ _ hf
    · have hf := (if_neg c18).symm.trans hf
      refine bf_aload_n 0 dX6_findTimes_94 rfl rfl ?_
      refine fg_X6_9 dX6_findTimes_95 rfl hv0 ?_
      refine bf_iload_n 1 dX6_findTimes_98 rfl rfl ?_
      rcases Decidable.em (bf_ok v2 6) with c19 | c19
      · have hf := (if_pos c19).symm.trans hf
        refine bf_iald dX6_findTimes_99 (kr_6_3 hv0) (by rw [(kl_6_3 hv0)]; exact c19) ?_
        refine bf_bipush (v := 60) dX6_findTimes_100 (by decide) ?_
        refine bf_icmp_le 107 dX6_findTimes_102 (by decide) (fun c20 => ?_) (fun c20 => ?_)
        · have hf := (if_pos c20).symm.trans hf
          refine bf_aload_n 0 dX6_findTimes_107 rfl rfl ?_
          refine bf_dup dX6_findTimes_108 rfl ?_
          refine fg_X6_75 dX6_findTimes_109 rfl hv0 ?_
          refine bf_aload_n 0 dX6_findTimes_112 rfl rfl ?_
          refine fg_X6_9 dX6_findTimes_113 rfl hv0 ?_
          refine bf_iload_n 1 dX6_findTimes_116 rfl rfl ?_
          rcases Decidable.em (bf_ok v2 6) with c21 | c21
          · have hf := (if_pos c21).symm.trans hf
            refine bf_iald dX6_findTimes_117 (kr_6_3 hv0) (by rw [(kl_6_3 hv0)]; exact c21) ?_
            refine bf_iadd dX6_findTimes_118 ?_
            refine fp_X6_75 dX6_findTimes_119 rfl hv0 ?_
            refine bf_iinc 1 (v := _ + (1 : Int32)) (lv2 := [(2, .int _), (0, .ref _)]) dX6_findTimes_122 rfl (by rfl) (by decide) rfl ?_
            refine bf_goto 88 dX6_findTimes_125 (by decide) ?_
            refine bf_perm [1, 0] rfl ?_
            exact ih _ _ _ hf
          · exact absurd ((if_neg c21).symm.trans hf) (by simp)
        · have hf := (if_neg c20).symm.trans hf
          refine bf_iconst (v := 0) dX6_findTimes_105 (by decide) ?_
          obtain rfl := Option.some.inj hf
          exact bf_zret dX6_findTimes_106 rfl rfl (Nat.le_refl _) (Nat.le_refl _) ⟨rfl, rfl⟩
      · exact absurd ((if_neg c19).symm.trans hf) (by simp)
def f_X6_findTimes_p81 (v0 : Nat) (I : Nat → Nat → Int32) (L : Nat → Nat → Int64) : Option (Int32 × bf_St) :=
  (f_X6_findTimes_88 v0 (fun I22 L22 => (some ((1 : Int32), I22, L22))) 400 (0 : Int32) (bf_u I v0 2 (0 : Int32)) L)
set_option maxRecDepth 100000 in
set_option maxHeartbeats 4000000 in
theorem ok_X6_findTimes_p81 {Γ : bf_Gm} {ad : Nat → Nat} {v0 : Nat} {I : Nat → Nat → Int32} {L : Nat → Nat → Int64} (hv0 : bf_kd v0 = 6) {r : Int32 × bf_St} (hf : f_X6_findTimes_p81 v0 I L = some r) : bf_Go Γ (bf_rm 2 0 0) mu_X6_findTimes bf_E0 (bf_Z Γ (fun q h => q = some (.int r.1) ∧ h = bf_S ad r.2.1 r.2.2) 0 0) (0, 0) 81 [(0, .ref (ad v0))] [] (bf_S ad I L) := by
  unfold f_X6_findTimes_p81 at hf
  refine bf_aload_n 0 dX6_findTimes_81 rfl rfl ?_
  refine bf_iconst (v := 0) dX6_findTimes_82 (by decide) ?_
  refine fp_X6_75 dX6_findTimes_83 rfl hv0 ?_
  refine bf_iconst (v := 0) dX6_findTimes_86 (by decide) ?_
  refine bf_istore_n (lv2 := [(2, .int _), (0, .ref _)]) dX6_findTimes_87 rfl (by decide) rfl ?_
  refine bf_perm [1, 0] rfl ?_
  refine ok_X6_findTimes_88 hv0 (fun I22 L22 hf => ?_) _ _ _ _  hf
  refine bf_iconst (v := 1) dX6_findTimes_128 (by decide) ?_
  obtain rfl := Option.some.inj hf
  exact bf_zret dX6_findTimes_129 rfl rfl (Nat.le_refl _) (Nat.le_refl _) ⟨rfl, rfl⟩
def f_X6_findTimes_p40 (v0 : Nat) (v1 : Nat) (I : Nat → Nat → Int32) (L : Nat → Nat → Int64) : Option (Int32 × bf_St) :=
  (f_X6_findTimes_42 v0 v1 (fun I17 L17 => (f_X6_findTimes_p81 v0 I17 L17)) 400 (0 : Int32) I L)
set_option maxRecDepth 100000 in
set_option maxHeartbeats 4000000 in
theorem ok_X6_findTimes_p40 {Γ : bf_Gm} {ad : Nat → Nat} {v0 : Nat} {v1 : Nat} {I : Nat → Nat → Int32} {L : Nat → Nat → Int64} (hv0 : bf_kd v0 = 6) (hv1 : bf_kd v1 = 3) {r : Int32 × bf_St} (hf : f_X6_findTimes_p40 v0 v1 I L = some r) : bf_Go Γ (bf_rm 2 0 0) mu_X6_findTimes bf_E0 (bf_Z Γ (fun q h => q = some (.int r.1) ∧ h = bf_S ad r.2.1 r.2.2) 0 0) (0, 0) 40 [(0, .ref (ad v0)), (1, .ref (ad v1))] [] (bf_S ad I L) := by
  unfold f_X6_findTimes_p40 at hf
  refine bf_iconst (v := 0) dX6_findTimes_40 (by decide) ?_
  refine bf_istore_n (lv2 := [(2, .int _), (0, .ref _), (1, .ref _)]) dX6_findTimes_41 rfl (by decide) rfl ?_
  refine bf_perm [1, 2, 0] rfl ?_
  refine ok_X6_findTimes_42 hv0 hv1 (fun I17 L17 hf => ?_) _ _ _ _  hf
  exact ok_X6_findTimes_p81 hv0  hf
def f_X6_findTimes (o : Nat) (a0 : Nat) (I : Nat → Nat → Int32) (L : Nat → Nat → Int64) : Option (Int32 × bf_St) :=
  (f_X6_findTimes_2 o a0 (fun I9 L9 => (f_X6_findTimes_p40 o a0 I9 L9)) 400 (0 : Int32) I L)
set_option maxRecDepth 100000 in
set_option maxHeartbeats 4000000 in
theorem ok_X6_findTimes {Γ : bf_Gm} {ad : Nat → Nat} {o : Nat} {a0 : Nat} {I : Nat → Nat → Int32} {L : Nat → Nat → Int64} (hk : bf_kd o = 6) (hk0 : bf_kd a0 = 3) {r : Int32 × bf_St} (hf : f_X6_findTimes o a0 I L = some r) : bf_Cn Γ 2 mu_X6_findTimes 0 0 [.ref (ad o), .ref (ad a0)] (bf_S ad I L) (fun q h => q = some (.int r.1) ∧ h = bf_S ad r.2.1 r.2.2) := by
  refine bf_met rfl (Nat.le_of_ble_eq_true rfl) ?_
  unfold f_X6_findTimes at hf
  refine bf_iconst (v := 0) dX6_findTimes_0 (by decide) ?_
  refine bf_istore_n (lv2 := [(2, .int _), (0, .ref _), (1, .ref _)]) dX6_findTimes_1 rfl (by decide) rfl ?_
  refine bf_perm [1, 2, 0] rfl ?_
  refine ok_X6_findTimes_2 hk hk0 (fun I9 L9 hf => ?_) _ _ _ _  hf
  exact ok_X6_findTimes_p40 hk hk0  hf
def f_X6_firstReady_2 (v0 : Nat) (v1 : Nat) (K : (Nat → Nat → Int32) → (Nat → Nat → Int64) → Option (Int32 × bf_St)) : Nat → Int32 → (Nat → Nat → Int32) → (Nat → Nat → Int64) → Option (Int32 × bf_St)
  | 0, _, _, _ => none
  | n + 1, v2, I, L =>
    (if (6 : Int32) ≤ v2 then (K I L) else (if bf_ok v2 6 then (if (I (v0 + 5) v2.toNatClampNeg) ≤ 0 then (f_X6_firstReady_2 v0 v1 K n (v2 + (1 : Int32)) I L) else ((f_X2_canFire (v0 + 6) v1 v2 I L).bind (fun r5 => (if r5.1 = 0 then (f_X6_firstReady_2 v0 v1 K n (v2 + (1 : Int32)) r5.2.1 r5.2.2) else (some (v2, r5.2.1, r5.2.2)))))) else none))
set_option maxRecDepth 100000 in
set_option maxHeartbeats 4000000 in
theorem ok_X6_firstReady_2 {Γ : bf_Gm} {ad : Nat → Nat} {v0 : Nat} {v1 : Nat} (hv0 : bf_kd v0 = 6) (hv1 : bf_kd v1 = 3) {r : Int32 × bf_St} {K : (Nat → Nat → Int32) → (Nat → Nat → Int64) → Option (Int32 × bf_St)} (hK : ∀ (I : Nat → Nat → Int32) (L : Nat → Nat → Int64), K  I L = some r → bf_Go Γ (bf_rm 3 0 0) mu_X6_firstReady bf_E0 (bf_Z Γ (fun q h => q = some (.int r.1) ∧ h = bf_S ad r.2.1 r.2.2) 0 0) (0, 0) 37 [] [] (bf_S ad I L)) : ∀ (n : Nat) (v2 : Int32) (I : Nat → Nat → Int32) (L : Nat → Nat → Int64), f_X6_firstReady_2 v0 v1 K n v2 I L = some r → bf_Go Γ (bf_rm 3 0 0) mu_X6_firstReady bf_E0 (bf_Z Γ (fun q h => q = some (.int r.1) ∧ h = bf_S ad r.2.1 r.2.2) 0 0) (0, 0) 2 [(0, .ref (ad v0)), (1, .ref (ad v1)), (2, .int v2)] [] (bf_S ad I L) := by
  intro n
  induction n with
  | zero => intro v2 I L hf; exact absurd (show none = some r from hf) (by simp)
  | succ n ih =>
    intro v2 I L hf
    rw [f_X6_firstReady_2] at hf
    refine bf_iload_n 2 dX6_firstReady_2 rfl rfl ?_
    refine bf_bipush (v := 6) dX6_firstReady_3 (by decide) ?_
    refine bf_icmp_ge 37 dX6_firstReady_5 (by decide) (fun c1 => ?_) (fun c1 => ?_)
    · have hf := (if_pos c1).symm.trans hf
      refine bf_perm [] rfl ?_
      exact hK _ _ hf
    · have hf := (if_neg c1).symm.trans hf
      refine bf_aload_n 0 dX6_firstReady_8 rfl rfl ?_
      refine fg_X6_24 dX6_firstReady_9 rfl hv0 ?_
      refine bf_iload_n 2 dX6_firstReady_12 rfl rfl ?_
      rcases Decidable.em (bf_ok v2 6) with c2 | c2
      · have hf := (if_pos c2).symm.trans hf
        refine bf_iald dX6_firstReady_13 (kr_6_8 hv0) (by rw [(kl_6_8 hv0)]; exact c2) ?_
        refine bf_if_le 31 dX6_firstReady_14 (by decide) (fun c3 => ?_) (fun c3 => ?_)
        · have hf := (if_pos c3).symm.trans hf
          refine bf_iinc 2 (v := _ + (1 : Int32)) (lv2 := [(2, .int _), (0, .ref _), (1, .ref _)]) dX6_firstReady_31 rfl (by rfl) (by decide) rfl ?_
          refine bf_goto 2 dX6_firstReady_34 (by decide) ?_
          refine bf_perm [1, 2, 0] rfl ?_
          exact ih _ _ _ hf
        · have hf := (if_neg c3).symm.trans hf
          refine bf_aload_n 0 dX6_firstReady_17 rfl rfl ?_
          refine fg_X6_30 dX6_firstReady_18 rfl hv0 ?_
          refine bf_aload_n 1 dX6_firstReady_21 rfl rfl ?_
          refine bf_iload_n 2 dX6_firstReady_22 rfl rfl ?_
          obtain ⟨r5, e4, hf⟩ := bf_bind hf
          have hCe4 := ok_X2_canFire (Γ := Γ) (ad := ad) (kr_6_9 hv0) hv1 e4
          refine cv_X6_38 2 dX6_firstReady_23 rfl ⟨Nat.le_of_ble_eq_true rfl, Nat.le_of_ble_eq_true rfl⟩ (Nat.le_of_ble_eq_true rfl) (kr_6_9 hv0) hCe4 ?_
          refine bf_if_eq 31 dX6_firstReady_26 (by decide) (fun c6 => ?_) (fun c6 => ?_)
          · have hf := (if_pos c6).symm.trans hf
            refine bf_iinc 2 (v := _ + (1 : Int32)) (lv2 := [(2, .int _), (0, .ref _), (1, .ref _)]) dX6_firstReady_31 rfl (by rfl) (by decide) rfl ?_
            refine bf_goto 2 dX6_firstReady_34 (by decide) ?_
            refine bf_perm [1, 2, 0] rfl ?_
            exact ih _ _ _ hf
          · have hf := (if_neg c6).symm.trans hf
            refine bf_iload_n 2 dX6_firstReady_29 rfl rfl ?_
            obtain rfl := Option.some.inj hf
            exact bf_iret dX6_firstReady_30 rfl (Nat.le_refl _) (Nat.le_refl _) ⟨rfl, rfl⟩
      · exact absurd ((if_neg c2).symm.trans hf) (by simp)
def f_X6_firstReady (o : Nat) (a0 : Nat) (I : Nat → Nat → Int32) (L : Nat → Nat → Int64) : Option (Int32 × bf_St) :=
  (f_X6_firstReady_2 o a0 (fun I7 L7 => (some ((-1 : Int32), I7, L7))) 400 (0 : Int32) I L)
set_option maxRecDepth 100000 in
set_option maxHeartbeats 4000000 in
theorem ok_X6_firstReady {Γ : bf_Gm} {ad : Nat → Nat} {o : Nat} {a0 : Nat} {I : Nat → Nat → Int32} {L : Nat → Nat → Int64} (hk : bf_kd o = 6) (hk0 : bf_kd a0 = 3) {r : Int32 × bf_St} (hf : f_X6_firstReady o a0 I L = some r) : bf_Cn Γ 3 mu_X6_firstReady 0 0 [.ref (ad o), .ref (ad a0)] (bf_S ad I L) (fun q h => q = some (.int r.1) ∧ h = bf_S ad r.2.1 r.2.2) := by
  refine bf_met rfl (Nat.le_of_ble_eq_true rfl) ?_
  unfold f_X6_firstReady at hf
  refine bf_iconst (v := 0) dX6_firstReady_0 (by decide) ?_
  refine bf_istore_n (lv2 := [(2, .int _), (0, .ref _), (1, .ref _)]) dX6_firstReady_1 rfl (by decide) rfl ?_
  refine bf_perm [1, 2, 0] rfl ?_
  refine ok_X6_firstReady_2 hk hk0 (fun I7 L7 hf => ?_) _ _ _ _  hf
  refine bf_iconst (v := -1) dX6_firstReady_37 (by decide) ?_
  obtain rfl := Option.some.inj hf
  exact bf_iret dX6_firstReady_38 rfl (Nat.le_refl _) (Nat.le_refl _) ⟨rfl, rfl⟩
def f_X6_followFiring_41 (v0 : Nat) (K : (Nat → Nat → Int32) → (Nat → Nat → Int64) → Option (bf_St)) : Nat → Int32 → (Nat → Nat → Int32) → (Nat → Nat → Int64) → Option (bf_St)
  | 0, _, _, _ => none
  | n + 1, v3, I, L =>
    (if (8 : Int32) ≤ v3 then (K I L) else (if bf_ok v3 8 then (if bf_ok v3 8 then (if bf_ok v3 8 then (f_X6_followFiring_41 v0 K n (v3 + (1 : Int32)) (bf_u I (v0 + 3) v3.toNatClampNeg (bf_max (I (v0 + 3) v3.toNatClampNeg) (I ((v0 + 6) + 1) v3.toNatClampNeg))) L) else none) else none) else none))
set_option maxRecDepth 100000 in
set_option maxHeartbeats 4000000 in
theorem ok_X6_followFiring_41 {Γ : bf_Gm} {ad : Nat → Nat} {v0 : Nat} (hv0 : bf_kd v0 = 6) {r : bf_St} {K : (Nat → Nat → Int32) → (Nat → Nat → Int64) → Option (bf_St)} (hK : ∀ (I : Nat → Nat → Int32) (L : Nat → Nat → Int64), K  I L = some r → bf_Go Γ (bf_rm 3 0 0) mu_X6_followFiring bf_E0 (bf_Z Γ (fun q h => q = none ∧ h = bf_S ad r.1 r.2) 0 0) (0, 0) 77 [] [] (bf_S ad I L)) : ∀ (n : Nat) (v3 : Int32) (I : Nat → Nat → Int32) (L : Nat → Nat → Int64), f_X6_followFiring_41 v0 K n v3 I L = some r → bf_Go Γ (bf_rm 3 0 0) mu_X6_followFiring bf_E0 (bf_Z Γ (fun q h => q = none ∧ h = bf_S ad r.1 r.2) 0 0) (0, 0) 41 [(0, .ref (ad v0)), (3, .int v3)] [] (bf_S ad I L) := by
  intro n
  induction n with
  | zero => intro v3 I L hf; exact absurd (show none = some r from hf) (by simp)
  | succ n ih =>
    intro v3 I L hf
    rw [f_X6_followFiring_41] at hf
    refine bf_iload_n 1 dX6_followFiring_41 rfl rfl ?_
    refine bf_bipush (v := 8) dX6_followFiring_42 (by decide) ?_
    refine bf_icmp_ge 77 dX6_followFiring_44 (by decide) (fun c6 => ?_) (fun c6 => ?_)
    · have hf := (if_pos c6).symm.trans hf
      refine bf_perm [] rfl ?_
      exact hK _ _ hf
    · have hf := (if_neg c6).symm.trans hf
      refine bf_aload_n 0 dX6_followFiring_47 rfl rfl ?_
      refine fg_X6_18 dX6_followFiring_48 rfl hv0 ?_
      refine bf_iload_n 1 dX6_followFiring_51 rfl rfl ?_
      refine bf_aload_n 0 dX6_followFiring_52 rfl rfl ?_
      refine fg_X6_18 dX6_followFiring_53 rfl hv0 ?_
      refine bf_iload_n 1 dX6_followFiring_56 rfl rfl ?_
      rcases Decidable.em (bf_ok v3 8) with c7 | c7
      · have hf := (if_pos c7).symm.trans hf
        refine bf_iald dX6_followFiring_57 (kr_6_6 hv0) (by rw [(kl_6_6 hv0)]; exact c7) ?_
        refine bf_aload_n 0 dX6_followFiring_58 rfl rfl ?_
        refine fg_X6_30 dX6_followFiring_59 rfl hv0 ?_
        refine fg_X6_58 dX6_followFiring_62 rfl (kr_6_9 hv0) ?_
        refine bf_iload_n 1 dX6_followFiring_65 rfl rfl ?_
        rcases Decidable.em (bf_ok v3 8) with c8 | c8
        · have hf := (if_pos c8).symm.trans hf
          refine bf_iald dX6_followFiring_66 (kr_2_0 (kr_6_9 hv0)) (by rw [(kl_2_0 (kr_6_9 hv0))]; exact c8) ?_
          refine bf_mmax dX6_followFiring_67 wl_X6_89 wt_Jmax wi_J9 wc_Jmax (Nat.le_of_ble_eq_true rfl) (Nat.le_of_ble_eq_true rfl) (Nat.zero_le _) (Nat.zero_le _) ?_
          rcases Decidable.em (bf_ok v3 8) with c9 | c9
          · have hf := (if_pos c9).symm.trans hf
            refine bf_iast dX6_followFiring_70 (kr_6_6 hv0) (by rw [(kl_6_6 hv0)]; exact c9) ?_
            refine bf_iinc 1 (v := _ + (1 : Int32)) (lv2 := [(3, .int _), (0, .ref _)]) dX6_followFiring_71 rfl (by rfl) (by decide) rfl ?_
            refine bf_goto 41 dX6_followFiring_74 (by decide) ?_
            refine bf_perm [1, 0] rfl ?_
            exact ih _ _ _ hf
          · exact absurd ((if_neg c9).symm.trans hf) (by simp)
        · exact absurd ((if_neg c8).symm.trans hf) (by simp)
      · exact absurd ((if_neg c7).symm.trans hf) (by simp)
def f_X6_followFiring (o : Nat) (a0 : Nat) (a1 : Int32) (I : Nat → Nat → Int32) (L : Nat → Nat → Int64) : Option (bf_St) :=
  (if bf_ok a1 6 then (if bf_ok a1 6 then ((f_X2_fireBox (o + 6) a0 a1 (bf_u I (o + 5) a1.toNatClampNeg ((I (o + 5) a1.toNatClampNeg) - (1 : Int32))) L).bind (fun r4 => (if bf_ok (r4.1 o 5) 360 then (f_X6_followFiring_41 o (fun I10 L10 => (some (I10, L10))) 400 (0 : Int32) (bf_u (bf_u r4.1 (o + 2) (r4.1 o 5).toNatClampNeg a1) o 5 (((bf_u r4.1 (o + 2) (r4.1 o 5).toNatClampNeg a1) o 5) + (1 : Int32))) r4.2) else none))) else none) else none)
set_option maxRecDepth 100000 in
set_option maxHeartbeats 4000000 in
theorem ok_X6_followFiring {Γ : bf_Gm} {ad : Nat → Nat} {o : Nat} {a0 : Nat} {a1 : Int32} {I : Nat → Nat → Int32} {L : Nat → Nat → Int64} (hk : bf_kd o = 6) (hk0 : bf_kd a0 = 3) {r : bf_St} (hf : f_X6_followFiring o a0 a1 I L = some r) : bf_Cn Γ 3 mu_X6_followFiring 0 0 [.ref (ad o), .ref (ad a0), .int a1] (bf_S ad I L) (fun q h => q = none ∧ h = bf_S ad r.1 r.2) := by
  refine bf_met rfl (Nat.le_of_ble_eq_true rfl) ?_
  unfold f_X6_followFiring at hf
  refine bf_aload_n 0 dX6_followFiring_0 rfl rfl ?_
  refine fg_X6_24 dX6_followFiring_1 rfl hk ?_
  refine bf_iload_n 2 dX6_followFiring_4 rfl rfl ?_
  refine bf_dup2 dX6_followFiring_5 rfl rfl ?_
  rcases Decidable.em (bf_ok a1 6) with c1 | c1
  · have hf := (if_pos c1).symm.trans hf
    refine bf_iald dX6_followFiring_6 (kr_6_8 hk) (by rw [(kl_6_8 hk)]; exact c1) ?_
    refine bf_iconst (v := 1) dX6_followFiring_7 (by decide) ?_
    refine bf_isub dX6_followFiring_8 ?_
    rcases Decidable.em (bf_ok a1 6) with c2 | c2
    · have hf := (if_pos c2).symm.trans hf
      refine bf_iast dX6_followFiring_9 (kr_6_8 hk) (by rw [(kl_6_8 hk)]; exact c2) ?_
      refine bf_aload_n 0 dX6_followFiring_10 rfl rfl ?_
      refine fg_X6_30 dX6_followFiring_11 rfl hk ?_
      refine bf_aload_n 1 dX6_followFiring_14 rfl rfl ?_
      refine bf_iload_n 2 dX6_followFiring_15 rfl rfl ?_
      obtain ⟨r4, e3, hf⟩ := bf_bind hf
      have hCe3 := ok_X2_fireBox (Γ := Γ) (ad := ad) (kr_6_9 hk) hk0 e3
      refine cv_X6_86 2 dX6_followFiring_16 rfl ⟨Nat.le_of_ble_eq_true rfl, Nat.le_of_ble_eq_true rfl⟩ (Nat.le_of_ble_eq_true rfl) (kr_6_9 hk) hCe3 ?_
      refine bf_aload_n 0 dX6_followFiring_19 rfl rfl ?_
      refine fg_X6_15 dX6_followFiring_20 rfl hk ?_
      refine bf_aload_n 0 dX6_followFiring_23 rfl rfl ?_
      refine fg_X6_61 dX6_followFiring_24 rfl hk ?_
      refine bf_iload_n 2 dX6_followFiring_27 rfl rfl ?_
      rcases Decidable.em (bf_ok (r4.1 o 5) 360) with c5 | c5
      · have hf := (if_pos c5).symm.trans hf
        refine bf_iast dX6_followFiring_28 (kr_6_4 hk) (by rw [(kl_6_4 hk)]; exact c5) ?_
        refine bf_aload_n 0 dX6_followFiring_29 rfl rfl ?_
        refine bf_dup dX6_followFiring_30 rfl ?_
        refine fg_X6_61 dX6_followFiring_31 rfl hk ?_
        refine bf_iconst (v := 1) dX6_followFiring_34 (by decide) ?_
        refine bf_iadd dX6_followFiring_35 ?_
        refine fp_X6_61 dX6_followFiring_36 rfl hk ?_
        refine bf_iconst (v := 0) dX6_followFiring_39 (by decide) ?_
        refine bf_istore_n (lv2 := [(3, .int _), (0, .ref _), (1, .ref _), (2, .int _)]) dX6_followFiring_40 rfl (by decide) rfl ?_
        refine bf_perm [1, 0] rfl ?_
        refine ok_X6_followFiring_41 hk (fun I10 L10 hf => ?_) _ _ _ _  hf
        obtain rfl := Option.some.inj hf
        exact bf_vret dX6_followFiring_77 rfl (Nat.le_refl _) (Nat.le_refl _) ⟨rfl, rfl⟩
      · exact absurd ((if_neg c5).symm.trans hf) (by simp)
    · exact absurd ((if_neg c2).symm.trans hf) (by simp)
  · exact absurd ((if_neg c1).symm.trans hf) (by simp)
def f_X6_findPeriod_70 (v0 : Nat) (v1 : Nat) (K : (Nat → Nat → Int32) → (Nat → Nat → Int64) → Option (bf_St)) : Nat → Int32 → (Nat → Nat → Int32) → (Nat → Nat → Int64) → Option (bf_St)
  | 0, _, _, _ => none
  | n + 1, v2, I, L =>
    (if (I v0 2) ≤ v2 then (K I L) else (if (360 : Int32) ≤ v2 then (K I L) else (if (I v0 1) = 0 then ((f_X6_firstReady v0 v1 I L).bind (fun r12 => (if r12.1 = (-1 : Int32) then (f_X6_findPeriod_70 v0 v1 K n (v2 + (1 : Int32)) (bf_u r12.2.1 v0 1 (1 : Int32)) r12.2.2) else ((f_X6_followFiring v0 v1 r12.1 r12.2.1 r12.2.2).bind (fun r15 => (f_X6_findPeriod_70 v0 v1 K n (v2 + (1 : Int32)) r15.1 r15.2)))))) else (K I L))))
set_option maxRecDepth 100000 in
set_option maxHeartbeats 4000000 in
theorem ok_X6_findPeriod_70 {Γ : bf_Gm} {ad : Nat → Nat} {v0 : Nat} {v1 : Nat} (hv0 : bf_kd v0 = 6) (hv1 : bf_kd v1 = 3) {r : bf_St} {K : (Nat → Nat → Int32) → (Nat → Nat → Int64) → Option (bf_St)} (hK : ∀ (I : Nat → Nat → Int32) (L : Nat → Nat → Int64), K  I L = some r → bf_Go Γ (bf_rm 4 0 0) mu_X6_findPeriod bf_E0 (bf_Z Γ (fun q h => q = none ∧ h = bf_S ad r.1 r.2) 0 0) (0, 0) 123 [] [] (bf_S ad I L)) : ∀ (n : Nat) (v2 : Int32) (I : Nat → Nat → Int32) (L : Nat → Nat → Int64), f_X6_findPeriod_70 v0 v1 K n v2 I L = some r → bf_Go Γ (bf_rm 4 0 0) mu_X6_findPeriod bf_E0 (bf_Z Γ (fun q h => q = none ∧ h = bf_S ad r.1 r.2) 0 0) (0, 0) 70 [(0, .ref (ad v0)), (1, .ref (ad v1)), (2, .int v2)] [] (bf_S ad I L) := by
  intro n
  induction n with
  | zero => intro v2 I L hf; exact absurd (show none = some r from hf) (by simp)
  | succ n ih =>
    intro v2 I L hf
    rw [f_X6_findPeriod_70] at hf
    refine bf_iload_n 2 dX6_findPeriod_70 rfl rfl ?_
    refine bf_aload_n 0 dX6_findPeriod_71 rfl rfl ?_
    refine fg_X6_75 dX6_findPeriod_72 rfl hv0 ?_
    refine bf_icmp_ge 123 dX6_findPeriod_75 (by decide) (fun c8 => ?_) (fun c8 => ?_)
    · have hf := (if_pos c8).symm.trans hf
      refine bf_perm [] rfl ?_
      exact hK _ _ hf
    · have hf := (if_neg c8).symm.trans hf
      refine bf_iload_n 2 dX6_findPeriod_78 rfl rfl ?_
      refine bf_sipush (v := 360) dX6_findPeriod_79 (by decide) ?_
      refine bf_icmp_ge 123 dX6_findPeriod_82 (by decide) (fun c9 => ?_) (fun c9 => ?_)
      · have hf := (if_pos c9).symm.trans hf
        refine bf_perm [] rfl ?_
        exact hK _ _ hf
      · have hf := (if_neg c9).symm.trans hf
        refine bf_aload_n 0 dX6_findPeriod_85 rfl rfl ?_
        refine fg_X6_46 dX6_findPeriod_86 rfl hv0 ?_
        refine bf_if_ne 123 dX6_findPeriod_89 (by decide) (fun c10 => ?_) (fun c10 => ?_)
        · have hf := (if_neg c10).symm.trans hf
          refine bf_perm [] rfl ?_
          exact hK _ _ hf
        · have hf := (if_pos c10).symm.trans hf
          refine bf_aload_n 0 dX6_findPeriod_92 rfl rfl ?_
          refine bf_aload_n 1 dX6_findPeriod_93 rfl rfl ?_
          obtain ⟨r12, e11, hf⟩ := bf_bind hf
          have hCe11 := ok_X6_firstReady (Γ := Γ) (ad := ad) hv0 hv1 e11
          refine cv_X6_78 3 dX6_findPeriod_94 rfl ⟨Nat.le_of_ble_eq_true rfl, Nat.le_of_ble_eq_true rfl⟩ (Nat.le_of_ble_eq_true rfl) hv0 hCe11 ?_
          refine bf_istore_n (lv2 := [(3, .int _), (0, .ref _), (1, .ref _), (2, .int _)]) dX6_findPeriod_97 rfl (by decide) rfl ?_
          refine bf_iload_n 0 dX6_findPeriod_98 rfl rfl ?_
          refine bf_iconst (v := -1) dX6_findPeriod_99 (by decide) ?_
          refine bf_icmp_ne 111 dX6_findPeriod_100 (by decide) (fun c13 => ?_) (fun c13 => ?_)
          · have hf := (if_neg c13).symm.trans hf
            refine bf_aload_n 1 dX6_findPeriod_111 rfl rfl ?_
            refine bf_aload_n 2 dX6_findPeriod_112 rfl rfl ?_
            refine bf_iload_n 0 dX6_findPeriod_113 rfl rfl ?_
            obtain ⟨r15, e14, hf⟩ := bf_bind hf
            have hCe14 := ok_X6_followFiring (Γ := Γ) (ad := ad) hv0 hv1 e14
            refine cv_X6_82 3 dX6_findPeriod_114 rfl ⟨Nat.le_of_ble_eq_true rfl, Nat.le_of_ble_eq_true rfl⟩ (Nat.le_of_ble_eq_true rfl) hv0 hCe14 ?_
            refine bf_iinc 3 (v := _ + (1 : Int32)) (lv2 := [(2, .int _), (3, .int _), (0, .ref _), (1, .ref _)]) dX6_findPeriod_117 rfl (by rfl) (by decide) rfl ?_
            refine bf_goto 70 dX6_findPeriod_120 (by decide) ?_
            refine bf_perm [2, 3, 0] rfl ?_
            exact ih _ _ _ hf
          · have hf := (if_pos c13).symm.trans hf
            refine bf_aload_n 1 dX6_findPeriod_103 rfl rfl ?_
            refine bf_iconst (v := 1) dX6_findPeriod_104 (by decide) ?_
            refine fp_X6_46 (by decide) dX6_findPeriod_105 rfl hv0 ?_
            refine bf_goto 117 dX6_findPeriod_108 (by decide) ?_
            refine bf_iinc 3 (v := _ + (1 : Int32)) (lv2 := [(2, .int _), (3, .int _), (0, .ref _), (1, .ref _)]) dX6_findPeriod_117 rfl (by rfl) (by decide) rfl ?_
            refine bf_goto 70 dX6_findPeriod_120 (by decide) ?_
            refine bf_perm [2, 3, 0] rfl ?_
            exact ih _ _ _ hf
def f_X6_findPeriod_p24 (v0 : Nat) (v1 : Nat) (s0 : Int32) (s1 : Nat) (I : Nat → Nat → Int32) (L : Nat → Nat → Int64) : Option (bf_St) :=
  (if s0 = 0 ∨ s0 = 1 then (if ((bf_u I s1 0 s0) v0 0) = 0 then (if bf_cpOK (0 : Int32) (0 : Int32) (6 : Int32) (v0 + 1) (v0 + 5) then (if bf_cpOK (0 : Int32) (0 : Int32) (8 : Int32) ((v0 + 6) + 1) (v0 + 3) then (f_X6_findPeriod_70 v0 v1 (fun I16 L16 => (some (I16, L16))) 400 (0 : Int32) (bf_w (bf_w (bf_u I s1 0 s0) (v0 + 5) (va_cpy ((bf_u I s1 0 s0) (v0 + 1)) ((bf_u I s1 0 s0) (v0 + 5)) (0 : Int32).toNatClampNeg (0 : Int32).toNatClampNeg (6 : Int32).toNatClampNeg)) (v0 + 3) (va_cpy ((bf_w (bf_u I s1 0 s0) (v0 + 5) (va_cpy ((bf_u I s1 0 s0) (v0 + 1)) ((bf_u I s1 0 s0) (v0 + 5)) (0 : Int32).toNatClampNeg (0 : Int32).toNatClampNeg (6 : Int32).toNatClampNeg)) ((v0 + 6) + 1)) ((bf_w (bf_u I s1 0 s0) (v0 + 5) (va_cpy ((bf_u I s1 0 s0) (v0 + 1)) ((bf_u I s1 0 s0) (v0 + 5)) (0 : Int32).toNatClampNeg (0 : Int32).toNatClampNeg (6 : Int32).toNatClampNeg)) (v0 + 3)) (0 : Int32).toNatClampNeg (0 : Int32).toNatClampNeg (8 : Int32).toNatClampNeg)) L) else none) else none) else (some ((bf_u I s1 0 s0), L))) else none)
set_option maxRecDepth 100000 in
set_option maxHeartbeats 4000000 in
theorem ok_X6_findPeriod_p24 {Γ : bf_Gm} {ad : Nat → Nat} {v0 : Nat} {v1 : Nat} {s0 : Int32} {s1 : Nat} {I : Nat → Nat → Int32} {L : Nat → Nat → Int64} (hv0 : bf_kd v0 = 6) (hv1 : bf_kd v1 = 3) (hs1 : bf_kd s1 = 6) {r : bf_St} (hf : f_X6_findPeriod_p24 v0 v1 s0 s1 I L = some r) : bf_Go Γ (bf_rm 4 0 0) mu_X6_findPeriod bf_E0 (bf_Z Γ (fun q h => q = none ∧ h = bf_S ad r.1 r.2) 0 0) (0, 0) 24 [(0, .ref (ad v0)), (1, .ref (ad v1))] [.int s0, .ref (ad s1)] (bf_S ad I L) := by
  unfold f_X6_findPeriod_p24 at hf
  rcases Decidable.em (s0 = 0 ∨ s0 = 1) with c4 | c4
  · have hf := (if_pos c4).symm.trans hf
    refine fp_X6_42 c4 dX6_findPeriod_24 rfl hs1 ?_
    refine bf_aload_n 0 dX6_findPeriod_27 rfl rfl ?_
    refine fg_X6_42 dX6_findPeriod_28 rfl hv0 ?_
    refine bf_if_eq 35 dX6_findPeriod_31 (by decide) (fun c5 => ?_) (fun c5 => ?_)
    · have hf := (if_pos c5).symm.trans hf
      refine bf_aload_n 0 dX6_findPeriod_35 rfl rfl ?_
      refine fg_X6_9 dX6_findPeriod_36 rfl hv0 ?_
      refine bf_iconst (v := 0) dX6_findPeriod_39 (by decide) ?_
      refine bf_aload_n 0 dX6_findPeriod_40 rfl rfl ?_
      refine fg_X6_24 dX6_findPeriod_41 rfl hv0 ?_
      refine bf_iconst (v := 0) dX6_findPeriod_44 (by decide) ?_
      refine bf_bipush (v := 6) dX6_findPeriod_45 (by decide) ?_
      rcases Decidable.em (bf_cpOK (0 : Int32) (0 : Int32) (6 : Int32) (v0 + 1) (v0 + 5)) with c6 | c6
      · have hf := (if_pos c6).symm.trans hf
        refine bf_copyi dX6_findPeriod_47 wl_X6_69 wn_Jcopy wt_Jcopy wi_J10 (kr_6_3 hv0) (kr_6_8 hv0) c6 (Nat.le_of_ble_eq_true rfl) (Nat.le_of_ble_eq_true rfl) ?_
        refine bf_aload_n 0 dX6_findPeriod_50 rfl rfl ?_
        refine fg_X6_30 dX6_findPeriod_51 rfl hv0 ?_
        refine fg_X6_58 dX6_findPeriod_54 rfl (kr_6_9 hv0) ?_
        refine bf_iconst (v := 0) dX6_findPeriod_57 (by decide) ?_
        refine bf_aload_n 0 dX6_findPeriod_58 rfl rfl ?_
        refine fg_X6_18 dX6_findPeriod_59 rfl hv0 ?_
        refine bf_iconst (v := 0) dX6_findPeriod_62 (by decide) ?_
        refine bf_bipush (v := 8) dX6_findPeriod_63 (by decide) ?_
        rcases Decidable.em (bf_cpOK (0 : Int32) (0 : Int32) (8 : Int32) ((v0 + 6) + 1) (v0 + 3)) with c7 | c7
        · have hf := (if_pos c7).symm.trans hf
          refine bf_copyi dX6_findPeriod_65 wl_X6_69 wn_Jcopy wt_Jcopy wi_J10 (kr_2_0 (kr_6_9 hv0)) (kr_6_6 hv0) c7 (Nat.le_of_ble_eq_true rfl) (Nat.le_of_ble_eq_true rfl) ?_
          refine bf_iconst (v := 0) dX6_findPeriod_68 (by decide) ?_
          refine bf_istore_n (lv2 := [(2, .int _), (0, .ref _), (1, .ref _)]) dX6_findPeriod_69 rfl (by decide) rfl ?_
          refine bf_perm [1, 2, 0] rfl ?_
          refine ok_X6_findPeriod_70 hv0 hv1 (fun I16 L16 hf => ?_) _ _ _ _  hf
          obtain rfl := Option.some.inj hf
          exact bf_vret dX6_findPeriod_123 rfl (Nat.le_refl _) (Nat.le_refl _) ⟨rfl, rfl⟩
        · exact absurd ((if_neg c7).symm.trans hf) (by simp)
      · exact absurd ((if_neg c6).symm.trans hf) (by simp)
    · have hf := (if_neg c5).symm.trans hf
      obtain rfl := Option.some.inj hf
      exact bf_vret dX6_findPeriod_34 rfl (Nat.le_refl _) (Nat.le_refl _) ⟨rfl, rfl⟩
  · exact absurd ((if_neg c4).symm.trans hf) (by simp)
def f_X6_findPeriod (o : Nat) (a0 : Nat) (I : Nat → Nat → Int32) (L : Nat → Nat → Int64) : Option (bf_St) :=
  ((f_X6_findTimes o a0 (bf_u (bf_u I o 5 (0 : Int32)) o 1 (0 : Int32)) L).bind (fun r2 => (if r2.1 = 0 then (f_X6_findPeriod_p24 o a0 (1 : Int32) o r2.2.1 r2.2.2) else (f_X6_findPeriod_p24 o a0 (0 : Int32) o r2.2.1 r2.2.2))))
set_option maxRecDepth 100000 in
set_option maxHeartbeats 4000000 in
theorem ok_X6_findPeriod {Γ : bf_Gm} {ad : Nat → Nat} {o : Nat} {a0 : Nat} {I : Nat → Nat → Int32} {L : Nat → Nat → Int64} (hk : bf_kd o = 6) (hk0 : bf_kd a0 = 3) {r : bf_St} (hf : f_X6_findPeriod o a0 I L = some r) : bf_Cn Γ 4 mu_X6_findPeriod 0 0 [.ref (ad o), .ref (ad a0)] (bf_S ad I L) (fun q h => q = none ∧ h = bf_S ad r.1 r.2) := by
  refine bf_met rfl (Nat.le_of_ble_eq_true rfl) ?_
  unfold f_X6_findPeriod at hf
  refine bf_aload_n 0 dX6_findPeriod_0 rfl rfl ?_
  refine bf_iconst (v := 0) dX6_findPeriod_1 (by decide) ?_
  refine fp_X6_61 dX6_findPeriod_2 rfl hk ?_
  refine bf_aload_n 0 dX6_findPeriod_5 rfl rfl ?_
  refine bf_iconst (v := 0) dX6_findPeriod_6 (by decide) ?_
  refine fp_X6_46 (by decide) dX6_findPeriod_7 rfl hk ?_
  refine bf_aload_n 0 dX6_findPeriod_10 rfl rfl ?_
  refine bf_aload_n 0 dX6_findPeriod_11 rfl rfl ?_
  refine bf_aload_n 1 dX6_findPeriod_12 rfl rfl ?_
  obtain ⟨r2, e1, hf⟩ := bf_bind hf
  have hCe1 := ok_X6_findTimes (Γ := Γ) (ad := ad) hk hk0 e1
  refine cv_X6_65 2 dX6_findPeriod_13 rfl ⟨Nat.le_of_ble_eq_true rfl, Nat.le_of_ble_eq_true rfl⟩ (Nat.le_of_ble_eq_true rfl) hk hCe1 ?_
  refine bf_if_ne 23 dX6_findPeriod_16 (by decide) (fun c3 => ?_) (fun c3 => ?_)
  · have hf := (if_neg c3).symm.trans hf
    refine bf_iconst (v := 0) dX6_findPeriod_23 (by decide) ?_
    exact ok_X6_findPeriod_p24 hk hk0 hk hf
  · have hf := (if_pos c3).symm.trans hf
    refine bf_iconst (v := 1) dX6_findPeriod_19 (by decide) ?_
    refine bf_goto 24 dX6_findPeriod_20 (by decide) ?_
    exact ok_X6_findPeriod_p24 hk hk0 hk hf
