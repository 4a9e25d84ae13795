def f_X12_need_2 (v0 : Nat) (v1 : Int32) (K : (Nat → Nat → Int32) → (Nat → Nat → Int64) → Option (Int32 × bf_St)) : Nat → Int32 → (Nat → Nat → Int32) → (Nat → Nat → Int64) → Option (Int32 × bf_St)
  | 0, _, _, _ => none
  | n + 1, v2, I, L =>
    (if (20 : Int32) < v2 then (K I L) else ((f_X12_goesWith v0 v1 v2 I L).bind (fun r3 => (if r3.1 = 0 then (f_X12_need_2 v0 v1 K n (v2 + (1 : Int32)) r3.2.1 r3.2.2) else (some (v2, r3.2.1, r3.2.2))))))
set_option maxRecDepth 100000 in
set_option maxHeartbeats 4000000 in
theorem ok_X12_need_2 {Γ : bf_Gm} {ad : Nat → Nat} {v0 : Nat} {v1 : Int32} (hv0 : bf_kd v0 = 12) {r : Int32 × bf_St} {K : (Nat → Nat → Int32) → (Nat → Nat → Int64) → Option (Int32 × bf_St)} (hK : ∀ (I : Nat → Nat → Int32) (L : Nat → Nat → Int64), K  I L = some r → bf_Go Γ (bf_rm 6 0 0) mu_X12_need bf_E0 (bf_Z Γ (fun q h => q = some (.int r.1) ∧ h = bf_S ad r.2.1 r.2.2) 0 0) (0, 0) 25 [] [] (bf_S ad I L)) : ∀ (n : Nat) (v2 : Int32) (I : Nat → Nat → Int32) (L : Nat → Nat → Int64), f_X12_need_2 v0 v1 K n v2 I L = some r → bf_Go Γ (bf_rm 6 0 0) mu_X12_need bf_E0 (bf_Z Γ (fun q h => q = some (.int r.1) ∧ h = bf_S ad r.2.1 r.2.2) 0 0) (0, 0) 2 [(0, .ref (ad v0)), (1, .int v1), (2, .int v2)] [] (bf_S ad I L) := by
  intro n
  induction n with
  | zero => intro v2 I L hf; exact absurd (show none = some r from hf) (by simp)
  | succ n ih =>
    intro v2 I L hf
    rw [f_X12_need_2] at hf
    refine bf_iload_n 2 dX12_need_2 rfl rfl ?_
    refine bf_bipush (v := 20) dX12_need_3 (by decide) ?_
    refine bf_icmp_gt 25 dX12_need_5 (by decide) (fun c1 => ?_) (fun c1 => ?_)
    · have hf := (if_pos c1).symm.trans hf
      refine bf_perm [] rfl ?_
      exact hK _ _ hf
    · have hf := (if_neg c1).symm.trans hf
      refine bf_aload_n 0 dX12_need_8 rfl rfl ?_
      refine bf_iload_n 1 dX12_need_9 rfl rfl ?_
      refine bf_iload_n 2 dX12_need_10 rfl rfl ?_
      obtain ⟨r3, e2, hf⟩ := bf_bind hf
      have hCe2 := ok_X12_goesWith (Γ := Γ) (ad := ad) hv0 e2
      refine cv_X12_261 5 dX12_need_11 rfl ⟨Nat.le_of_ble_eq_true rfl, Nat.le_of_ble_eq_true rfl⟩ (Nat.le_of_ble_eq_true rfl) hv0 hCe2 ?_
      refine bf_if_eq 19 dX12_need_14 (by decide) (fun c4 => ?_) (fun c4 => ?_)
      · have hf := (if_pos c4).symm.trans hf
        refine bf_iinc 2 (v := _ + (1 : Int32)) (lv2 := [(2, .int _), (0, .ref _), (1, .int _)]) dX12_need_19 rfl (by rfl) (by decide) rfl ?_
        refine bf_goto 2 dX12_need_22 (by decide) ?_
        refine bf_perm [1, 2, 0] rfl ?_
        exact ih _ _ _ hf
      · have hf := (if_neg c4).symm.trans hf
        refine bf_iload_n 2 dX12_need_17 rfl rfl ?_
        obtain rfl := Option.some.inj hf
        exact bf_iret dX12_need_18 rfl (Nat.le_refl _) (Nat.le_refl _) ⟨rfl, rfl⟩
def f_X12_need (o : Nat) (a0 : Int32) (I : Nat → Nat → Int32) (L : Nat → Nat → Int64) : Option (Int32 × bf_St) :=
  (f_X12_need_2 o a0 (fun I5 L5 => (some ((-5 : Int32), I5, L5))) 400 (0 : Int32) I L)
set_option maxRecDepth 100000 in
set_option maxHeartbeats 4000000 in
theorem ok_X12_need {Γ : bf_Gm} {ad : Nat → Nat} {o : Nat} {a0 : Int32} {I : Nat → Nat → Int32} {L : Nat → Nat → Int64} (hk : bf_kd o = 12) {r : Int32 × bf_St} (hf : f_X12_need o a0 I L = some r) : bf_Cn Γ 6 mu_X12_need 0 0 [.ref (ad o), .int a0] (bf_S ad I L) (fun q h => q = some (.int r.1) ∧ h = bf_S ad r.2.1 r.2.2) := by
  refine bf_met rfl (Nat.le_of_ble_eq_true rfl) ?_
  unfold f_X12_need at hf
  refine bf_iconst (v := 0) dX12_need_0 (by decide) ?_
  refine bf_istore_n (lv2 := [(2, .int _), (0, .ref _), (1, .int _)]) dX12_need_1 rfl (by decide) rfl ?_
  refine bf_perm [1, 2, 0] rfl ?_
  refine ok_X12_need_2 hk (fun I5 L5 hf => ?_) _ _ _ _  hf
  refine bf_bipush (v := -5) dX12_need_25 (by decide) ?_
  obtain rfl := Option.some.inj hf
  exact bf_iret dX12_need_27 rfl (Nat.le_refl _) (Nat.le_refl _) ⟨rfl, rfl⟩
def f_X12_about_p61 (v0 : Nat) (v1 : Int32) (v2 : Int32) (I : Nat → Nat → Int32) (L : Nat → Nat → Int64) : Option (Int32 × bf_St) :=
  ((f_X12_isEven v0 I L).bind (fun r10 => (if r10.1 = 0 then (some ((-5 : Int32), r10.2.1, r10.2.2)) else (if v2 = (6 : Int32) then ((f_X12_need v0 v1 r10.2.1 r10.2.2).bind (fun r17 => (some (r17.1, r17.2.1, r17.2.2)))) else ((f_X12_thinks v0 r10.2.1 r10.2.2).bind (fun r14 => (if bf_ok v1 8 then (some ((r14.2.1 (v0 + 10) v1.toNatClampNeg), r14.2.1, r14.2.2)) else none)))))))
set_option maxRecDepth 100000 in
set_option maxHeartbeats 4000000 in
theorem ok_X12_about_p61 {Γ : bf_Gm} {ad : Nat → Nat} {v0 : Nat} {v1 : Int32} {v2 : Int32} {I : Nat → Nat → Int32} {L : Nat → Nat → Int64} (hv0 : bf_kd v0 = 12) {r : Int32 × bf_St} (hf : f_X12_about_p61 v0 v1 v2 I L = some r) : bf_Go Γ (bf_rm 7 0 0) mu_X12_about bf_E0 (bf_Z Γ (fun q h => q = some (.int r.1) ∧ h = bf_S ad r.2.1 r.2.2) 0 0) (0, 0) 61 [(0, .ref (ad v0)), (1, .int v1), (2, .int v2)] [] (bf_S ad I L) := by
  unfold f_X12_about_p61 at hf
  refine bf_aload_n 0 dX12_about_61 rfl rfl ?_
  obtain ⟨r10, e9, hf⟩ := bf_bind hf
  have hCe9 := ok_X12_isEven (Γ := Γ) (ad := ad) hv0 e9
  refine cv_X12_220 3 dX12_about_62 rfl ⟨Nat.le_of_ble_eq_true rfl, Nat.le_of_ble_eq_true rfl⟩ (Nat.le_of_ble_eq_true rfl) hv0 hCe9 ?_
  refine bf_if_ne 71 dX12_about_65 (by decide) (fun c11 => ?_) (fun c11 => ?_)
  · have hf := (if_neg c11).symm.trans hf
    refine bf_iload_n 2 dX12_about_71 rfl rfl ?_
    refine bf_bipush (v := 6) dX12_about_72 (by decide) ?_
    refine bf_icmp_ne 83 dX12_about_74 (by decide) (fun c12 => ?_) (fun c12 => ?_)
    · have hf := (if_neg c12).symm.trans hf
      refine bf_aload_n 0 dX12_about_83 rfl rfl ?_
      obtain ⟨r14, e13, hf⟩ := bf_bind hf
      have hCe13 := ok_X12_thinks (Γ := Γ) (ad := ad) hv0 e13
      refine cv_X12_226 5 dX12_about_84 rfl ⟨Nat.le_of_ble_eq_true rfl, Nat.le_of_ble_eq_true rfl⟩ (Nat.le_of_ble_eq_true rfl) hv0 hCe13 ?_
      refine bf_istore_n (lv2 := [(3, .int _), (0, .ref _), (1, .int _), (2, .int _)]) dX12_about_87 rfl (by decide) rfl ?_
      refine bf_aload_n 1 dX12_about_88 rfl rfl ?_
      refine fg_X12_40 dX12_about_89 rfl hv0 ?_
      refine bf_iload_n 2 dX12_about_92 rfl rfl ?_
      rcases Decidable.em (bf_ok v1 8) with c15 | c15
      · have hf := (if_pos c15).symm.trans hf
        refine bf_iald dX12_about_93 (kr_12_18 hv0) (by rw [(kl_12_18 hv0)]; exact c15) ?_
        obtain rfl := Option.some.inj hf
        exact bf_iret dX12_about_94 rfl (Nat.le_refl _) (Nat.le_refl _) ⟨rfl, rfl⟩
      · exact absurd ((if_neg c15).symm.trans hf) (by simp)
    · have hf := (if_pos c12).symm.trans hf
      refine bf_aload_n 0 dX12_about_77 rfl rfl ?_
      refine bf_iload_n 1 dX12_about_78 rfl rfl ?_
      obtain ⟨r17, e16, hf⟩ := bf_bind hf
      have hCe16 := ok_X12_need (Γ := Γ) (ad := ad) hv0 e16
      refine cv_X12_267 6 dX12_about_79 rfl ⟨Nat.le_of_ble_eq_true rfl, Nat.le_of_ble_eq_true rfl⟩ (Nat.le_of_ble_eq_true rfl) hv0 hCe16 ?_
      obtain rfl := Option.some.inj hf
      exact bf_iret dX12_about_82 rfl (Nat.le_refl _) (Nat.le_refl _) ⟨rfl, rfl⟩
  · have hf := (if_pos c11).symm.trans hf
    refine bf_bipush (v := -5) dX12_about_68 (by decide) ?_
    obtain rfl := Option.some.inj hf
    exact bf_iret dX12_about_70 rfl (Nat.le_refl _) (Nat.le_refl _) ⟨rfl, rfl⟩
def f_X12_about (o : Nat) (a0 : Int32) (a1 : Int32) (I : Nat → Nat → Int32) (L : Nat → Nat → Int64) : Option (Int32 × bf_St) :=
  ((f_X12_isWire o a0 I L).bind (fun r2 => (if r2.1 = 0 then (some ((-1 : Int32), r2.2.1, r2.2.2)) else ((f_X12_in (a1).toInt64 (0 : Int64) (3 : Int64) r2.2.1 r2.2.2).bind (fun r5 => (if r5.1 = 0 then (if a1 = (4 : Int32) then ((f_X12_tokens o a0 r5.2.1 r5.2.2).bind (fun r20 => (some (r20.1, r20.2.1, r20.2.2)))) else (if a1 = (5 : Int32) then (f_X12_about_p61 o a0 a1 r5.2.1 r5.2.2) else (if a1 = (6 : Int32) then (f_X12_about_p61 o a0 a1 r5.2.1 r5.2.2) else (some ((-1 : Int32), r5.2.1, r5.2.2))))) else (if bf_ok (((74 : Int32) + ((105 : Int32) * a0)) + a1) 914 then (some ((r5.2.1 (o + 1) (((74 : Int32) + ((105 : Int32) * a0)) + a1).toNatClampNeg), r5.2.1, r5.2.2)) else none)))))))
set_option maxRecDepth 100000 in
set_option maxHeartbeats 4000000 in
theorem ok_X12_about {Γ : bf_Gm} {ad : Nat → Nat} {o : Nat} {a0 : Int32} {a1 : Int32} {I : Nat → Nat → Int32} {L : Nat → Nat → Int64} (hk : bf_kd o = 12) {r : Int32 × bf_St} (hf : f_X12_about o a0 a1 I L = some r) : bf_Cn Γ 7 mu_X12_about 0 0 [.ref (ad o), .int a0, .int a1] (bf_S ad I L) (fun q h => q = some (.int r.1) ∧ h = bf_S ad r.2.1 r.2.2) := by
  refine bf_met rfl (Nat.le_of_ble_eq_true rfl) ?_
  unfold f_X12_about at hf
  refine bf_aload_n 0 dX12_about_0 rfl rfl ?_
  refine bf_iload_n 1 dX12_about_1 rfl rfl ?_
  obtain ⟨r2, e1, hf⟩ := bf_bind hf
  have hCe1 := ok_X12_isWire (Γ := Γ) (ad := ad) hk e1
  refine cv_X12_73 1 dX12_about_2 rfl ⟨Nat.le_of_ble_eq_true rfl, Nat.le_of_ble_eq_true rfl⟩ (Nat.le_of_ble_eq_true rfl) hk hCe1 ?_
  refine bf_if_ne 10 dX12_about_5 (by decide) (fun c3 => ?_) (fun c3 => ?_)
  · have hf := (if_neg c3).symm.trans hf
    refine bf_iload_n 2 dX12_about_10 rfl rfl ?_
    refine bf_i2l dX12_about_11 ?_
    refine bf_lconst (v := 0) dX12_about_12 (by decide) ?_
    refine bf_ldc2 dX12_about_13 wk_X12_265 ?_
    obtain ⟨r5, e4, hf⟩ := bf_bind hf
    have hCe4 := ok_X12_in (Γ := Γ) (ad := ad)  e4
    refine cv_X12_61 0 dX12_about_16 rfl ⟨Nat.le_of_ble_eq_true rfl, Nat.le_of_ble_eq_true rfl⟩ (Nat.le_of_ble_eq_true rfl) hCe4 ?_
    refine bf_if_eq 37 dX12_about_19 (by decide) (fun c6 => ?_) (fun c6 => ?_)
    · have hf := (if_pos c6).symm.trans hf
      refine bf_iload_n 2 dX12_about_37 rfl rfl ?_
      refine bf_iconst (v := 4) dX12_about_38 (by decide) ?_
      refine bf_icmp_ne 48 dX12_about_39 (by decide) (fun c7 => ?_) (fun c7 => ?_)
      · have hf := (if_neg c7).symm.trans hf
        refine bf_iload_n 2 dX12_about_48 rfl rfl ?_
        refine bf_iconst (v := 5) dX12_about_49 (by decide) ?_
        refine bf_icmp_eq 61 dX12_about_50 (by decide) (fun c8 => ?_) (fun c8 => ?_)
        · have hf := (if_pos c8).symm.trans hf
          exact ok_X12_about_p61 hk  hf
        · have hf := (if_neg c8).symm.trans hf
          refine bf_iload_n 2 dX12_about_53 rfl rfl ?_
          refine bf_bipush (v := 6) dX12_about_54 (by decide) ?_
          refine bf_icmp_eq 61 dX12_about_56 (by decide) (fun c18 => ?_) (fun c18 => ?_)
          · have hf := (if_pos c18).symm.trans hf
            exact ok_X12_about_p61 hk  hf
          · have hf := (if_neg c18).symm.trans hf
            refine bf_iconst (v := -1) dX12_about_59 (by decide) ?_
            obtain rfl := Option.some.inj hf
            exact bf_iret dX12_about_60 rfl (Nat.le_refl _) (Nat.le_refl _) ⟨rfl, rfl⟩
      · have hf := (if_pos c7).symm.trans hf
        refine bf_aload_n 0 dX12_about_42 rfl rfl ?_
        refine bf_iload_n 1 dX12_about_43 rfl rfl ?_
        obtain ⟨r20, e19, hf⟩ := bf_bind hf
        have hCe19 := ok_X12_tokens (Γ := Γ) (ad := ad) hk e19
        refine cv_X12_76 0 dX12_about_44 rfl ⟨Nat.le_of_ble_eq_true rfl, Nat.le_of_ble_eq_true rfl⟩ (Nat.le_of_ble_eq_true rfl) hk hCe19 ?_
        obtain rfl := Option.some.inj hf
        exact bf_iret dX12_about_47 rfl (Nat.le_refl _) (Nat.le_refl _) ⟨rfl, rfl⟩
    · have hf := (if_neg c6).symm.trans hf
      refine bf_aload_n 0 dX12_about_22 rfl rfl ?_
      refine fg_X12_11 dX12_about_23 rfl hk ?_
      refine bf_bipush (v := 74) dX12_about_26 (by decide) ?_
      refine bf_bipush (v := 105) dX12_about_28 (by decide) ?_
      refine bf_iload_n 1 dX12_about_30 rfl rfl ?_
      refine bf_imul dX12_about_31 ?_
      refine bf_iadd dX12_about_32 ?_
      refine bf_iload_n 2 dX12_about_33 rfl rfl ?_
      refine bf_iadd dX12_about_34 ?_
      rcases Decidable.em (bf_ok (((74 : Int32) + ((105 : Int32) * a0)) + a1) 914) with c21 | c21
      · have hf := (if_pos c21).symm.trans hf
        refine bf_iald dX12_about_35 (kr_12_0 hk) (by rw [(kl_12_0 hk)]; exact c21) ?_
        obtain rfl := Option.some.inj hf
        exact bf_iret dX12_about_36 rfl (Nat.le_refl _) (Nat.le_refl _) ⟨rfl, rfl⟩
      · exact absurd ((if_neg c21).symm.trans hf) (by simp)
  · have hf := (if_pos c3).symm.trans hf
    refine bf_iconst (v := -1) dX12_about_8 (by decide) ?_
    obtain rfl := Option.some.inj hf
    exact bf_iret dX12_about_9 rfl (Nat.le_refl _) (Nat.le_refl _) ⟨rfl, rfl⟩
def f_X12_read (o : Nat) (a0 : Int32) (a1 : Int32) (I : Nat → Nat → Int32) (L : Nat → Nat → Int64) : Option (Int64 × bf_St) :=
  ((f_X12_isWire o a0 I L).bind (fun r2 => (if r2.1 = 0 then (some ((-9223372036854775808 : Int64), r2.2.1, r2.2.2)) else ((f_X12_tokens o a0 r2.2.1 r2.2.2).bind (fun r5 => ((f_X12_in (a1).toInt64 (0 : Int64) ((r5.1 - (1 : Int32))).toInt64 r5.2.1 r5.2.2).bind (fun r7 => (if r7.1 = 0 then (some ((-9223372036854775808 : Int64), r7.2.1, r7.2.2)) else (if bf_ok ((((74 : Int32) + ((105 : Int32) * a0)) + (6 : Int32)) + a1) 914 then (some (((r7.2.1 (o + 1) ((((74 : Int32) + ((105 : Int32) * a0)) + (6 : Int32)) + a1).toNatClampNeg)).toInt64, r7.2.1, r7.2.2)) else none)))))))))
set_option maxRecDepth 100000 in
set_option maxHeartbeats 4000000 in
theorem ok_X12_read {Γ : bf_Gm} {ad : Nat → Nat} {o : Nat} {a0 : Int32} {a1 : Int32} {I : Nat → Nat → Int32} {L : Nat → Nat → Int64} (hk : bf_kd o = 12) {r : Int64 × bf_St} (hf : f_X12_read o a0 a1 I L = some r) : bf_Cn Γ 2 mu_X12_read 0 0 [.ref (ad o), .int a0, .int a1] (bf_S ad I L) (fun q h => q = some (.long r.1) ∧ h = bf_S ad r.2.1 r.2.2) := by
  refine bf_met rfl (Nat.le_of_ble_eq_true rfl) ?_
  unfold f_X12_read at hf
  refine bf_aload_n 0 dX12_read_0 rfl rfl ?_
  refine bf_iload_n 1 dX12_read_1 rfl rfl ?_
  obtain ⟨r2, e1, hf⟩ := bf_bind hf
  have hCe1 := ok_X12_isWire (Γ := Γ) (ad := ad) hk e1
  refine cv_X12_73 1 dX12_read_2 rfl ⟨Nat.le_of_ble_eq_true rfl, Nat.le_of_ble_eq_true rfl⟩ (Nat.le_of_ble_eq_true rfl) hk hCe1 ?_
  refine bf_if_eq 46 dX12_read_5 (by decide) (fun c3 => ?_) (fun c3 => ?_)
  · have hf := (if_pos c3).symm.trans hf
    refine bf_ldc2 dX12_read_46 wk_X12_169 ?_
    obtain rfl := Option.some.inj hf
    exact bf_lret dX12_read_49 rfl (Nat.le_refl _) (Nat.le_refl _) ⟨rfl, rfl⟩
  · have hf := (if_neg c3).symm.trans hf
    refine bf_iload_n 2 dX12_read_8 rfl rfl ?_
    refine bf_i2l dX12_read_9 ?_
    refine bf_lconst (v := 0) dX12_read_10 (by decide) ?_
    refine bf_aload_n 0 dX12_read_11 rfl rfl ?_
    refine bf_iload_n 1 dX12_read_12 rfl rfl ?_
    obtain ⟨r5, e4, hf⟩ := bf_bind hf
    have hCe4 := ok_X12_tokens (Γ := Γ) (ad := ad) hk e4
    refine cv_X12_76 0 dX12_read_13 rfl ⟨Nat.le_of_ble_eq_true rfl, Nat.le_of_ble_eq_true rfl⟩ (Nat.le_of_ble_eq_true rfl) hk hCe4 ?_
    refine bf_iconst (v := 1) dX12_read_16 (by decide) ?_
    refine bf_isub dX12_read_17 ?_
    refine bf_i2l dX12_read_18 ?_
    obtain ⟨r7, e6, hf⟩ := bf_bind hf
    have hCe6 := ok_X12_in (Γ := Γ) (ad := ad)  e6
    refine cv_X12_61 0 dX12_read_19 rfl ⟨Nat.le_of_ble_eq_true rfl, Nat.le_of_ble_eq_true rfl⟩ (Nat.le_of_ble_eq_true rfl) hCe6 ?_
    refine bf_if_eq 46 dX12_read_22 (by decide) (fun c8 => ?_) (fun c8 => ?_)
    · have hf := (if_pos c8).symm.trans hf
      refine bf_ldc2 dX12_read_46 wk_X12_169 ?_
      obtain rfl := Option.some.inj hf
      exact bf_lret dX12_read_49 rfl (Nat.le_refl _) (Nat.le_refl _) ⟨rfl, rfl⟩
    · have hf := (if_neg c8).symm.trans hf
      refine bf_aload_n 0 dX12_read_25 rfl rfl ?_
      refine fg_X12_11 dX12_read_26 rfl hk ?_
      refine bf_bipush (v := 74) dX12_read_29 (by decide) ?_
      refine bf_bipush (v := 105) dX12_read_31 (by decide) ?_
      refine bf_iload_n 1 dX12_read_33 rfl rfl ?_
      refine bf_imul dX12_read_34 ?_
      refine bf_iadd dX12_read_35 ?_
      refine bf_bipush (v := 6) dX12_read_36 (by decide) ?_
      refine bf_iadd dX12_read_38 ?_
      refine bf_iload_n 2 dX12_read_39 rfl rfl ?_
      refine bf_iadd dX12_read_40 ?_
      rcases Decidable.em (bf_ok ((((74 : Int32) + ((105 : Int32) * a0)) + (6 : Int32)) + a1) 914) with c9 | c9
      · have hf := (if_pos c9).symm.trans hf
        refine bf_iald dX12_read_41 (kr_12_0 hk) (by rw [(kl_12_0 hk)]; exact c9) ?_
        refine bf_i2l dX12_read_42 ?_
        refine bf_goto 49 dX12_read_43 (by decide) ?_
        obtain rfl := Option.some.inj hf
        exact bf_lret dX12_read_49 rfl (Nat.le_refl _) (Nat.le_refl _) ⟨rfl, rfl⟩
      · exact absurd ((if_neg c9).symm.trans hf) (by simp)
def f_X12_goesOn (o : Nat) (a0 : Int32) (I : Nat → Nat → Int32) (L : Nat → Nat → Int64) : Option (Int32 × bf_St) :=
  ((f_X12_copies (o + 1) (o + 13) I L).bind (fun r2 => ((f_X12_isEven o r2.1 r2.2).bind (fun r4 => (if r4.1 = 0 then (some ((0 : Int32), r4.2.1, r4.2.2)) else ((f_X12_periods o a0 r4.2.1 r4.2.2).bind (fun r7 => (some (r7.1, r7.2.1, r7.2.2)))))))))
set_option maxRecDepth 100000 in
set_option maxHeartbeats 4000000 in
theorem ok_X12_goesOn {Γ : bf_Gm} {ad : Nat → Nat} {o : Nat} {a0 : Int32} {I : Nat → Nat → Int32} {L : Nat → Nat → Int64} (hk : bf_kd o = 12) {r : Int32 × bf_St} (hf : f_X12_goesOn o a0 I L = some r) : bf_Cn Γ 6 mu_X12_goesOn 0 0 [.ref (ad o), .int a0] (bf_S ad I L) (fun q h => q = some (.int r.1) ∧ h = bf_S ad r.2.1 r.2.2) := by
  refine bf_met rfl (Nat.le_of_ble_eq_true rfl) ?_
  unfold f_X12_goesOn at hf
  refine bf_aload_n 0 dX12_goesOn_0 rfl rfl ?_
  refine fg_X12_11 dX12_goesOn_1 rfl hk ?_
  refine bf_aload_n 0 dX12_goesOn_4 rfl rfl ?_
  refine fg_X12_49 dX12_goesOn_5 rfl hk ?_
  obtain ⟨r2, e1, hf⟩ := bf_bind hf
  have hCe1 := ok_X12_copies (Γ := Γ) (ad := ad) (kr_12_0 hk) (kr_12_24 hk) e1
  refine cv_X12_213 0 dX12_goesOn_8 rfl ⟨Nat.le_of_ble_eq_true rfl, Nat.le_of_ble_eq_true rfl⟩ (Nat.le_of_ble_eq_true rfl) hCe1 ?_
  refine bf_aload_n 0 dX12_goesOn_11 rfl rfl ?_
  obtain ⟨r4, e3, hf⟩ := bf_bind hf
  have hCe3 := ok_X12_isEven (Γ := Γ) (ad := ad) hk e3
  refine cv_X12_220 3 dX12_goesOn_12 rfl ⟨Nat.le_of_ble_eq_true rfl, Nat.le_of_ble_eq_true rfl⟩ (Nat.le_of_ble_eq_true rfl) hk hCe3 ?_
  refine bf_if_eq 26 dX12_goesOn_15 (by decide) (fun c5 => ?_) (fun c5 => ?_)
  · have hf := (if_pos c5).symm.trans hf
    refine bf_iconst (v := 0) dX12_goesOn_26 (by decide) ?_
    obtain rfl := Option.some.inj hf
    exact bf_iret dX12_goesOn_27 rfl (Nat.le_refl _) (Nat.le_refl _) ⟨rfl, rfl⟩
  · have hf := (if_neg c5).symm.trans hf
    refine bf_aload_n 0 dX12_goesOn_18 rfl rfl ?_
    refine bf_iload_n 1 dX12_goesOn_19 rfl rfl ?_
    obtain ⟨r7, e6, hf⟩ := bf_bind hf
    have hCe6 := ok_X12_periods (Γ := Γ) (ad := ad) hk e6
    refine cv_X12_223 5 dX12_goesOn_20 rfl ⟨Nat.le_of_ble_eq_true rfl, Nat.le_of_ble_eq_true rfl⟩ (Nat.le_of_ble_eq_true rfl) hk hCe6 ?_
    refine bf_goto 27 dX12_goesOn_23 (by decide) ?_
    obtain rfl := Option.some.inj hf
    exact bf_iret dX12_goesOn_27 rfl (Nat.le_refl _) (Nat.le_refl _) ⟨rfl, rfl⟩
def f_X12_on (o : Nat) (a0 : Int32) (a1 : Int32) (I : Nat → Nat → Int32) (L : Nat → Nat → Int64) : Option (Int32 × bf_St) :=
  ((f_X12_isWire o a1 I L).bind (fun r2 => (if r2.1 = 0 then (some ((-1 : Int32), r2.2.1, r2.2.2)) else ((f_X12_in (a0).toInt64 (0 : Int64) (9 : Int64) r2.2.1 r2.2.2).bind (fun r5 => (if r5.1 = 0 then (some ((-2 : Int32), r5.2.1, r5.2.2)) else ((f_X12_goesOn o a0 r5.2.1 r5.2.2).bind (fun r8 => ((f_X12_tokens o a1 r8.2.1 r8.2.2).bind (fun r10 => ((f_X12_copies (o + 13) (o + 1) r10.2.1 r10.2.2).bind (fun r12 => (some (r10.1, r12.1, r12.2))))))))))))))
set_option maxRecDepth 100000 in
set_option maxHeartbeats 4000000 in
theorem ok_X12_on {Γ : bf_Gm} {ad : Nat → Nat} {o : Nat} {a0 : Int32} {a1 : Int32} {I : Nat → Nat → Int32} {L : Nat → Nat → Int64} (hk : bf_kd o = 12) {r : Int32 × bf_St} (hf : f_X12_on o a0 a1 I L = some r) : bf_Cn Γ 7 mu_X12_on 0 0 [.ref (ad o), .int a0, .int a1] (bf_S ad I L) (fun q h => q = some (.int r.1) ∧ h = bf_S ad r.2.1 r.2.2) := by
  refine bf_met rfl (Nat.le_of_ble_eq_true rfl) ?_
  unfold f_X12_on at hf
  refine bf_aload_n 0 dX12_on_0 rfl rfl ?_
  refine bf_iload_n 2 dX12_on_1 rfl rfl ?_
  obtain ⟨r2, e1, hf⟩ := bf_bind hf
  have hCe1 := ok_X12_isWire (Γ := Γ) (ad := ad) hk e1
  refine cv_X12_73 1 dX12_on_2 rfl ⟨Nat.le_of_ble_eq_true rfl, Nat.le_of_ble_eq_true rfl⟩ (Nat.le_of_ble_eq_true rfl) hk hCe1 ?_
  refine bf_if_ne 10 dX12_on_5 (by decide) (fun c3 => ?_) (fun c3 => ?_)
  · have hf := (if_neg c3).symm.trans hf
    refine bf_iload_n 1 dX12_on_10 rfl rfl ?_
    refine bf_i2l dX12_on_11 ?_
    refine bf_lconst (v := 0) dX12_on_12 (by decide) ?_
    refine bf_ldc2 dX12_on_13 wk_X12_67 ?_
    obtain ⟨r5, e4, hf⟩ := bf_bind hf
    have hCe4 := ok_X12_in (Γ := Γ) (ad := ad)  e4
    refine cv_X12_61 0 dX12_on_16 rfl ⟨Nat.le_of_ble_eq_true rfl, Nat.le_of_ble_eq_true rfl⟩ (Nat.le_of_ble_eq_true rfl) hCe4 ?_
    refine bf_if_ne 25 dX12_on_19 (by decide) (fun c6 => ?_) (fun c6 => ?_)
    · have hf := (if_neg c6).symm.trans hf
      refine bf_aload_n 0 dX12_on_25 rfl rfl ?_
      refine bf_iload_n 1 dX12_on_26 rfl rfl ?_
      obtain ⟨r8, e7, hf⟩ := bf_bind hf
      have hCe7 := ok_X12_goesOn (Γ := Γ) (ad := ad) hk e7
      refine cv_X12_270 6 dX12_on_27 rfl ⟨Nat.le_of_ble_eq_true rfl, Nat.le_of_ble_eq_true rfl⟩ (Nat.le_of_ble_eq_true rfl) hk hCe7 ?_
      refine bf_istore_n (lv2 := [(3, .int _), (0, .ref _), (1, .int _), (2, .int _)]) dX12_on_30 rfl (by decide) rfl ?_
      refine bf_aload_n 1 dX12_on_31 rfl rfl ?_
      refine bf_iload_n 3 dX12_on_32 rfl rfl ?_
      obtain ⟨r10, e9, hf⟩ := bf_bind hf
      have hCe9 := ok_X12_tokens (Γ := Γ) (ad := ad) hk e9
      refine cv_X12_76 0 dX12_on_33 rfl ⟨Nat.le_of_ble_eq_true rfl, Nat.le_of_ble_eq_true rfl⟩ (Nat.le_of_ble_eq_true rfl) hk hCe9 ?_
      refine bf_istore (lv2 := [(4, .int _), (3, .int _), (0, .ref _), (1, .int _), (2, .int _)]) dX12_on_36 (by decide) rfl ?_
      refine bf_aload_n 2 dX12_on_38 rfl rfl ?_
      refine fg_X12_49 dX12_on_39 rfl hk ?_
      refine bf_aload_n 2 dX12_on_42 rfl rfl ?_
      refine fg_X12_11 dX12_on_43 rfl hk ?_
      obtain ⟨r12, e11, hf⟩ := bf_bind hf
      have hCe11 := ok_X12_copies (Γ := Γ) (ad := ad) (kr_12_24 hk) (kr_12_0 hk) e11
      refine cv_X12_213 0 dX12_on_46 rfl ⟨Nat.le_of_ble_eq_true rfl, Nat.le_of_ble_eq_true rfl⟩ (Nat.le_of_ble_eq_true rfl) hCe11 ?_
      refine bf_iload 0 dX12_on_49 rfl ?_
      obtain rfl := Option.some.inj hf
      exact bf_iret dX12_on_51 rfl (Nat.le_refl _) (Nat.le_refl _) ⟨rfl, rfl⟩
    · have hf := (if_pos c6).symm.trans hf
      refine bf_bipush (v := -2) dX12_on_22 (by decide) ?_
      obtain rfl := Option.some.inj hf
      exact bf_iret dX12_on_24 rfl (Nat.le_refl _) (Nat.le_refl _) ⟨rfl, rfl⟩
  · have hf := (if_pos c3).symm.trans hf
    refine bf_iconst (v := -1) dX12_on_8 (by decide) ?_
    obtain rfl := Option.some.inj hf
    exact bf_iret dX12_on_9 rfl (Nat.le_refl _) (Nat.le_refl _) ⟨rfl, rfl⟩
def f_X12_then (o : Nat) (a0 : Int32) (a1 : Int32) (a2 : Int32) (I : Nat → Nat → Int32) (L : Nat → Nat → Int64) : Option (Int64 × bf_St) :=
  ((f_X12_isWire o a1 I L).bind (fun r2 => (if r2.1 = 0 then (some ((-9223372036854775808 : Int64), r2.2.1, r2.2.2)) else ((f_X12_in (a0).toInt64 (0 : Int64) (9 : Int64) r2.2.1 r2.2.2).bind (fun r5 => (if r5.1 = 0 then (some ((-9223372036854775808 : Int64), r5.2.1, r5.2.2)) else ((f_X12_goesOn o a0 r5.2.1 r5.2.2).bind (fun r8 => ((f_X12_read o a1 a2 r8.2.1 r8.2.2).bind (fun r10 => ((f_X12_copies (o + 13) (o + 1) r10.2.1 r10.2.2).bind (fun r12 => (some (r10.1, r12.1, r12.2))))))))))))))
set_option maxRecDepth 100000 in
set_option maxHeartbeats 4000000 in
theorem ok_X12_then {Γ : bf_Gm} {ad : Nat → Nat} {o : Nat} {a0 : Int32} {a1 : Int32} {a2 : Int32} {I : Nat → Nat → Int32} {L : Nat → Nat → Int64} (hk : bf_kd o = 12) {r : Int64 × bf_St} (hf : f_X12_then o a0 a1 a2 I L = some r) : bf_Cn Γ 7 mu_X12_then 0 0 [.ref (ad o), .int a0, .int a1, .int a2] (bf_S ad I L) (fun q h => q = some (.long r.1) ∧ h = bf_S ad r.2.1 r.2.2) := by
  refine bf_met rfl (Nat.le_of_ble_eq_true rfl) ?_
  unfold f_X12_then at hf
  refine bf_aload_n 0 dX12_then_0 rfl rfl ?_
  refine bf_iload_n 2 dX12_then_1 rfl rfl ?_
  obtain ⟨r2, e1, hf⟩ := bf_bind hf
  have hCe1 := ok_X12_isWire (Γ := Γ) (ad := ad) hk e1
  refine cv_X12_73 1 dX12_then_2 rfl ⟨Nat.le_of_ble_eq_true rfl, Nat.le_of_ble_eq_true rfl⟩ (Nat.le_of_ble_eq_true rfl) hk hCe1 ?_
  refine bf_if_eq 20 dX12_then_5 (by decide) (fun c3 => ?_) (fun c3 => ?_)
  · have hf := (if_pos c3).symm.trans hf
    refine bf_ldc2 dX12_then_20 wk_X12_169 ?_
    obtain rfl := Option.some.inj hf
    exact bf_lret dX12_then_23 rfl (Nat.le_refl _) (Nat.le_refl _) ⟨rfl, rfl⟩
  · have hf := (if_neg c3).symm.trans hf
    refine bf_iload_n 1 dX12_then_8 rfl rfl ?_
    refine bf_i2l dX12_then_9 ?_
    refine bf_lconst (v := 0) dX12_then_10 (by decide) ?_
    refine bf_ldc2 dX12_then_11 wk_X12_67 ?_
    obtain ⟨r5, e4, hf⟩ := bf_bind hf
    have hCe4 := ok_X12_in (Γ := Γ) (ad := ad)  e4
    refine cv_X12_61 0 dX12_then_14 rfl ⟨Nat.le_of_ble_eq_true rfl, Nat.le_of_ble_eq_true rfl⟩ (Nat.le_of_ble_eq_true rfl) hCe4 ?_
    refine bf_if_ne 24 dX12_then_17 (by decide) (fun c6 => ?_) (fun c6 => ?_)
    · have hf := (if_neg c6).symm.trans hf
      refine bf_aload_n 0 dX12_then_24 rfl rfl ?_
      refine bf_iload_n 1 dX12_then_25 rfl rfl ?_
      obtain ⟨r8, e7, hf⟩ := bf_bind hf
      have hCe7 := ok_X12_goesOn (Γ := Γ) (ad := ad) hk e7
      refine cv_X12_270 6 dX12_then_26 rfl ⟨Nat.le_of_ble_eq_true rfl, Nat.le_of_ble_eq_true rfl⟩ (Nat.le_of_ble_eq_true rfl) hk hCe7 ?_
      refine bf_istore (lv2 := [(4, .int _), (0, .ref _), (1, .int _), (2, .int _), (3, .int _)]) dX12_then_29 (by decide) rfl ?_
      refine bf_aload_n 1 dX12_then_31 rfl rfl ?_
      refine bf_iload_n 3 dX12_then_32 rfl rfl ?_
      refine bf_iload_n 4 dX12_then_33 rfl rfl ?_
      obtain ⟨r10, e9, hf⟩ := bf_bind hf
      have hCe9 := ok_X12_read (Γ := Γ) (ad := ad) hk e9
      refine cv_X12_273 2 dX12_then_34 rfl ⟨Nat.le_of_ble_eq_true rfl, Nat.le_of_ble_eq_true rfl⟩ (Nat.le_of_ble_eq_true rfl) hk hCe9 ?_
      refine bf_lstore (lv2 := [(5, .long _), (4, .int _), (0, .ref _), (1, .int _), (2, .int _), (3, .int _)]) dX12_then_37 (by decide) rfl ?_
      refine bf_aload_n 2 dX12_then_39 rfl rfl ?_
      refine fg_X12_49 dX12_then_40 rfl hk ?_
      refine bf_aload_n 2 dX12_then_43 rfl rfl ?_
      refine fg_X12_11 dX12_then_44 rfl hk ?_
      obtain ⟨r12, e11, hf⟩ := bf_bind hf
      have hCe11 := ok_X12_copies (Γ := Γ) (ad := ad) (kr_12_24 hk) (kr_12_0 hk) e11
      refine cv_X12_213 0 dX12_then_47 rfl ⟨Nat.le_of_ble_eq_true rfl, Nat.le_of_ble_eq_true rfl⟩ (Nat.le_of_ble_eq_true rfl) hCe11 ?_
      refine bf_lload 0 dX12_then_50 rfl ?_
      obtain rfl := Option.some.inj hf
      exact bf_lret dX12_then_52 rfl (Nat.le_refl _) (Nat.le_refl _) ⟨rfl, rfl⟩
    · have hf := (if_pos c6).symm.trans hf
      refine bf_ldc2 dX12_then_20 wk_X12_169 ?_
      obtain rfl := Option.some.inj hf
      exact bf_lret dX12_then_23 rfl (Nat.le_refl _) (Nat.le_refl _) ⟨rfl, rfl⟩
def f_X12_see (o : Nat) (a0 : Int32) (a1 : Int32) (a2 : Int32) (I : Nat → Nat → Int32) (L : Nat → Nat → Int64) : Option (Int32 × bf_St) :=
  (if a0 = (-1 : Int32) then (some ((0 : Int32), (bf_u I (o + 1) (2 : Int32).toNatClampNeg (0 : Int32)), L)) else ((f_X12_isWire o a0 I L).bind (fun r3 => (if r3.1 = 0 then (some ((-1 : Int32), r3.2.1, r3.2.2)) else ((f_X12_in (a1).toInt64 (0 : Int64) (4 : Int64) r3.2.1 r3.2.2).bind (fun r6 => (if r6.1 = 0 then (some ((-2 : Int32), r6.2.1, r6.2.2)) else (if (r6.2.1 (o + 1) (2 : Int32).toNatClampNeg) = (5 : Int32) then (some ((-4 : Int32), r6.2.1, r6.2.2)) else (if bf_ok ((23 : Int32) + ((3 : Int32) * (r6.2.1 (o + 1) (2 : Int32).toNatClampNeg))) 914 then (if bf_ok (((23 : Int32) + ((3 : Int32) * (r6.2.1 (o + 1) (2 : Int32).toNatClampNeg))) + (1 : Int32)) 914 then (if bf_ok (((23 : Int32) + ((3 : Int32) * (r6.2.1 (o + 1) (2 : Int32).toNatClampNeg))) + (2 : Int32)) 914 then (some (((r6.2.1 (o + 1) (2 : Int32).toNatClampNeg) + (1 : Int32)), (bf_u (bf_u (bf_u (bf_u r6.2.1 (o + 1) ((23 : Int32) + ((3 : Int32) * (r6.2.1 (o + 1) (2 : Int32).toNatClampNeg))).toNatClampNeg a0) (o + 1) (((23 : Int32) + ((3 : Int32) * (r6.2.1 (o + 1) (2 : Int32).toNatClampNeg))) + (1 : Int32)).toNatClampNeg a1) (o + 1) (((23 : Int32) + ((3 : Int32) * (r6.2.1 (o + 1) (2 : Int32).toNatClampNeg))) + (2 : Int32)).toNatClampNeg a2) (o + 1) (2 : Int32).toNatClampNeg ((r6.2.1 (o + 1) (2 : Int32).toNatClampNeg) + (1 : Int32))), r6.2.2)) else none) else none) else none)))))))))
set_option maxRecDepth 100000 in
set_option maxHeartbeats 4000000 in
theorem ok_X12_see {Γ : bf_Gm} {ad : Nat → Nat} {o : Nat} {a0 : Int32} {a1 : Int32} {a2 : Int32} {I : Nat → Nat → Int32} {L : Nat → Nat → Int64} (hk : bf_kd o = 12) {r : Int32 × bf_St} (hf : f_X12_see o a0 a1 a2 I L = some r) : bf_Cn Γ 2 mu_X12_see 0 0 [.ref (ad o), .int a0, .int a1, .int a2] (bf_S ad I L) (fun q h => q = some (.int r.1) ∧ h = bf_S ad r.2.1 r.2.2) := by
  refine bf_met rfl (Nat.le_of_ble_eq_true rfl) ?_
  unfold f_X12_see at hf
  refine bf_iload_n 1 dX12_see_0 rfl rfl ?_
  refine bf_iconst (v := -1) dX12_see_1 (by decide) ?_
  refine bf_icmp_ne 14 dX12_see_2 (by decide) (fun c1 => ?_) (fun c1 => ?_)
  · have hf := (if_neg c1).symm.trans hf
    refine bf_aload_n 0 dX12_see_14 rfl rfl ?_
    refine bf_iload_n 1 dX12_see_15 rfl rfl ?_
    obtain ⟨r3, e2, hf⟩ := bf_bind hf
    have hCe2 := ok_X12_isWire (Γ := Γ) (ad := ad) hk e2
    refine cv_X12_73 1 dX12_see_16 rfl ⟨Nat.le_of_ble_eq_true rfl, Nat.le_of_ble_eq_true rfl⟩ (Nat.le_of_ble_eq_true rfl) hk hCe2 ?_
    refine bf_if_ne 24 dX12_see_19 (by decide) (fun c4 => ?_) (fun c4 => ?_)
    · have hf := (if_neg c4).symm.trans hf
      refine bf_iload_n 2 dX12_see_24 rfl rfl ?_
      refine bf_i2l dX12_see_25 ?_
      refine bf_lconst (v := 0) dX12_see_26 (by decide) ?_
      refine bf_ldc2 dX12_see_27 wk_X12_65 ?_
      obtain ⟨r6, e5, hf⟩ := bf_bind hf
      have hCe5 := ok_X12_in (Γ := Γ) (ad := ad)  e5
      refine cv_X12_61 0 dX12_see_30 rfl ⟨Nat.le_of_ble_eq_true rfl, Nat.le_of_ble_eq_true rfl⟩ (Nat.le_of_ble_eq_true rfl) hCe5 ?_
      refine bf_if_ne 39 dX12_see_33 (by decide) (fun c7 => ?_) (fun c7 => ?_)
      · have hf := (if_neg c7).symm.trans hf
        refine bf_aload_n 0 dX12_see_39 rfl rfl ?_
        refine fg_X12_11 dX12_see_40 rfl hk ?_
        refine bf_iconst (v := 2) dX12_see_43 (by decide) ?_
        refine bf_iald dX12_see_44 (kr_12_0 hk) (by rw [(kl_12_0 hk)]; decide) ?_
        refine bf_istore (lv2 := [(4, .int _), (0, .ref _), (1, .int _), (2, .int _), (3, .int _)]) dX12_see_45 (by decide) rfl ?_
        refine bf_iload 0 dX12_see_47 rfl ?_
        refine bf_iconst (v := 5) dX12_see_49 (by decide) ?_
        refine bf_icmp_ne 56 dX12_see_50 (by decide) (fun c8 => ?_) (fun c8 => ?_)
        · have hf := (if_neg c8).symm.trans hf
          refine bf_aload_n 1 dX12_see_56 rfl rfl ?_
          refine fg_X12_11 dX12_see_57 rfl hk ?_
          refine bf_bipush (v := 23) dX12_see_60 (by decide) ?_
          refine bf_iconst (v := 3) dX12_see_62 (by decide) ?_
          refine bf_iload 0 dX12_see_63 rfl ?_
          refine bf_imul dX12_see_65 ?_
          refine bf_iadd dX12_see_66 ?_
          refine bf_iload_n 2 dX12_see_67 rfl rfl ?_
          rcases Decidable.em (bf_ok ((23 : Int32) + ((3 : Int32) * (r6.2.1 (o + 1) (2 : Int32).toNatClampNeg))) 914) with c9 | c9
          · have hf := (if_pos c9).symm.trans hf
            refine bf_iast dX12_see_68 (kr_12_0 hk) (by rw [(kl_12_0 hk)]; exact c9) ?_
            refine bf_aload_n 1 dX12_see_69 rfl rfl ?_
            refine fg_X12_11 dX12_see_70 rfl hk ?_
            refine bf_bipush (v := 23) dX12_see_73 (by decide) ?_
            refine bf_iconst (v := 3) dX12_see_75 (by decide) ?_
            refine bf_iload 0 dX12_see_76 rfl ?_
            refine bf_imul dX12_see_78 ?_
            refine bf_iadd dX12_see_79 ?_
            refine bf_iconst (v := 1) dX12_see_80 (by decide) ?_
            refine bf_iadd dX12_see_81 ?_
            refine bf_iload_n 3 dX12_see_82 rfl rfl ?_
            rcases Decidable.em (bf_ok (((23 : Int32) + ((3 : Int32) * (r6.2.1 (o + 1) (2 : Int32).toNatClampNeg))) + (1 : Int32)) 914) with c10 | c10
            · have hf := (if_pos c10).symm.trans hf
              refine bf_iast dX12_see_83 (kr_12_0 hk) (by rw [(kl_12_0 hk)]; exact c10) ?_
              refine bf_aload_n 1 dX12_see_84 rfl rfl ?_
              refine fg_X12_11 dX12_see_85 rfl hk ?_
              refine bf_bipush (v := 23) dX12_see_88 (by decide) ?_
              refine bf_iconst (v := 3) dX12_see_90 (by decide) ?_
              refine bf_iload 0 dX12_see_91 rfl ?_
              refine bf_imul dX12_see_93 ?_
              refine bf_iadd dX12_see_94 ?_
              refine bf_iconst (v := 2) dX12_see_95 (by decide) ?_
              refine bf_iadd dX12_see_96 ?_
              refine bf_iload_n 4 dX12_see_97 rfl rfl ?_
              rcases Decidable.em (bf_ok (((23 : Int32) + ((3 : Int32) * (r6.2.1 (o + 1) (2 : Int32).toNatClampNeg))) + (2 : Int32)) 914) with c11 | c11
              · have hf := (if_pos c11).symm.trans hf
                refine bf_iast dX12_see_98 (kr_12_0 hk) (by rw [(kl_12_0 hk)]; exact c11) ?_
                refine bf_aload_n 1 dX12_see_99 rfl rfl ?_
                refine fg_X12_11 dX12_see_100 rfl hk ?_
                refine bf_iconst (v := 2) dX12_see_103 (by decide) ?_
                refine bf_iload 0 dX12_see_104 rfl ?_
                refine bf_iconst (v := 1) dX12_see_106 (by decide) ?_
                refine bf_iadd dX12_see_107 ?_
                refine bf_iast dX12_see_108 (kr_12_0 hk) (by rw [(kl_12_0 hk)]; decide) ?_
                refine bf_iload 0 dX12_see_109 rfl ?_
                refine bf_iconst (v := 1) dX12_see_111 (by decide) ?_
                refine bf_iadd dX12_see_112 ?_
                obtain rfl := Option.some.inj hf
                exact bf_iret dX12_see_113 rfl (Nat.le_refl _) (Nat.le_refl _) ⟨rfl, rfl⟩
              · exact absurd ((if_neg c11).symm.trans hf) (by simp)
            · exact absurd ((if_neg c10).symm.trans hf) (by simp)
          · exact absurd ((if_neg c9).symm.trans hf) (by simp)
        · have hf := (if_pos c8).symm.trans hf
          refine bf_bipush (v := -4) dX12_see_53 (by decide) ?_
          obtain rfl := Option.some.inj hf
          exact bf_iret dX12_see_55 rfl (Nat.le_refl _) (Nat.le_refl _) ⟨rfl, rfl⟩
      · have hf := (if_pos c7).symm.trans hf
        refine bf_bipush (v := -2) dX12_see_36 (by decide) ?_
        obtain rfl := Option.some.inj hf
        exact bf_iret dX12_see_38 rfl (Nat.le_refl _) (Nat.le_refl _) ⟨rfl, rfl⟩
    · have hf := (if_pos c4).symm.trans hf
      refine bf_iconst (v := -1) dX12_see_22 (by decide) ?_
      obtain rfl := Option.some.inj hf
      exact bf_iret dX12_see_23 rfl (Nat.le_refl _) (Nat.le_refl _) ⟨rfl, rfl⟩
  · have hf := (if_pos c1).symm.trans hf
    refine bf_aload_n 0 dX12_see_5 rfl rfl ?_
    refine fg_X12_11 dX12_see_6 rfl hk ?_
    refine bf_iconst (v := 2) dX12_see_9 (by decide) ?_
    refine bf_iconst (v := 0) dX12_see_10 (by decide) ?_
    refine bf_iast dX12_see_11 (kr_12_0 hk) (by rw [(kl_12_0 hk)]; decide) ?_
    refine bf_iconst (v := 0) dX12_see_12 (by decide) ?_
    obtain rfl := Option.some.inj hf
    exact bf_iret dX12_see_13 rfl (Nat.le_refl _) (Nat.le_refl _) ⟨rfl, rfl⟩
def f_X12_isSeen (o : Nat) (a0 : Int32) (I : Nat → Nat → Int32) (L : Nat → Nat → Int64) : Option (Int32 × bf_St) :=
  (if bf_ok ((23 : Int32) + ((3 : Int32) * a0)) 914 then (if bf_ok (((23 : Int32) + ((3 : Int32) * a0)) + (1 : Int32)) 914 then (if bf_ok (((23 : Int32) + ((3 : Int32) * a0)) + (2 : Int32)) 914 then ((f_X12_isWire o (I (o + 1) ((23 : Int32) + ((3 : Int32) * a0)).toNatClampNeg) I L).bind (fun r5 => (if r5.1 = 0 then (some ((0 : Int32), r5.2.1, r5.2.2)) else ((f_X12_goesOn o (I (o + 1) (((23 : Int32) + ((3 : Int32) * a0)) + (1 : Int32)).toNatClampNeg) r5.2.1 r5.2.2).bind (fun r8 => (if r8.1 = (I (o + 1) (((23 : Int32) + ((3 : Int32) * a0)) + (1 : Int32)).toNatClampNeg) then ((f_X12_tokens o (I (o + 1) ((23 : Int32) + ((3 : Int32) * a0)).toNatClampNeg) r8.2.1 r8.2.2).bind (fun r13 => (if r13.1 ≤ 0 then ((f_X12_copies (o + 13) (o + 1) r13.2.1 r13.2.2).bind (fun r16 => (some ((0 : Int32), r16.1, r16.2)))) else ((f_X12_tokens o (I (o + 1) ((23 : Int32) + ((3 : Int32) * a0)).toNatClampNeg) r13.2.1 r13.2.2).bind (fun r18 => ((f_X12_read o (I (o + 1) ((23 : Int32) + ((3 : Int32) * a0)).toNatClampNeg) (r18.1 - (1 : Int32)) r18.2.1 r18.2.2).bind (fun r20 => (if (lg_cmp r20.1 ((I (o + 1) (((23 : Int32) + ((3 : Int32) * a0)) + (2 : Int32)).toNatClampNeg)).toInt64) = 0 then ((f_X12_copies (o + 13) (o + 1) r20.2.1 r20.2.2).bind (fun r25 => (some ((1 : Int32), r25.1, r25.2)))) else ((f_X12_copies (o + 13) (o + 1) r20.2.1 r20.2.2).bind (fun r23 => (some ((0 : Int32), r23.1, r23.2)))))))))))) else ((f_X12_copies (o + 13) (o + 1) r8.2.1 r8.2.2).bind (fun r11 => (some ((0 : Int32), r11.1, r11.2)))))))))) else none) else none) else none)
set_option maxRecDepth 100000 in
set_option maxHeartbeats 4000000 in
theorem ok_X12_isSeen {Γ : bf_Gm} {ad : Nat → Nat} {o : Nat} {a0 : Int32} {I : Nat → Nat → Int32} {L : Nat → Nat → Int64} (hk : bf_kd o = 12) {r : Int32 × bf_St} (hf : f_X12_isSeen o a0 I L = some r) : bf_Cn Γ 7 mu_X12_isSeen 0 0 [.ref (ad o), .int a0] (bf_S ad I L) (fun q h => q = some (.int r.1) ∧ h = bf_S ad r.2.1 r.2.2) := by
  refine bf_met rfl (Nat.le_of_ble_eq_true rfl) ?_
  unfold f_X12_isSeen at hf
  refine bf_aload_n 0 dX12_isSeen_0 rfl rfl ?_
  refine fg_X12_11 dX12_isSeen_1 rfl hk ?_
  refine bf_bipush (v := 23) dX12_isSeen_4 (by decide) ?_
  refine bf_iconst (v := 3) dX12_isSeen_6 (by decide) ?_
  refine bf_iload_n 1 dX12_isSeen_7 rfl rfl ?_
  refine bf_imul dX12_isSeen_8 ?_
  refine bf_iadd dX12_isSeen_9 ?_
  rcases Decidable.em (bf_ok ((23 : Int32) + ((3 : Int32) * a0)) 914) with c1 | c1
  · have hf := (if_pos c1).symm.trans hf
    refine bf_iald dX12_isSeen_10 (kr_12_0 hk) (by rw [(kl_12_0 hk)]; exact c1) ?_
    refine bf_istore_n (lv2 := [(2, .int _), (0, .ref _), (1, .int _)]) dX12_isSeen_11 rfl (by decide) rfl ?_
    refine bf_aload_n 1 dX12_isSeen_12 rfl rfl ?_
    refine fg_X12_11 dX12_isSeen_13 rfl hk ?_
    refine bf_bipush (v := 23) dX12_isSeen_16 (by decide) ?_
    refine bf_iconst (v := 3) dX12_isSeen_18 (by decide) ?_
    refine bf_iload_n 2 dX12_isSeen_19 rfl rfl ?_
    refine bf_imul dX12_isSeen_20 ?_
    refine bf_iadd dX12_isSeen_21 ?_
    refine bf_iconst (v := 1) dX12_isSeen_22 (by decide) ?_
    refine bf_iadd dX12_isSeen_23 ?_
    rcases Decidable.em (bf_ok (((23 : Int32) + ((3 : Int32) * a0)) + (1 : Int32)) 914) with c2 | c2
    · have hf := (if_pos c2).symm.trans hf
      refine bf_iald dX12_isSeen_24 (kr_12_0 hk) (by rw [(kl_12_0 hk)]; exact c2) ?_
      refine bf_istore_n (lv2 := [(3, .int _), (2, .int _), (0, .ref _), (1, .int _)]) dX12_isSeen_25 rfl (by decide) rfl ?_
      refine bf_aload_n 2 dX12_isSeen_26 rfl rfl ?_
      refine fg_X12_11 dX12_isSeen_27 rfl hk ?_
      refine bf_bipush (v := 23) dX12_isSeen_30 (by decide) ?_
      refine bf_iconst (v := 3) dX12_isSeen_32 (by decide) ?_
      refine bf_iload_n 3 dX12_isSeen_33 rfl rfl ?_
      refine bf_imul dX12_isSeen_34 ?_
      refine bf_iadd dX12_isSeen_35 ?_
      refine bf_iconst (v := 2) dX12_isSeen_36 (by decide) ?_
      refine bf_iadd dX12_isSeen_37 ?_
      rcases Decidable.em (bf_ok (((23 : Int32) + ((3 : Int32) * a0)) + (2 : Int32)) 914) with c3 | c3
      · have hf := (if_pos c3).symm.trans hf
        refine bf_iald dX12_isSeen_38 (kr_12_0 hk) (by rw [(kl_12_0 hk)]; exact c3) ?_
        refine bf_istore (lv2 := [(4, .int _), (3, .int _), (2, .int _), (0, .ref _), (1, .int _)]) dX12_isSeen_39 (by decide) rfl ?_
        refine bf_aload_n 3 dX12_isSeen_41 rfl rfl ?_
        refine bf_iload_n 2 dX12_isSeen_42 rfl rfl ?_
        obtain ⟨r5, e4, hf⟩ := bf_bind hf
        have hCe4 := ok_X12_isWire (Γ := Γ) (ad := ad) hk e4
        refine cv_X12_73 1 dX12_isSeen_43 rfl ⟨Nat.le_of_ble_eq_true rfl, Nat.le_of_ble_eq_true rfl⟩ (Nat.le_of_ble_eq_true rfl) hk hCe4 ?_
        refine bf_if_ne 51 dX12_isSeen_46 (by decide) (fun c6 => ?_) (fun c6 => ?_)
        · have hf := (if_neg c6).symm.trans hf
          refine bf_aload_n 3 dX12_isSeen_51 rfl rfl ?_
          refine bf_iload_n 1 dX12_isSeen_52 rfl rfl ?_
          obtain ⟨r8, e7, hf⟩ := bf_bind hf
          have hCe7 := ok_X12_goesOn (Γ := Γ) (ad := ad) hk e7
          refine cv_X12_270 6 dX12_isSeen_53 rfl ⟨Nat.le_of_ble_eq_true rfl, Nat.le_of_ble_eq_true rfl⟩ (Nat.le_of_ble_eq_true rfl) hk hCe7 ?_
          refine bf_iload_n 1 dX12_isSeen_56 rfl rfl ?_
          refine bf_icmp_ne 91 dX12_isSeen_57 (by decide) (fun c9 => ?_) (fun c9 => ?_)
          · have hf := (if_neg c9).symm.trans hf
            refine bf_iconst (v := 0) dX12_isSeen_91 (by decide) ?_
            refine bf_istore (lv2 := [(5, .int _), (4, .int _), (3, .int _), (2, .int _), (0, .ref _), (1, .int _)]) dX12_isSeen_92 (by decide) rfl ?_
            refine bf_aload_n 4 dX12_isSeen_94 rfl rfl ?_
            refine fg_X12_49 dX12_isSeen_95 rfl hk ?_
            refine bf_aload_n 4 dX12_isSeen_98 rfl rfl ?_
            refine fg_X12_11 dX12_isSeen_99 rfl hk ?_
            obtain ⟨r11, e10, hf⟩ := bf_bind hf
            have hCe10 := ok_X12_copies (Γ := Γ) (ad := ad) (kr_12_24 hk) (kr_12_0 hk) e10
            refine cv_X12_213 0 dX12_isSeen_102 rfl ⟨Nat.le_of_ble_eq_true rfl, Nat.le_of_ble_eq_true rfl⟩ (Nat.le_of_ble_eq_true rfl) hCe10 ?_
            refine bf_iload 0 dX12_isSeen_105 rfl ?_
            obtain rfl := Option.some.inj hf
            exact bf_zret dX12_isSeen_107 rfl rfl (Nat.le_refl _) (Nat.le_refl _) ⟨rfl, rfl⟩
          · have hf := (if_pos c9).symm.trans hf
            refine bf_aload_n 3 dX12_isSeen_60 rfl rfl ?_
            refine bf_iload_n 2 dX12_isSeen_61 rfl rfl ?_
            obtain ⟨r13, e12, hf⟩ := bf_bind hf
            have hCe12 := ok_X12_tokens (Γ := Γ) (ad := ad) hk e12
            refine cv_X12_76 0 dX12_isSeen_62 rfl ⟨Nat.le_of_ble_eq_true rfl, Nat.le_of_ble_eq_true rfl⟩ (Nat.le_of_ble_eq_true rfl) hk hCe12 ?_
            refine bf_if_le 91 dX12_isSeen_65 (by decide) (fun c14 => ?_) (fun c14 => ?_)
            · have hf := (if_pos c14).symm.trans hf
              refine bf_iconst (v := 0) dX12_isSeen_91 (by decide) ?_
              refine bf_istore (lv2 := [(5, .int _), (4, .int _), (3, .int _), (2, .int _), (0, .ref _), (1, .int _)]) dX12_isSeen_92 (by decide) rfl ?_
              refine bf_aload_n 4 dX12_isSeen_94 rfl rfl ?_
              refine fg_X12_49 dX12_isSeen_95 rfl hk ?_
              refine bf_aload_n 4 dX12_isSeen_98 rfl rfl ?_
              refine fg_X12_11 dX12_isSeen_99 rfl hk ?_
              obtain ⟨r16, e15, hf⟩ := bf_bind hf
              have hCe15 := ok_X12_copies (Γ := Γ) (ad := ad) (kr_12_24 hk) (kr_12_0 hk) e15
              refine cv_X12_213 0 dX12_isSeen_102 rfl ⟨Nat.le_of_ble_eq_true rfl, Nat.le_of_ble_eq_true rfl⟩ (Nat.le_of_ble_eq_true rfl) hCe15 ?_
              refine bf_iload 0 dX12_isSeen_105 rfl ?_
              obtain rfl := Option.some.inj hf
              exact bf_zret dX12_isSeen_107 rfl rfl (Nat.le_refl _) (Nat.le_refl _) ⟨rfl, rfl⟩
            · have hf := (if_neg c14).symm.trans hf
              refine bf_aload_n 3 dX12_isSeen_68 rfl rfl ?_
              refine bf_iload_n 2 dX12_isSeen_69 rfl rfl ?_
              refine bf_aload_n 3 dX12_isSeen_70 rfl rfl ?_
              refine bf_iload_n 2 dX12_isSeen_71 rfl rfl ?_
              obtain ⟨r18, e17, hf⟩ := bf_bind hf
              have hCe17 := ok_X12_tokens (Γ := Γ) (ad := ad) hk e17
              refine cv_X12_76 0 dX12_isSeen_72 rfl ⟨Nat.le_of_ble_eq_true rfl, Nat.le_of_ble_eq_true rfl⟩ (Nat.le_of_ble_eq_true rfl) hk hCe17 ?_
              refine bf_iconst (v := 1) dX12_isSeen_75 (by decide) ?_
              refine bf_isub dX12_isSeen_76 ?_
              obtain ⟨r20, e19, hf⟩ := bf_bind hf
              have hCe19 := ok_X12_read (Γ := Γ) (ad := ad) hk e19
              refine cv_X12_273 2 dX12_isSeen_77 rfl ⟨Nat.le_of_ble_eq_true rfl, Nat.le_of_ble_eq_true rfl⟩ (Nat.le_of_ble_eq_true rfl) hk hCe19 ?_
              refine bf_iload 0 dX12_isSeen_80 rfl ?_
              refine bf_i2l dX12_isSeen_82 ?_
              refine bf_lcmp dX12_isSeen_83 ?_
              refine bf_if_ne 91 dX12_isSeen_84 (by decide) (fun c21 => ?_) (fun c21 => ?_)
              · have hf := (if_neg c21).symm.trans hf
                refine bf_iconst (v := 0) dX12_isSeen_91 (by decide) ?_
                refine bf_istore (lv2 := [(5, .int _), (4, .int _), (3, .int _), (2, .int _), (0, .ref _), (1, .int _)]) dX12_isSeen_92 (by decide) rfl ?_
                refine bf_aload_n 4 dX12_isSeen_94 rfl rfl ?_
                refine fg_X12_49 dX12_isSeen_95 rfl hk ?_
                refine bf_aload_n 4 dX12_isSeen_98 rfl rfl ?_
                refine fg_X12_11 dX12_isSeen_99 rfl hk ?_
                obtain ⟨r23, e22, hf⟩ := bf_bind hf
                have hCe22 := ok_X12_copies (Γ := Γ) (ad := ad) (kr_12_24 hk) (kr_12_0 hk) e22
                refine cv_X12_213 0 dX12_isSeen_102 rfl ⟨Nat.le_of_ble_eq_true rfl, Nat.le_of_ble_eq_true rfl⟩ (Nat.le_of_ble_eq_true rfl) hCe22 ?_
                refine bf_iload 0 dX12_isSeen_105 rfl ?_
                obtain rfl := Option.some.inj hf
                exact bf_zret dX12_isSeen_107 rfl rfl (Nat.le_refl _) (Nat.le_refl _) ⟨rfl, rfl⟩
              · have hf := (if_pos c21).symm.trans hf
                refine bf_iconst (v := 1) dX12_isSeen_87 (by decide) ?_
                refine bf_goto 92 dX12_isSeen_88 (by decide) ?_
                refine bf_istore (lv2 := [(5, .int _), (4, .int _), (3, .int _), (2, .int _), (0, .ref _), (1, .int _)]) dX12_isSeen_92 (by decide) rfl ?_
                refine bf_aload_n 4 dX12_isSeen_94 rfl rfl ?_
                refine fg_X12_49 dX12_isSeen_95 rfl hk ?_
                refine bf_aload_n 4 dX12_isSeen_98 rfl rfl ?_
                refine fg_X12_11 dX12_isSeen_99 rfl hk ?_
                obtain ⟨r25, e24, hf⟩ := bf_bind hf
                have hCe24 := ok_X12_copies (Γ := Γ) (ad := ad) (kr_12_24 hk) (kr_12_0 hk) e24
                refine cv_X12_213 0 dX12_isSeen_102 rfl ⟨Nat.le_of_ble_eq_true rfl, Nat.le_of_ble_eq_true rfl⟩ (Nat.le_of_ble_eq_true rfl) hCe24 ?_
                refine bf_iload 0 dX12_isSeen_105 rfl ?_
                obtain rfl := Option.some.inj hf
                exact bf_zret dX12_isSeen_107 rfl rfl (Nat.le_refl _) (Nat.le_refl _) ⟨rfl, rfl⟩
        · have hf := (if_pos c6).symm.trans hf
          refine bf_iconst (v := 0) dX12_isSeen_49 (by decide) ?_
          obtain rfl := Option.some.inj hf
          exact bf_zret dX12_isSeen_50 rfl rfl (Nat.le_refl _) (Nat.le_refl _) ⟨rfl, rfl⟩
      · exact absurd ((if_neg c3).symm.trans hf) (by simp)
    · exact absurd ((if_neg c2).symm.trans hf) (by simp)
  · exact absurd ((if_neg c1).symm.trans hf) (by simp)
def f_X12_fits_69 (v0 : Nat) (v1 : Int32) (v2 : Int32) (v3 : Int32) (v4 : Int32) (v5 : Int32) (v6 : Int32) (K : Int32 → (Nat → Nat → Int32) → (Nat → Nat → Int64) → Option (Int32 × bf_St)) : Nat → Int32 → Int32 → (Nat → Nat → Int32) → (Nat → Nat → Int64) → Option (Int32 × bf_St)
  | 0, _, _, _, _ => none
  | n + 1, v7, v8, I, L =>
    (if (I (v0 + 1) (2 : Int32).toNatClampNeg) ≤ v8 then (K v7 I L) else (if v7 = 0 then (K v7 I L) else ((f_X12_isSeen v0 v8 I L).bind (fun r13 => (f_X12_fits_69 v0 v1 v2 v3 v4 v5 v6 K n r13.1 (v8 + (1 : Int32)) r13.2.1 r13.2.2)))))
set_option maxRecDepth 100000 in
set_option maxHeartbeats 4000000 in
theorem ok_X12_fits_69 {Γ : bf_Gm} {ad : Nat → Nat} {v0 : Nat} {v1 : Int32} {v2 : Int32} {v3 : Int32} {v4 : Int32} {v5 : Int32} {v6 : Int32} (hv0 : bf_kd v0 = 12) {r : Int32 × bf_St} {K : Int32 → (Nat → Nat → Int32) → (Nat → Nat → Int64) → Option (Int32 × bf_St)} (hK : ∀ (v7 : Int32) (I : Nat → Nat → Int32) (L : Nat → Nat → Int64), K v7 I L = some r → bf_Go Γ (bf_rm 8 0 0) mu_X12_fits bf_E0 (bf_Z Γ (fun q h => q = some (.int r.1) ∧ h = bf_S ad r.2.1 r.2.2) 0 0) (0, 0) 99 [(0, .ref (ad v0)), (1, .int v1), (2, .int v2), (3, .int v3), (4, .int v4), (5, .int v5), (6, .int v6), (7, .int v7)] [] (bf_S ad I L)) : ∀ (n : Nat) (v7 : Int32) (v8 : Int32) (I : Nat → Nat → Int32) (L : Nat → Nat → Int64), f_X12_fits_69 v0 v1 v2 v3 v4 v5 v6 K n v7 v8 I L = some r → bf_Go Γ (bf_rm 8 0 0) mu_X12_fits bf_E0 (bf_Z Γ (fun q h => q = some (.int r.1) ∧ h = bf_S ad r.2.1 r.2.2) 0 0) (0, 0) 69 [(0, .ref (ad v0)), (1, .int v1), (2, .int v2), (3, .int v3), (4, .int v4), (5, .int v5), (6, .int v6), (7, .int v7), (8, .int v8)] [] (bf_S ad I L) := by
  intro n
  induction n with
  | zero => intro v7 v8 I L hf; exact absurd (show none = some r from hf) (by simp)
  | succ n ih =>
    intro v7 v8 I L hf
    rw [f_X12_fits_69] at hf
    refine bf_iload 8 dX12_fits_69 rfl ?_
    refine bf_aload_n 0 dX12_fits_71 rfl rfl ?_
    refine fg_X12_11 dX12_fits_72 rfl hv0 ?_
    refine bf_iconst (v := 2) dX12_fits_75 (by decide) ?_
    refine bf_iald dX12_fits_76 (kr_12_0 hv0) (by rw [(kl_12_0 hv0)]; decide) ?_
    refine bf_icmp_ge 99 dX12_fits_77 (by decide) (fun c10 => ?_) (fun c10 => ?_)
    · have hf := (if_pos c10).symm.trans hf
      refine bf_perm [0, 1, 2, 3, 4, 5, 6, 7] rfl ?_
      exact hK _ _ _ hf
    · have hf := (if_neg c10).symm.trans hf
      refine bf_iload 7 dX12_fits_80 rfl ?_
      refine bf_if_eq 99 dX12_fits_82 (by decide) (fun c11 => ?_) (fun c11 => ?_)
      · have hf := (if_pos c11).symm.trans hf
        refine bf_perm [0, 1, 2, 3, 4, 5, 6, 7] rfl ?_
        exact hK _ _ _ hf
      · have hf := (if_neg c11).symm.trans hf
        refine bf_aload_n 0 dX12_fits_85 rfl rfl ?_
        refine bf_iload 8 dX12_fits_86 rfl ?_
        obtain ⟨r13, e12, hf⟩ := bf_bind hf
        have hCe12 := ok_X12_isSeen (Γ := Γ) (ad := ad) hv0 e12
        refine cv_X12_277 7 dX12_fits_88 rfl ⟨Nat.le_of_ble_eq_true rfl, Nat.le_of_ble_eq_true rfl⟩ (Nat.le_of_ble_eq_true rfl) hv0 hCe12 ?_
        refine bf_istore (lv2 := [(7, .int _), (0, .ref _), (1, .int _), (2, .int _), (3, .int _), (4, .int _), (5, .int _), (6, .int _), (8, .int _)]) dX12_fits_91 (by decide) rfl ?_
        refine bf_iinc 8 (v := _ + (1 : Int32)) (lv2 := [(8, .int _), (7, .int _), (0, .ref _), (1, .int _), (2, .int _), (3, .int _), (4, .int _), (5, .int _), (6, .int _)]) dX12_fits_93 rfl (by rfl) (by decide) rfl ?_
        refine bf_goto 69 dX12_fits_96 (by decide) ?_
        refine bf_perm [2, 3, 4, 5, 6, 7, 8, 1, 0] rfl ?_
        exact ih _ _ _ _ hf
def f_X12_fits_44 (v0 : Nat) (v1 : Int32) (v2 : Int32) (v3 : Int32) (K : Int32 → Int32 → (Nat → Nat → Int32) → (Nat → Nat → Int64) → Option (Int32 × bf_St)) : Nat → Int32 → Int32 → Int32 → (Nat → Nat → Int32) → (Nat → Nat → Int64) → Option (Int32 × bf_St)
  | 0, _, _, _, _, _ => none
  | n + 1, v4, v5, v6, I, L =>
    (if v6 < 0 then (K v4 v5 I L) else (if bf_ok (((5 : Int32) + ((3 : Int32) * v1)) + (1 : Int32)) 914 then (f_X12_fits_69 v0 v1 v2 v3 v4 v5 v6 (fun k7_14 I14 L14 => (if k7_14 = 0 then (if k7_14 = 0 then (f_X12_fits_44 v0 v1 v2 v3 K n (v4 + (0 : Int32)) v5 (v6 + (-1 : Int32)) I14 L14) else (f_X12_fits_44 v0 v1 v2 v3 K n (v4 + (0 : Int32)) v6 (v6 + (-1 : Int32)) I14 L14)) else (if k7_14 = 0 then (f_X12_fits_44 v0 v1 v2 v3 K n (v4 + (1 : Int32)) v5 (v6 + (-1 : Int32)) I14 L14) else (f_X12_fits_44 v0 v1 v2 v3 K n (v4 + (1 : Int32)) v6 (v6 + (-1 : Int32)) I14 L14)))) 400 (1 : Int32) (0 : Int32) (bf_u I (v0 + 1) (((5 : Int32) + ((3 : Int32) * v1)) + (1 : Int32)).toNatClampNeg v6) L) else none))
set_option maxRecDepth 100000 in
set_option maxHeartbeats 4000000 in
theorem ok_X12_fits_44 {Γ : bf_Gm} {ad : Nat → Nat} {v0 : Nat} {v1 : Int32} {v2 : Int32} {v3 : Int32} (hv0 : bf_kd v0 = 12) {r : Int32 × bf_St} {K : Int32 → Int32 → (Nat → Nat → Int32) → (Nat → Nat → Int64) → Option (Int32 × bf_St)} (hK : ∀ (v4 : Int32) (v5 : Int32) (I : Nat → Nat → Int32) (L : Nat → Nat → Int64), K v4 v5 I L = some r → bf_Go Γ (bf_rm 8 0 0) mu_X12_fits bf_E0 (bf_Z Γ (fun q h => q = some (.int r.1) ∧ h = bf_S ad r.2.1 r.2.2) 0 0) (0, 0) 134 [(0, .ref (ad v0)), (1, .int v1), (2, .int v2), (3, .int v3), (4, .int v4), (5, .int v5)] [] (bf_S ad I L)) : ∀ (n : Nat) (v4 : Int32) (v5 : Int32) (v6 : Int32) (I : Nat → Nat → Int32) (L : Nat → Nat → Int64), f_X12_fits_44 v0 v1 v2 v3 K n v4 v5 v6 I L = some r → bf_Go Γ (bf_rm 8 0 0) mu_X12_fits bf_E0 (bf_Z Γ (fun q h => q = some (.int r.1) ∧ h = bf_S ad r.2.1 r.2.2) 0 0) (0, 0) 44 [(0, .ref (ad v0)), (1, .int v1), (2, .int v2), (3, .int v3), (4, .int v4), (5, .int v5), (6, .int v6)] [] (bf_S ad I L) := by
  intro n
  induction n with
  | zero => intro v4 v5 v6 I L hf; exact absurd (show none = some r from hf) (by simp)
  | succ n ih =>
    intro v4 v5 v6 I L hf
    rw [f_X12_fits_44] at hf
    refine bf_iload 6 dX12_fits_44 rfl ?_
    refine bf_if_lt 134 dX12_fits_46 (by decide) (fun c8 => ?_) (fun c8 => ?_)
    · have hf := (if_pos c8).symm.trans hf
      refine bf_perm [0, 1, 2, 3, 4, 5] rfl ?_
      exact hK _ _ _ _ hf
    · have hf := (if_neg c8).symm.trans hf
      refine bf_aload_n 0 dX12_fits_49 rfl rfl ?_
      refine fg_X12_11 dX12_fits_50 rfl hv0 ?_
      refine bf_iconst (v := 5) dX12_fits_53 (by decide) ?_
      refine bf_iconst (v := 3) dX12_fits_54 (by decide) ?_
      refine bf_iload_n 1 dX12_fits_55 rfl rfl ?_
      refine bf_imul dX12_fits_56 ?_
      refine bf_iadd dX12_fits_57 ?_
      refine bf_iconst (v := 1) dX12_fits_58 (by decide) ?_
      refine bf_iadd dX12_fits_59 ?_
      refine bf_iload 6 dX12_fits_60 rfl ?_
      rcases Decidable.em (bf_ok (((5 : Int32) + ((3 : Int32) * v1)) + (1 : Int32)) 914) with c9 | c9
      · have hf := (if_pos c9).symm.trans hf
        refine bf_iast dX12_fits_62 (kr_12_0 hv0) (by rw [(kl_12_0 hv0)]; exact c9) ?_
        refine bf_iconst (v := 1) dX12_fits_63 (by decide) ?_
        refine bf_istore (lv2 := [(7, .int _), (0, .ref _), (1, .int _), (2, .int _), (3, .int _), (4, .int _), (5, .int _), (6, .int _)]) dX12_fits_64 (by decide) rfl ?_
        refine bf_iconst (v := 0) dX12_fits_66 (by decide) ?_
        refine bf_istore (lv2 := [(8, .int _), (7, .int _), (0, .ref _), (1, .int _), (2, .int _), (3, .int _), (4, .int _), (5, .int _), (6, .int _)]) dX12_fits_67 (by decide) rfl ?_
        refine bf_perm [2, 3, 4, 5, 6, 7, 8, 1, 0] rfl ?_
        refine ok_X12_fits_69 hv0 (fun k7_14 I14 L14 hf => ?_) _ _ _ _ _  hf
        refine bf_iload 4 dX12_fits_99 rfl ?_
        refine bf_iload 7 dX12_fits_101 rfl ?_
        refine bf_if_eq 110 dX12_fits_103 (by decide) (fun c15 => ?_) (fun c15 => ?_)
        · have hf := (if_pos c15).symm.trans hf
          refine bf_iconst (v := 0) dX12_fits_110 (by decide) ?_
          refine bf_iadd dX12_fits_111 ?_
          refine bf_istore (lv2 := [(4, .int _), (0, .ref _), (1, .int _), (2, .int _), (3, .int _), (5, .int _), (6, .int _), (7, .int _)]) dX12_fits_112 (by decide) rfl ?_
          refine bf_iload 7 dX12_fits_114 rfl ?_
          refine bf_if_eq 124 dX12_fits_116 (by decide) (fun c16 => ?_) (fun c16 => ?_)
          · have hf := (if_pos c16).symm.trans hf
            refine bf_iload 5 dX12_fits_124 rfl ?_
            refine bf_istore (lv2 := [(5, .int _), (4, .int _), (0, .ref _), (1, .int _), (2, .int _), (3, .int _), (6, .int _), (7, .int _)]) dX12_fits_126 (by decide) rfl ?_
            refine bf_iinc 6 (v := _ + (-1 : Int32)) (lv2 := [(6, .int _), (5, .int _), (4, .int _), (0, .ref _), (1, .int _), (2, .int _), (3, .int _), (7, .int _)]) dX12_fits_128 rfl (by rfl) (by decide) rfl ?_
            refine bf_goto 44 dX12_fits_131 (by decide) ?_
            refine bf_perm [3, 4, 5, 6, 2, 1, 0] rfl ?_
            exact ih _ _ _ _ _ hf
          · have hf := (if_neg c16).symm.trans hf
            refine bf_iload 6 dX12_fits_119 rfl ?_
            refine bf_goto 126 dX12_fits_121 (by decide) ?_
            refine bf_istore (lv2 := [(5, .int _), (4, .int _), (0, .ref _), (1, .int _), (2, .int _), (3, .int _), (6, .int _), (7, .int _)]) dX12_fits_126 (by decide) rfl ?_
            refine bf_iinc 6 (v := _ + (-1 : Int32)) (lv2 := [(6, .int _), (5, .int _), (4, .int _), (0, .ref _), (1, .int _), (2, .int _), (3, .int _), (7, .int _)]) dX12_fits_128 rfl (by rfl) (by decide) rfl ?_
            refine bf_goto 44 dX12_fits_131 (by decide) ?_
            refine bf_perm [3, 4, 5, 6, 2, 1, 0] rfl ?_
            exact ih _ _ _ _ _ hf
        · have hf := (if_neg c15).symm.trans hf
          refine bf_iconst (v := 1) dX12_fits_106 (by decide) ?_
          refine bf_goto 111 dX12_fits_107 (by decide) ?_
          refine bf_iadd dX12_fits_111 ?_
          refine bf_istore (lv2 := [(4, .int _), (0, .ref _), (1, .int _), (2, .int _), (3, .int _), (5, .int _), (6, .int _), (7, .int _)]) dX12_fits_112 (by decide) rfl ?_
          refine bf_iload 7 dX12_fits_114 rfl ?_
          refine bf_if_eq 124 dX12_fits_116 (by decide) (fun c17 => ?_) (fun c17 => ?_)
          · have hf := (if_pos c17).symm.trans hf
            refine bf_iload 5 dX12_fits_124 rfl ?_
            refine bf_istore (lv2 := [(5, .int _), (4, .int _), (0, .ref _), (1, .int _), (2, .int _), (3, .int _), (6, .int _), (7, .int _)]) dX12_fits_126 (by decide) rfl ?_
            refine bf_iinc 6 (v := _ + (-1 : Int32)) (lv2 := [(6, .int _), (5, .int _), (4, .int _), (0, .ref _), (1, .int _), (2, .int _), (3, .int _), (7, .int _)]) dX12_fits_128 rfl (by rfl) (by decide) rfl ?_
            refine bf_goto 44 dX12_fits_131 (by decide) ?_
            refine bf_perm [3, 4, 5, 6, 2, 1, 0] rfl ?_
            exact ih _ _ _ _ _ hf
          · have hf := (if_neg c17).symm.trans hf
            refine bf_iload 6 dX12_fits_119 rfl ?_
            refine bf_goto 126 dX12_fits_121 (by decide) ?_
            refine bf_istore (lv2 := [(5, .int _), (4, .int _), (0, .ref _), (1, .int _), (2, .int _), (3, .int _), (6, .int _), (7, .int _)]) dX12_fits_126 (by decide) rfl ?_
            refine bf_iinc 6 (v := _ + (-1 : Int32)) (lv2 := [(6, .int _), (5, .int _), (4, .int _), (0, .ref _), (1, .int _), (2, .int _), (3, .int _), (7, .int _)]) dX12_fits_128 rfl (by rfl) (by decide) rfl ?_
            refine bf_goto 44 dX12_fits_131 (by decide) ?_
            refine bf_perm [3, 4, 5, 6, 2, 1, 0] rfl ?_
            exact ih _ _ _ _ _ hf
      · exact absurd ((if_neg c9).symm.trans hf) (by simp)
def f_X12_fits_p134 (v0 : Nat) (v1 : Int32) (v2 : Int32) (v3 : Int32) (v4 : Int32) (v5 : Int32) (I : Nat → Nat → Int32) (L : Nat → Nat → Int64) : Option (Int32 × bf_St) :=
  (if bf_ok (((5 : Int32) + ((3 : Int32) * v1)) + (1 : Int32)) 914 then (if v2 = 0 then (some (v4, (bf_u I (v0 + 1) (((5 : Int32) + ((3 : Int32) * v1)) + (1 : Int32)).toNatClampNeg v3), L)) else (some (v5, (bf_u I (v0 + 1) (((5 : Int32) + ((3 : Int32) * v1)) + (1 : Int32)).toNatClampNeg v3), L))) else none)
set_option maxRecDepth 100000 in
set_option maxHeartbeats 4000000 in
theorem ok_X12_fits_p134 {Γ : bf_Gm} {ad : Nat → Nat} {v0 : Nat} {v1 : Int32} {v2 : Int32} {v3 : Int32} {v4 : Int32} {v5 : Int32} {I : Nat → Nat → Int32} {L : Nat → Nat → Int64} (hv0 : bf_kd v0 = 12) {r : Int32 × bf_St} (hf : f_X12_fits_p134 v0 v1 v2 v3 v4 v5 I L = some r) : bf_Go Γ (bf_rm 8 0 0) mu_X12_fits bf_E0 (bf_Z Γ (fun q h => q = some (.int r.1) ∧ h = bf_S ad r.2.1 r.2.2) 0 0) (0, 0) 134 [(0, .ref (ad v0)), (1, .int v1), (2, .int v2), (3, .int v3), (4, .int v4), (5, .int v5)] [] (bf_S ad I L) := by
  unfold f_X12_fits_p134 at hf
  refine bf_aload_n 0 dX12_fits_134 rfl rfl ?_
  refine fg_X12_11 dX12_fits_135 rfl hv0 ?_
  refine bf_iconst (v := 5) dX12_fits_138 (by decide) ?_
  refine bf_iconst (v := 3) dX12_fits_139 (by decide) ?_
  refine bf_iload_n 1 dX12_fits_140 rfl rfl ?_
  refine bf_imul dX12_fits_141 ?_
  refine bf_iadd dX12_fits_142 ?_
  refine bf_iconst (v := 1) dX12_fits_143 (by decide) ?_
  refine bf_iadd dX12_fits_144 ?_
  refine bf_iload_n 3 dX12_fits_145 rfl rfl ?_
  rcases Decidable.em (bf_ok (((5 : Int32) + ((3 : Int32) * v1)) + (1 : Int32)) 914) with c19 | c19
  · have hf := (if_pos c19).symm.trans hf
    refine bf_iast dX12_fits_146 (kr_12_0 hv0) (by rw [(kl_12_0 hv0)]; exact c19) ?_
    refine bf_iload_n 2 dX12_fits_147 rfl rfl ?_
    refine bf_if_ne 156 dX12_fits_148 (by decide) (fun c20 => ?_) (fun c20 => ?_)
    · have hf := (if_neg c20).symm.trans hf
      refine bf_iload 5 dX12_fits_156 rfl ?_
      obtain rfl := Option.some.inj hf
      exact bf_iret dX12_fits_158 rfl (Nat.le_refl _) (Nat.le_refl _) ⟨rfl, rfl⟩
    · have hf := (if_pos c20).symm.trans hf
      refine bf_iload 4 dX12_fits_151 rfl ?_
      refine bf_goto 158 dX12_fits_153 (by decide) ?_
      obtain rfl := Option.some.inj hf
      exact bf_iret dX12_fits_158 rfl (Nat.le_refl _) (Nat.le_refl _) ⟨rfl, rfl⟩
  · exact absurd ((if_neg c19).symm.trans hf) (by simp)
def f_X12_fits (o : Nat) (a0 : Int32) (a1 : Int32) (I : Nat → Nat → Int32) (L : Nat → Nat → Int64) : Option (Int32 × bf_St) :=
  ((f_X12_isBox o a0 I L).bind (fun r2 => (if r2.1 = 0 then (some ((-1 : Int32), r2.2.1, r2.2.2)) else ((f_X12_in (a1).toInt64 (0 : Int64) (1 : Int64) r2.2.1 r2.2.2).bind (fun r5 => (if r5.1 = 0 then (some ((-1 : Int32), r5.2.1, r5.2.2)) else (if bf_ok (((5 : Int32) + ((3 : Int32) * a0)) + (1 : Int32)) 914 then (f_X12_fits_44 o a0 a1 (r5.2.1 (o + 1) (((5 : Int32) + ((3 : Int32) * a0)) + (1 : Int32)).toNatClampNeg) (fun k4_18 k5_18 I18 L18 => (f_X12_fits_p134 o a0 a1 (r5.2.1 (o + 1) (((5 : Int32) + ((3 : Int32) * a0)) + (1 : Int32)).toNatClampNeg) k4_18 k5_18 I18 L18)) 400 (0 : Int32) (-5 : Int32) (9 : Int32) r5.2.1 r5.2.2) else none)))))))
set_option maxRecDepth 100000 in
set_option maxHeartbeats 4000000 in
theorem ok_X12_fits {Γ : bf_Gm} {ad : Nat → Nat} {o : Nat} {a0 : Int32} {a1 : Int32} {I : Nat → Nat → Int32} {L : Nat → Nat → Int64} (hk : bf_kd o = 12) {r : Int32 × bf_St} (hf : f_X12_fits o a0 a1 I L = some r) : bf_Cn Γ 8 mu_X12_fits 0 0 [.ref (ad o), .int a0, .int a1] (bf_S ad I L) (fun q h => q = some (.int r.1) ∧ h = bf_S ad r.2.1 r.2.2) := by
  refine bf_met rfl (Nat.le_of_ble_eq_true rfl) ?_
  unfold f_X12_fits at hf
  refine bf_aload_n 0 dX12_fits_0 rfl rfl ?_
  refine bf_iload_n 1 dX12_fits_1 rfl rfl ?_
  obtain ⟨r2, e1, hf⟩ := bf_bind hf
  have hCe1 := ok_X12_isBox (Γ := Γ) (ad := ad) hk e1
  refine cv_X12_69 1 dX12_fits_2 rfl ⟨Nat.le_of_ble_eq_true rfl, Nat.le_of_ble_eq_true rfl⟩ (Nat.le_of_ble_eq_true rfl) hk hCe1 ?_
  refine bf_if_eq 18 dX12_fits_5 (by decide) (fun c3 => ?_) (fun c3 => ?_)
  · have hf := (if_pos c3).symm.trans hf
    refine bf_iconst (v := -1) dX12_fits_18 (by decide) ?_
    obtain rfl := Option.some.inj hf
    exact bf_iret dX12_fits_19 rfl (Nat.le_refl _) (Nat.le_refl _) ⟨rfl, rfl⟩
  · have hf := (if_neg c3).symm.trans hf
    refine bf_iload_n 2 dX12_fits_8 rfl rfl ?_
    refine bf_i2l dX12_fits_9 ?_
    refine bf_lconst (v := 0) dX12_fits_10 (by decide) ?_
    refine bf_lconst (v := 1) dX12_fits_11 (by decide) ?_
    obtain ⟨r5, e4, hf⟩ := bf_bind hf
    have hCe4 := ok_X12_in (Γ := Γ) (ad := ad)  e4
    refine cv_X12_61 0 dX12_fits_12 rfl ⟨Nat.le_of_ble_eq_true rfl, Nat.le_of_ble_eq_true rfl⟩ (Nat.le_of_ble_eq_true rfl) hCe4 ?_
    refine bf_if_ne 20 dX12_fits_15 (by decide) (fun c6 => ?_) (fun c6 => ?_)
    · have hf := (if_neg c6).symm.trans hf
      refine bf_aload_n 0 dX12_fits_20 rfl rfl ?_
      refine fg_X12_11 dX12_fits_21 rfl hk ?_
      refine bf_iconst (v := 5) dX12_fits_24 (by decide) ?_
      refine bf_iconst (v := 3) dX12_fits_25 (by decide) ?_
      refine bf_iload_n 1 dX12_fits_26 rfl rfl ?_
      refine bf_imul dX12_fits_27 ?_
      refine bf_iadd dX12_fits_28 ?_
      refine bf_iconst (v := 1) dX12_fits_29 (by decide) ?_
      refine bf_iadd dX12_fits_30 ?_
      rcases Decidable.em (bf_ok (((5 : Int32) + ((3 : Int32) * a0)) + (1 : Int32)) 914) with c7 | c7
      · have hf := (if_pos c7).symm.trans hf
        refine bf_iald dX12_fits_31 (kr_12_0 hk) (by rw [(kl_12_0 hk)]; exact c7) ?_
        refine bf_istore_n (lv2 := [(3, .int _), (0, .ref _), (1, .int _), (2, .int _)]) dX12_fits_32 rfl (by decide) rfl ?_
        refine bf_iconst (v := 0) dX12_fits_33 (by decide) ?_
        refine bf_istore (lv2 := [(4, .int _), (3, .int _), (0, .ref _), (1, .int _), (2, .int _)]) dX12_fits_34 (by decide) rfl ?_
        refine bf_bipush (v := -5) dX12_fits_36 (by decide) ?_
        refine bf_istore (lv2 := [(5, .int _), (4, .int _), (3, .int _), (0, .ref _), (1, .int _), (2, .int _)]) dX12_fits_38 (by decide) rfl ?_
        refine bf_bipush (v := 9) dX12_fits_40 (by decide) ?_
        refine bf_istore (lv2 := [(6, .int _), (5, .int _), (4, .int _), (3, .int _), (0, .ref _), (1, .int _), (2, .int _)]) dX12_fits_42 (by decide) rfl ?_
        refine bf_perm [4, 5, 6, 3, 2, 1, 0] rfl ?_
        refine ok_X12_fits_44 hk (fun k4_18 k5_18 I18 L18 hf => ?_) _ _ _ _ _ _  hf
        exact ok_X12_fits_p134 hk  hf
      · exact absurd ((if_neg c7).symm.trans hf) (by simp)
    · have hf := (if_pos c6).symm.trans hf
      refine bf_iconst (v := -1) dX12_fits_18 (by decide) ?_
      obtain rfl := Option.some.inj hf
      exact bf_iret dX12_fits_19 rfl (Nat.le_refl _) (Nat.le_refl _) ⟨rfl, rfl⟩
def f_X12_lowest_p12 (v0 : Int64) (v2 : Int64) (v4 : Int32) (s0 : Int64) (I : Nat → Nat → Int32) (L : Nat → Nat → Int64) : Option (Int64 × bf_St) :=
  ((f_X12_common s0 v2 I L).bind (fun r3 => (if v4 = 0 then (if r3.1 = 0 then none else (some ((v0 / r3.1), r3.2.1, r3.2.2))) else (if r3.1 = 0 then none else (some ((v2 / r3.1), r3.2.1, r3.2.2))))))
set_option maxRecDepth 100000 in
set_option maxHeartbeats 4000000 in
theorem ok_X12_lowest_p12 {Γ : bf_Gm} {ad : Nat → Nat} {v0 : Int64} {v2 : Int64} {v4 : Int32} {s0 : Int64} {I : Nat → Nat → Int32} {L : Nat → Nat → Int64} {r : Int64 × bf_St} (hf : f_X12_lowest_p12 v0 v2 v4 s0 I L = some r) : bf_Go Γ (bf_rm 1 0 0) mu_X12_lowest bf_E0 (bf_Z Γ (fun q h => q = some (.long r.1) ∧ h = bf_S ad r.2.1 r.2.2) 0 0) (0, 0) 12 [(0, .long v0), (2, .long v2), (4, .int v4)] [.long s0] (bf_S ad I L) := by
  unfold f_X12_lowest_p12 at hf
  refine bf_lload_n 1 dX12_lowest_12 rfl rfl ?_
  obtain ⟨r3, e2, hf⟩ := bf_bind hf
  have hCe2 := ok_X12_common (Γ := Γ) (ad := ad)  e2
  refine cv_X12_171 0 dX12_lowest_13 rfl ⟨Nat.le_of_ble_eq_true rfl, Nat.le_of_ble_eq_true rfl⟩ (Nat.le_of_ble_eq_true rfl) hCe2 ?_
  refine bf_lstore (lv2 := [(5, .long _), (0, .long _), (2, .long _), (4, .int _)]) dX12_lowest_16 (by decide) rfl ?_
  refine bf_iload 3 dX12_lowest_18 rfl ?_
  refine bf_if_ne 27 dX12_lowest_20 (by decide) (fun c4 => ?_) (fun c4 => ?_)
  · have hf := (if_neg c4).symm.trans hf
    refine bf_lload_n 2 dX12_lowest_27 rfl rfl ?_
    refine bf_lload 0 dX12_lowest_28 rfl ?_
    rcases Decidable.em (r3.1 = 0) with c5 | c5
    · exact absurd ((if_pos c5).symm.trans hf) (by simp)
    · have hf := (if_neg c5).symm.trans hf
      refine bf_ldiv dX12_lowest_30 c5 ?_
      obtain rfl := Option.some.inj hf
      exact bf_lret dX12_lowest_31 rfl (Nat.le_refl _) (Nat.le_refl _) ⟨rfl, rfl⟩
  · have hf := (if_pos c4).symm.trans hf
    refine bf_lload_n 1 dX12_lowest_23 rfl rfl ?_
    refine bf_goto 28 dX12_lowest_24 (by decide) ?_
    refine bf_lload 0 dX12_lowest_28 rfl ?_
    rcases Decidable.em (r3.1 = 0) with c6 | c6
    · exact absurd ((if_pos c6).symm.trans hf) (by simp)
    · have hf := (if_neg c6).symm.trans hf
      refine bf_ldiv dX12_lowest_30 c6 ?_
      obtain rfl := Option.some.inj hf
      exact bf_lret dX12_lowest_31 rfl (Nat.le_refl _) (Nat.le_refl _) ⟨rfl, rfl⟩
def f_X12_lowest (a0 : Int64) (a1 : Int64) (a2 : Int32) (I : Nat → Nat → Int32) (L : Nat → Nat → Int64) : Option (Int64 × bf_St) :=
  (if 0 ≤ (lg_cmp a0 (0 : Int64)) then (f_X12_lowest_p12 a0 a1 a2 a0 I L) else (f_X12_lowest_p12 a0 a1 a2 (-a0) I L))
set_option maxRecDepth 100000 in
set_option maxHeartbeats 4000000 in
theorem ok_X12_lowest {Γ : bf_Gm} {ad : Nat → Nat} {a0 : Int64} {a1 : Int64} {a2 : Int32} {I : Nat → Nat → Int32} {L : Nat → Nat → Int64} {r : Int64 × bf_St} (hf : f_X12_lowest a0 a1 a2 I L = some r) : bf_Cn Γ 1 mu_X12_lowest 0 0 [.long a0, .long a1, .int a2] (bf_S ad I L) (fun q h => q = some (.long r.1) ∧ h = bf_S ad r.2.1 r.2.2) := by
  refine bf_met rfl (Nat.le_of_ble_eq_true rfl) ?_
  unfold f_X12_lowest at hf
  refine bf_lload_n 0 dX12_lowest_0 rfl rfl ?_
  refine bf_lconst (v := 0) dX12_lowest_1 (by decide) ?_
  refine bf_lcmp dX12_lowest_2 ?_
  refine bf_if_ge 11 dX12_lowest_3 (by decide) (fun c1 => ?_) (fun c1 => ?_)
  · have hf := (if_pos c1).symm.trans hf
    refine bf_lload_n 0 dX12_lowest_11 rfl rfl ?_
    exact ok_X12_lowest_p12   hf
  · have hf := (if_neg c1).symm.trans hf
    refine bf_lload_n 0 dX12_lowest_6 rfl rfl ?_
    refine bf_lneg dX12_lowest_7 ?_
    refine bf_goto 12 dX12_lowest_8 (by decide) ?_
    exact ok_X12_lowest_p12   hf
def f_X12_odds_33 (v0 : Nat) (v1 : Int32) (v2 : Int32) (v5 : Int32) (K : Int64 → (Nat → Nat → Int32) → (Nat → Nat → Int64) → Option (Int64 × bf_St)) : Nat → Int64 → Int32 → (Nat → Nat → Int32) → (Nat → Nat → Int64) → Option (Int64 × bf_St)
  | 0, _, _, _, _ => none
  | n + 1, v3, v6, I, L =>
    (if (10 : Int32) ≤ v6 then (K v3 I L) else (if v5 = 0 then (K v3 I L) else ((f_X12_goesWith v0 v1 v6 I L).bind (fun r12 => (if r12.1 = 0 then (f_X12_odds_33 v0 v1 v2 v5 K n (v3 + (0 : Int64)) (v6 + (1 : Int32)) r12.2.1 r12.2.2) else (f_X12_odds_33 v0 v1 v2 v5 K n (v3 + (1 : Int64)) (v6 + (1 : Int32)) r12.2.1 r12.2.2))))))
set_option maxRecDepth 100000 in
set_option maxHeartbeats 4000000 in
theorem ok_X12_odds_33 {Γ : bf_Gm} {ad : Nat → Nat} {v0 : Nat} {v1 : Int32} {v2 : Int32} {v5 : Int32} (hv0 : bf_kd v0 = 12) {r : Int64 × bf_St} {K : Int64 → (Nat → Nat → Int32) → (Nat → Nat → Int64) → Option (Int64 × bf_St)} (hK : ∀ (v3 : Int64) (I : Nat → Nat → Int32) (L : Nat → Nat → Int64), K v3 I L = some r → bf_Go Γ (bf_rm 6 0 0) mu_X12_odds bf_E0 (bf_Z Γ (fun q h => q = some (.long r.1) ∧ h = bf_S ad r.2.1 r.2.2) 0 0) (0, 0) 69 [(2, .int v2), (3, .long v3)] [] (bf_S ad I L)) : ∀ (n : Nat) (v3 : Int64) (v6 : Int32) (I : Nat → Nat → Int32) (L : Nat → Nat → Int64), f_X12_odds_33 v0 v1 v2 v5 K n v3 v6 I L = some r → bf_Go Γ (bf_rm 6 0 0) mu_X12_odds bf_E0 (bf_Z Γ (fun q h => q = some (.long r.1) ∧ h = bf_S ad r.2.1 r.2.2) 0 0) (0, 0) 33 [(0, .ref (ad v0)), (1, .int v1), (2, .int v2), (3, .long v3), (5, .int v5), (6, .int v6)] [] (bf_S ad I L) := by
  intro n
  induction n with
  | zero => intro v3 v6 I L hf; exact absurd (show none = some r from hf) (by simp)
  | succ n ih =>
    intro v3 v6 I L hf
    rw [f_X12_odds_33] at hf
    refine bf_iload 5 dX12_odds_33 rfl ?_
    refine bf_bipush (v := 10) dX12_odds_35 (by decide) ?_
    refine bf_icmp_ge 69 dX12_odds_37 (by decide) (fun c9 => ?_) (fun c9 => ?_)
    · have hf := (if_pos c9).symm.trans hf
      refine bf_perm [2, 3] rfl ?_
      exact hK _ _ _ hf
    · have hf := (if_neg c9).symm.trans hf
      refine bf_iload 4 dX12_odds_40 rfl ?_
      refine bf_if_eq 69 dX12_odds_42 (by decide) (fun c10 => ?_) (fun c10 => ?_)
      · have hf := (if_pos c10).symm.trans hf
        refine bf_perm [2, 3] rfl ?_
        exact hK _ _ _ hf
      · have hf := (if_neg c10).symm.trans hf
        refine bf_lload_n 3 dX12_odds_45 rfl rfl ?_
        refine bf_aload_n 0 dX12_odds_46 rfl rfl ?_
        refine bf_iload_n 1 dX12_odds_47 rfl rfl ?_
        refine bf_iload 5 dX12_odds_48 rfl ?_
        obtain ⟨r12, e11, hf⟩ := bf_bind hf
        have hCe11 := ok_X12_goesWith (Γ := Γ) (ad := ad) hv0 e11
        refine cv_X12_261 5 dX12_odds_50 rfl ⟨Nat.le_of_ble_eq_true rfl, Nat.le_of_ble_eq_true rfl⟩ (Nat.le_of_ble_eq_true rfl) hv0 hCe11 ?_
        refine bf_if_eq 60 dX12_odds_53 (by decide) (fun c13 => ?_) (fun c13 => ?_)
        · have hf := (if_pos c13).symm.trans hf
          refine bf_lconst (v := 0) dX12_odds_60 (by decide) ?_
          refine bf_ladd dX12_odds_61 ?_
          refine bf_lstore_n (lv2 := [(3, .long _), (0, .ref _), (1, .int _), (2, .int _), (5, .int _), (6, .int _)]) dX12_odds_62 rfl (by decide) rfl ?_
          refine bf_iinc 5 (v := _ + (1 : Int32)) (lv2 := [(6, .int _), (3, .long _), (0, .ref _), (1, .int _), (2, .int _), (5, .int _)]) dX12_odds_63 rfl (by rfl) (by decide) rfl ?_
          refine bf_goto 33 dX12_odds_66 (by decide) ?_
          refine bf_perm [2, 3, 4, 1, 5, 0] rfl ?_
          exact ih _ _ _ _ hf
        · have hf := (if_neg c13).symm.trans hf
          refine bf_lconst (v := 1) dX12_odds_56 (by decide) ?_
          refine bf_goto 61 dX12_odds_57 (by decide) ?_
          refine bf_ladd dX12_odds_61 ?_
          refine bf_lstore_n (lv2 := [(3, .long _), (0, .ref _), (1, .int _), (2, .int _), (5, .int _), (6, .int _)]) dX12_odds_62 rfl (by decide) rfl ?_
          refine bf_iinc 5 (v := _ + (1 : Int32)) (lv2 := [(6, .int _), (3, .long _), (0, .ref _), (1, .int _), (2, .int _), (5, .int _)]) dX12_odds_63 rfl (by rfl) (by decide) rfl ?_
          refine bf_goto 33 dX12_odds_66 (by decide) ?_
          refine bf_perm [2, 3, 4, 1, 5, 0] rfl ?_
          exact ih _ _ _ _ hf
def f_X12_odds (o : Nat) (a0 : Int32) (a1 : Int32) (I : Nat → Nat → Int32) (L : Nat → Nat → Int64) : Option (Int64 × bf_St) :=
  ((f_X12_isWire o a0 I L).bind (fun r2 => (if r2.1 = 0 then (some ((-9223372036854775808 : Int64), r2.2.1, r2.2.2)) else ((f_X12_in (a1).toInt64 (0 : Int64) (1 : Int64) r2.2.1 r2.2.2).bind (fun r5 => (if r5.1 = 0 then (some ((-9223372036854775808 : Int64), r5.2.1, r5.2.2)) else ((f_X12_isEven o r5.2.1 r5.2.2).bind (fun r8 => (f_X12_odds_33 o a0 a1 r8.1 (fun k3_14 I14 L14 => ((f_X12_lowest k3_14 (10 : Int64) a1 I14 L14).bind (fun r16 => (some (r16.1, r16.2.1, r16.2.2))))) 400 (0 : Int64) (0 : Int32) r8.2.1 r8.2.2)))))))))
set_option maxRecDepth 100000 in
set_option maxHeartbeats 4000000 in
theorem ok_X12_odds {Γ : bf_Gm} {ad : Nat → Nat} {o : Nat} {a0 : Int32} {a1 : Int32} {I : Nat → Nat → Int32} {L : Nat → Nat → Int64} (hk : bf_kd o = 12) {r : Int64 × bf_St} (hf : f_X12_odds o a0 a1 I L = some r) : bf_Cn Γ 6 mu_X12_odds 0 0 [.ref (ad o), .int a0, .int a1] (bf_S ad I L) (fun q h => q = some (.long r.1) ∧ h = bf_S ad r.2.1 r.2.2) := by
  refine bf_met rfl (Nat.le_of_ble_eq_true rfl) ?_
  unfold f_X12_odds at hf
  refine bf_aload_n 0 dX12_odds_0 rfl rfl ?_
  refine bf_iload_n 1 dX12_odds_1 rfl rfl ?_
  obtain ⟨r2, e1, hf⟩ := bf_bind hf
  have hCe1 := ok_X12_isWire (Γ := Γ) (ad := ad) hk e1
  refine cv_X12_73 1 dX12_odds_2 rfl ⟨Nat.le_of_ble_eq_true rfl, Nat.le_of_ble_eq_true rfl⟩ (Nat.le_of_ble_eq_true rfl) hk hCe1 ?_
  refine bf_if_eq 18 dX12_odds_5 (by decide) (fun c3 => ?_) (fun c3 => ?_)
  · have hf := (if_pos c3).symm.trans hf
    refine bf_ldc2 dX12_odds_18 wk_X12_169 ?_
    obtain rfl := Option.some.inj hf
    exact bf_lret dX12_odds_21 rfl (Nat.le_refl _) (Nat.le_refl _) ⟨rfl, rfl⟩
  · have hf := (if_neg c3).symm.trans hf
    refine bf_iload_n 2 dX12_odds_8 rfl rfl ?_
    refine bf_i2l dX12_odds_9 ?_
    refine bf_lconst (v := 0) dX12_odds_10 (by decide) ?_
    refine bf_lconst (v := 1) dX12_odds_11 (by decide) ?_
    obtain ⟨r5, e4, hf⟩ := bf_bind hf
    have hCe4 := ok_X12_in (Γ := Γ) (ad := ad)  e4
    refine cv_X12_61 0 dX12_odds_12 rfl ⟨Nat.le_of_ble_eq_true rfl, Nat.le_of_ble_eq_true rfl⟩ (Nat.le_of_ble_eq_true rfl) hCe4 ?_
    refine bf_if_ne 22 dX12_odds_15 (by decide) (fun c6 => ?_) (fun c6 => ?_)
    · have hf := (if_neg c6).symm.trans hf
      refine bf_lconst (v := 0) dX12_odds_22 (by decide) ?_
      refine bf_lstore_n (lv2 := [(3, .long _), (0, .ref _), (1, .int _), (2, .int _)]) dX12_odds_23 rfl (by decide) rfl ?_
      refine bf_aload_n 1 dX12_odds_24 rfl rfl ?_
      obtain ⟨r8, e7, hf⟩ := bf_bind hf
      have hCe7 := ok_X12_isEven (Γ := Γ) (ad := ad) hk e7
      refine cv_X12_220 3 dX12_odds_25 rfl ⟨Nat.le_of_ble_eq_true rfl, Nat.le_of_ble_eq_true rfl⟩ (Nat.le_of_ble_eq_true rfl) hk hCe7 ?_
      refine bf_istore (lv2 := [(5, .int _), (3, .long _), (0, .ref _), (1, .int _), (2, .int _)]) dX12_odds_28 (by decide) rfl ?_
      refine bf_iconst (v := 0) dX12_odds_30 (by decide) ?_
      refine bf_istore (lv2 := [(6, .int _), (5, .int _), (3, .long _), (0, .ref _), (1, .int _), (2, .int _)]) dX12_odds_31 (by decide) rfl ?_
      refine bf_perm [3, 4, 5, 2, 1, 0] rfl ?_
      refine ok_X12_odds_33 hk (fun k3_14 I14 L14 hf => ?_) _ _ _ _ _  hf
      refine bf_lload_n 1 dX12_odds_69 rfl rfl ?_
      refine bf_ldc2 dX12_odds_70 wk_X12_280 ?_
      refine bf_iload_n 0 dX12_odds_73 rfl rfl ?_
      obtain ⟨r16, e15, hf⟩ := bf_bind hf
      have hCe15 := ok_X12_lowest (Γ := Γ) (ad := ad)  e15
      refine cv_X12_282 1 dX12_odds_74 rfl ⟨Nat.le_of_ble_eq_true rfl, Nat.le_of_ble_eq_true rfl⟩ (Nat.le_of_ble_eq_true rfl) hCe15 ?_
      obtain rfl := Option.some.inj hf
      exact bf_lret dX12_odds_77 rfl (Nat.le_refl _) (Nat.le_refl _) ⟨rfl, rfl⟩
    · have hf := (if_pos c6).symm.trans hf
      refine bf_ldc2 dX12_odds_18 wk_X12_169 ?_
      obtain rfl := Option.some.inj hf
      exact bf_lret dX12_odds_21 rfl (Nat.le_refl _) (Nat.le_refl _) ⟨rfl, rfl⟩
def f_X12_mean_40 (v0 : Nat) (v1 : Int32) (v4 : Int32) (K : Int64 → (Nat → Nat → Int32) → (Nat → Nat → Int64) → Option (Int64 × bf_St)) : Nat → Int64 → Int32 → (Nat → Nat → Int32) → (Nat → Nat → Int64) → Option (Int64 × bf_St)
  | 0, _, _, _, _ => none
  | n + 1, v2, v5, I, L =>
    ((f_X12_isWire v0 v4 I L).bind (fun r9 => (if r9.1 = 0 then (K v2 r9.2.1 r9.2.2) else ((f_X12_tokens v0 v4 r9.2.1 r9.2.2).bind (fun r12 => (if r12.1 ≤ v5 then (K v2 r12.2.1 r12.2.2) else (if bf_ok ((((74 : Int32) + ((105 : Int32) * v4)) + (6 : Int32)) + v5) 914 then (f_X12_mean_40 v0 v1 v4 K n (v2 + ((r12.2.1 (v0 + 1) ((((74 : Int32) + ((105 : Int32) * v4)) + (6 : Int32)) + v5).toNatClampNeg)).toInt64) (v5 + (1 : Int32)) r12.2.1 r12.2.2) else none)))))))
set_option maxRecDepth 100000 in
set_option maxHeartbeats 4000000 in
theorem ok_X12_mean_40 {Γ : bf_Gm} {ad : Nat → Nat} {v0 : Nat} {v1 : Int32} {v4 : Int32} (hv0 : bf_kd v0 = 12) {r : Int64 × bf_St} {K : Int64 → (Nat → Nat → Int32) → (Nat → Nat → Int64) → Option (Int64 × bf_St)} (hK : ∀ (v2 : Int64) (I : Nat → Nat → Int32) (L : Nat → Nat → Int64), K v2 I L = some r → bf_Go Γ (bf_rm 3 0 0) mu_X12_mean bf_E0 (bf_Z Γ (fun q h => q = some (.long r.1) ∧ h = bf_S ad r.2.1 r.2.2) 0 0) (0, 0) 89 [(0, .ref (ad v0)), (1, .int v1), (2, .long v2), (4, .int v4)] [] (bf_S ad I L)) : ∀ (n : Nat) (v2 : Int64) (v5 : Int32) (I : Nat → Nat → Int32) (L : Nat → Nat → Int64), f_X12_mean_40 v0 v1 v4 K n v2 v5 I L = some r → bf_Go Γ (bf_rm 3 0 0) mu_X12_mean bf_E0 (bf_Z Γ (fun q h => q = some (.long r.1) ∧ h = bf_S ad r.2.1 r.2.2) 0 0) (0, 0) 40 [(0, .ref (ad v0)), (1, .int v1), (2, .long v2), (4, .int v4), (5, .int v5)] [] (bf_S ad I L) := by
  intro n
  induction n with
  | zero => intro v2 v5 I L hf; exact absurd (show none = some r from hf) (by simp)
  | succ n ih =>
    intro v2 v5 I L hf
    rw [f_X12_mean_40] at hf
    refine bf_aload_n 0 dX12_mean_40 rfl rfl ?_
    refine bf_iload 3 dX12_mean_41 rfl ?_
    obtain ⟨r9, e8, hf⟩ := bf_bind hf
    have hCe8 := ok_X12_isWire (Γ := Γ) (ad := ad) hv0 e8
    refine cv_X12_73 1 dX12_mean_43 rfl ⟨Nat.le_of_ble_eq_true rfl, Nat.le_of_ble_eq_true rfl⟩ (Nat.le_of_ble_eq_true rfl) hv0 hCe8 ?_
    refine bf_if_eq 89 dX12_mean_46 (by decide) (fun c10 => ?_) (fun c10 => ?_)
    · have hf := (if_pos c10).symm.trans hf
      refine bf_perm [0, 1, 2, 3] rfl ?_
      exact hK _ _ _ hf
    · have hf := (if_neg c10).symm.trans hf
      refine bf_iload 4 dX12_mean_49 rfl ?_
      refine bf_aload_n 0 dX12_mean_51 rfl rfl ?_
      refine bf_iload 3 dX12_mean_52 rfl ?_
      obtain ⟨r12, e11, hf⟩ := bf_bind hf
      have hCe11 := ok_X12_tokens (Γ := Γ) (ad := ad) hv0 e11
      refine cv_X12_76 0 dX12_mean_54 rfl ⟨Nat.le_of_ble_eq_true rfl, Nat.le_of_ble_eq_true rfl⟩ (Nat.le_of_ble_eq_true rfl) hv0 hCe11 ?_
      refine bf_icmp_ge 89 dX12_mean_57 (by decide) (fun c13 => ?_) (fun c13 => ?_)
      · have hf := (if_pos c13).symm.trans hf
        refine bf_perm [0, 1, 2, 3] rfl ?_
        exact hK _ _ _ hf
      · have hf := (if_neg c13).symm.trans hf
        refine bf_lload_n 2 dX12_mean_60 rfl rfl ?_
        refine bf_aload_n 0 dX12_mean_61 rfl rfl ?_
        refine fg_X12_11 dX12_mean_62 rfl hv0 ?_
        refine bf_bipush (v := 74) dX12_mean_65 (by decide) ?_
        refine bf_bipush (v := 105) dX12_mean_67 (by decide) ?_
        refine bf_iload 3 dX12_mean_69 rfl ?_
        refine bf_imul dX12_mean_71 ?_
        refine bf_iadd dX12_mean_72 ?_
        refine bf_bipush (v := 6) dX12_mean_73 (by decide) ?_
        refine bf_iadd dX12_mean_75 ?_
        refine bf_iload 4 dX12_mean_76 rfl ?_
        refine bf_iadd dX12_mean_78 ?_
        rcases Decidable.em (bf_ok ((((74 : Int32) + ((105 : Int32) * v4)) + (6 : Int32)) + v5) 914) with c14 | c14
        · have hf := (if_pos c14).symm.trans hf
          refine bf_iald dX12_mean_79 (kr_12_0 hv0) (by rw [(kl_12_0 hv0)]; exact c14) ?_
          refine bf_i2l dX12_mean_80 ?_
          refine bf_ladd dX12_mean_81 ?_
          refine bf_lstore_n (lv2 := [(2, .long _), (0, .ref _), (1, .int _), (4, .int _), (5, .int _)]) dX12_mean_82 rfl (by decide) rfl ?_
          refine bf_iinc 4 (v := _ + (1 : Int32)) (lv2 := [(5, .int _), (2, .long _), (0, .ref _), (1, .int _), (4, .int _)]) dX12_mean_83 rfl (by rfl) (by decide) rfl ?_
          refine bf_goto 40 dX12_mean_86 (by decide) ?_
          refine bf_perm [2, 3, 1, 4, 0] rfl ?_
          exact ih _ _ _ _ hf
        · exact absurd ((if_neg c14).symm.trans hf) (by simp)
def f_X12_mean_26 (v0 : Nat) (v1 : Int32) (K : Int64 → (Nat → Nat → Int32) → (Nat → Nat → Int64) → Option (Int64 × bf_St)) : Nat → Int64 → Int32 → (Nat → Nat → Int32) → (Nat → Nat → Int64) → Option (Int64 × bf_St)
  | 0, _, _, _, _ => none
  | n + 1, v2, v4, I, L =>
    (if (I (v0 + 1) (1 : Int32).toNatClampNeg) ≤ v4 then (K v2 I L) else (f_X12_mean_40 v0 v1 v4 (fun k2_15 I15 L15 => (f_X12_mean_26 v0 v1 K n k2_15 (v4 + (1 : Int32)) I15 L15)) 400 v2 (0 : Int32) I L))
set_option maxRecDepth 100000 in
set_option maxHeartbeats 4000000 in
theorem ok_X12_mean_26 {Γ : bf_Gm} {ad : Nat → Nat} {v0 : Nat} {v1 : Int32} (hv0 : bf_kd v0 = 12) {r : Int64 × bf_St} {K : Int64 → (Nat → Nat → Int32) → (Nat → Nat → Int64) → Option (Int64 × bf_St)} (hK : ∀ (v2 : Int64) (I : Nat → Nat → Int32) (L : Nat → Nat → Int64), K v2 I L = some r → bf_Go Γ (bf_rm 3 0 0) mu_X12_mean bf_E0 (bf_Z Γ (fun q h => q = some (.long r.1) ∧ h = bf_S ad r.2.1 r.2.2) 0 0) (0, 0) 95 [(0, .ref (ad v0)), (1, .int v1), (2, .long v2)] [] (bf_S ad I L)) : ∀ (n : Nat) (v2 : Int64) (v4 : Int32) (I : Nat → Nat → Int32) (L : Nat → Nat → Int64), f_X12_mean_26 v0 v1 K n v2 v4 I L = some r → bf_Go Γ (bf_rm 3 0 0) mu_X12_mean bf_E0 (bf_Z Γ (fun q h => q = some (.long r.1) ∧ h = bf_S ad r.2.1 r.2.2) 0 0) (0, 0) 26 [(0, .ref (ad v0)), (1, .int v1), (2, .long v2), (4, .int v4)] [] (bf_S ad I L) := by
  intro n
  induction n with
  | zero => intro v2 v4 I L hf; exact absurd (show none = some r from hf) (by simp)
  | succ n ih =>
    intro v2 v4 I L hf
    rw [f_X12_mean_26] at hf
    refine bf_iload 3 dX12_mean_26 rfl ?_
    refine bf_aload_n 0 dX12_mean_28 rfl rfl ?_
    refine fg_X12_11 dX12_mean_29 rfl hv0 ?_
    refine bf_iconst (v := 1) dX12_mean_32 (by decide) ?_
    refine bf_iald dX12_mean_33 (kr_12_0 hv0) (by rw [(kl_12_0 hv0)]; decide) ?_
    refine bf_icmp_ge 95 dX12_mean_34 (by decide) (fun c7 => ?_) (fun c7 => ?_)
    · have hf := (if_pos c7).symm.trans hf
      refine bf_perm [0, 1, 2] rfl ?_
      exact hK _ _ _ hf
    · have hf := (if_neg c7).symm.trans hf
      refine bf_iconst (v := 0) dX12_mean_37 (by decide) ?_
      refine bf_istore (lv2 := [(5, .int _), (0, .ref _), (1, .int _), (2, .long _), (4, .int _)]) dX12_mean_38 (by decide) rfl ?_
      refine bf_perm [1, 2, 3, 4, 0] rfl ?_
      refine ok_X12_mean_40 hv0 (fun k2_15 I15 L15 hf => ?_) _ _ _ _ _  hf
      refine bf_iinc 3 (v := _ + (1 : Int32)) (lv2 := [(4, .int _), (0, .ref _), (1, .int _), (2, .long _)]) dX12_mean_89 rfl (by rfl) (by decide) rfl ?_
      refine bf_goto 26 dX12_mean_92 (by decide) ?_
      refine bf_perm [1, 2, 3, 0] rfl ?_
      exact ih _ _ _ _ hf
def f_X12_mean (o : Nat) (a0 : Int32) (I : Nat → Nat → Int32) (L : Nat → Nat → Int64) : Option (Int64 × bf_St) :=
  ((f_X12_in (a0).toInt64 (0 : Int64) (1 : Int64) I L).bind (fun r2 => (if r2.1 = 0 then (some ((-9223372036854775808 : Int64), r2.2.1, r2.2.2)) else ((f_X12_tokensAll o r2.2.1 r2.2.2).bind (fun r5 => (if r5.1 = 0 then (some ((-9223372036854775808 : Int64), r5.2.1, r5.2.2)) else (f_X12_mean_26 o a0 (fun k2_16 I16 L16 => ((f_X12_tokensAll o I16 L16).bind (fun r18 => ((f_X12_lowest k2_16 (r18.1).toInt64 a0 r18.2.1 r18.2.2).bind (fun r20 => (some (r20.1, r20.2.1, r20.2.2))))))) 400 (0 : Int64) (0 : Int32) r5.2.1 r5.2.2)))))))
set_option maxRecDepth 100000 in
set_option maxHeartbeats 4000000 in
theorem ok_X12_mean {Γ : bf_Gm} {ad : Nat → Nat} {o : Nat} {a0 : Int32} {I : Nat → Nat → Int32} {L : Nat → Nat → Int64} (hk : bf_kd o = 12) {r : Int64 × bf_St} (hf : f_X12_mean o a0 I L = some r) : bf_Cn Γ 3 mu_X12_mean 0 0 [.ref (ad o), .int a0] (bf_S ad I L) (fun q h => q = some (.long r.1) ∧ h = bf_S ad r.2.1 r.2.2) := by
  refine bf_met rfl (Nat.le_of_ble_eq_true rfl) ?_
  unfold f_X12_mean at hf
  refine bf_iload_n 1 dX12_mean_0 rfl rfl ?_
  refine bf_i2l dX12_mean_1 ?_
  refine bf_lconst (v := 0) dX12_mean_2 (by decide) ?_
  refine bf_lconst (v := 1) dX12_mean_3 (by decide) ?_
  obtain ⟨r2, e1, hf⟩ := bf_bind hf
  have hCe1 := ok_X12_in (Γ := Γ) (ad := ad)  e1
  refine cv_X12_61 0 dX12_mean_4 rfl ⟨Nat.le_of_ble_eq_true rfl, Nat.le_of_ble_eq_true rfl⟩ (Nat.le_of_ble_eq_true rfl) hCe1 ?_
  refine bf_if_eq 17 dX12_mean_7 (by decide) (fun c3 => ?_) (fun c3 => ?_)
  · have hf := (if_pos c3).symm.trans hf
    refine bf_ldc2 dX12_mean_17 wk_X12_169 ?_
    obtain rfl := Option.some.inj hf
    exact bf_lret dX12_mean_20 rfl (Nat.le_refl _) (Nat.le_refl _) ⟨rfl, rfl⟩
  · have hf := (if_neg c3).symm.trans hf
    refine bf_aload_n 0 dX12_mean_10 rfl rfl ?_
    obtain ⟨r5, e4, hf⟩ := bf_bind hf
    have hCe4 := ok_X12_tokensAll (Γ := Γ) (ad := ad) hk e4
    refine cv_X12_242 2 dX12_mean_11 rfl ⟨Nat.le_of_ble_eq_true rfl, Nat.le_of_ble_eq_true rfl⟩ (Nat.le_of_ble_eq_true rfl) hk hCe4 ?_
    refine bf_if_ne 21 dX12_mean_14 (by decide) (fun c6 => ?_) (fun c6 => ?_)
    · have hf := (if_neg c6).symm.trans hf
      refine bf_lconst (v := 0) dX12_mean_21 (by decide) ?_
      refine bf_lstore_n (lv2 := [(2, .long _), (0, .ref _), (1, .int _)]) dX12_mean_22 rfl (by decide) rfl ?_
      refine bf_iconst (v := 0) dX12_mean_23 (by decide) ?_
      refine bf_istore (lv2 := [(4, .int _), (2, .long _), (0, .ref _), (1, .int _)]) dX12_mean_24 (by decide) rfl ?_
      refine bf_perm [2, 3, 1, 0] rfl ?_
      refine ok_X12_mean_26 hk (fun k2_16 I16 L16 hf => ?_) _ _ _ _ _  hf
      refine bf_lload_n 2 dX12_mean_95 rfl rfl ?_
      refine bf_aload_n 0 dX12_mean_96 rfl rfl ?_
      obtain ⟨r18, e17, hf⟩ := bf_bind hf
      have hCe17 := ok_X12_tokensAll (Γ := Γ) (ad := ad) hk e17
      refine cv_X12_242 2 dX12_mean_97 rfl ⟨Nat.le_of_ble_eq_true rfl, Nat.le_of_ble_eq_true rfl⟩ (Nat.le_of_ble_eq_true rfl) hk hCe17 ?_
      refine bf_i2l dX12_mean_100 ?_
      refine bf_iload_n 1 dX12_mean_101 rfl rfl ?_
      obtain ⟨r20, e19, hf⟩ := bf_bind hf
      have hCe19 := ok_X12_lowest (Γ := Γ) (ad := ad)  e19
      refine cv_X12_282 1 dX12_mean_102 rfl ⟨Nat.le_of_ble_eq_true rfl, Nat.le_of_ble_eq_true rfl⟩ (Nat.le_of_ble_eq_true rfl) hCe19 ?_
      obtain rfl := Option.some.inj hf
      exact bf_lret dX12_mean_105 rfl (Nat.le_refl _) (Nat.le_refl _) ⟨rfl, rfl⟩
    · have hf := (if_pos c6).symm.trans hf
      refine bf_ldc2 dX12_mean_17 wk_X12_169 ?_
      obtain rfl := Option.some.inj hf
      exact bf_lret dX12_mean_20 rfl (Nat.le_refl _) (Nat.le_refl _) ⟨rfl, rfl⟩
def f_X12_plan_p54 (v0 : Nat) (v1 : Int32) (v2 : Int32) (s0 : Int32) (I : Nat → Nat → Int32) (L : Nat → Nat → Int64) : Option (Int32 × bf_St) :=
  (if s0 = 0 then (some ((-1 : Int32), I, L)) else (if (I (v0 + 1) (3 : Int32).toNatClampNeg) = (10 : Int32) then (some ((-4 : Int32), I, L)) else (if bf_ok ((38 : Int32) + ((2 : Int32) * (I (v0 + 1) (3 : Int32).toNatClampNeg))) 914 then (if bf_ok (((38 : Int32) + ((2 : Int32) * (I (v0 + 1) (3 : Int32).toNatClampNeg))) + (1 : Int32)) 914 then (some (((I (v0 + 1) (3 : Int32).toNatClampNeg) + (1 : Int32)), (bf_u (bf_u (bf_u I (v0 + 1) ((38 : Int32) + ((2 : Int32) * (I (v0 + 1) (3 : Int32).toNatClampNeg))).toNatClampNeg v1) (v0 + 1) (((38 : Int32) + ((2 : Int32) * (I (v0 + 1) (3 : Int32).toNatClampNeg))) + (1 : Int32)).toNatClampNeg v2) (v0 + 1) (3 : Int32).toNatClampNeg ((I (v0 + 1) (3 : Int32).toNatClampNeg) + (1 : Int32))), L)) else none) else none)))
set_option maxRecDepth 100000 in
set_option maxHeartbeats 4000000 in
theorem ok_X12_plan_p54 {Γ : bf_Gm} {ad : Nat → Nat} {v0 : Nat} {v1 : Int32} {v2 : Int32} {s0 : Int32} {I : Nat → Nat → Int32} {L : Nat → Nat → Int64} (hv0 : bf_kd v0 = 12) {r : Int32 × bf_St} (hf : f_X12_plan_p54 v0 v1 v2 s0 I L = some r) : bf_Go Γ (bf_rm 2 0 0) mu_X12_plan bf_E0 (bf_Z Γ (fun q h => q = some (.int r.1) ∧ h = bf_S ad r.2.1 r.2.2) 0 0) (0, 0) 54 [(0, .ref (ad v0)), (1, .int v1), (2, .int v2)] [.int s0] (bf_S ad I L) := by
  unfold f_X12_plan_p54 at hf
  refine bf_istore_n (lv2 := [(3, .int _), (0, .ref _), (1, .int _), (2, .int _)]) dX12_plan_54 rfl (by decide) rfl ?_
  refine bf_iload_n 0 dX12_plan_55 rfl rfl ?_
  refine bf_if_ne 61 dX12_plan_56 (by decide) (fun c6 => ?_) (fun c6 => ?_)
  · have hf := (if_neg c6).symm.trans hf
    refine bf_aload_n 1 dX12_plan_61 rfl rfl ?_
    refine fg_X12_11 dX12_plan_62 rfl hv0 ?_
    refine bf_iconst (v := 3) dX12_plan_65 (by decide) ?_
    refine bf_iald dX12_plan_66 (kr_12_0 hv0) (by rw [(kl_12_0 hv0)]; decide) ?_
    refine bf_istore (lv2 := [(4, .int _), (3, .int _), (0, .ref _), (1, .int _), (2, .int _)]) dX12_plan_67 (by decide) rfl ?_
    refine bf_iload 0 dX12_plan_69 rfl ?_
    refine bf_bipush (v := 10) dX12_plan_71 (by decide) ?_
    refine bf_icmp_ne 79 dX12_plan_73 (by decide) (fun c7 => ?_) (fun c7 => ?_)
    · have hf := (if_neg c7).symm.trans hf
      refine bf_aload_n 2 dX12_plan_79 rfl rfl ?_
      refine fg_X12_11 dX12_plan_80 rfl hv0 ?_
      refine bf_bipush (v := 38) dX12_plan_83 (by decide) ?_
      refine bf_iconst (v := 2) dX12_plan_85 (by decide) ?_
      refine bf_iload 0 dX12_plan_86 rfl ?_
      refine bf_imul dX12_plan_88 ?_
      refine bf_iadd dX12_plan_89 ?_
      refine bf_iload_n 3 dX12_plan_90 rfl rfl ?_
      rcases Decidable.em (bf_ok ((38 : Int32) + ((2 : Int32) * (I (v0 + 1) (3 : Int32).toNatClampNeg))) 914) with c8 | c8
      · have hf := (if_pos c8).symm.trans hf
        refine bf_iast dX12_plan_91 (kr_12_0 hv0) (by rw [(kl_12_0 hv0)]; exact c8) ?_
        refine bf_aload_n 2 dX12_plan_92 rfl rfl ?_
        refine fg_X12_11 dX12_plan_93 rfl hv0 ?_
        refine bf_bipush (v := 38) dX12_plan_96 (by decide) ?_
        refine bf_iconst (v := 2) dX12_plan_98 (by decide) ?_
        refine bf_iload 0 dX12_plan_99 rfl ?_
        refine bf_imul dX12_plan_101 ?_
        refine bf_iadd dX12_plan_102 ?_
        refine bf_iconst (v := 1) dX12_plan_103 (by decide) ?_
        refine bf_iadd dX12_plan_104 ?_
        refine bf_iload_n 4 dX12_plan_105 rfl rfl ?_
        rcases Decidable.em (bf_ok (((38 : Int32) + ((2 : Int32) * (I (v0 + 1) (3 : Int32).toNatClampNeg))) + (1 : Int32)) 914) with c9 | c9
        · have hf := (if_pos c9).symm.trans hf
          refine bf_iast dX12_plan_106 (kr_12_0 hv0) (by rw [(kl_12_0 hv0)]; exact c9) ?_
          refine bf_aload_n 2 dX12_plan_107 rfl rfl ?_
          refine fg_X12_11 dX12_plan_108 rfl hv0 ?_
          refine bf_iconst (v := 3) dX12_plan_111 (by decide) ?_
          refine bf_iload 0 dX12_plan_112 rfl ?_
          refine bf_iconst (v := 1) dX12_plan_114 (by decide) ?_
          refine bf_iadd dX12_plan_115 ?_
          refine bf_iast dX12_plan_116 (kr_12_0 hv0) (by rw [(kl_12_0 hv0)]; decide) ?_
          refine bf_iload 0 dX12_plan_117 rfl ?_
          refine bf_iconst (v := 1) dX12_plan_119 (by decide) ?_
          refine bf_iadd dX12_plan_120 ?_
          obtain rfl := Option.some.inj hf
          exact bf_iret dX12_plan_121 rfl (Nat.le_refl _) (Nat.le_refl _) ⟨rfl, rfl⟩
        · exact absurd ((if_neg c9).symm.trans hf) (by simp)
      · exact absurd ((if_neg c8).symm.trans hf) (by simp)
    · have hf := (if_pos c7).symm.trans hf
      refine bf_bipush (v := -4) dX12_plan_76 (by decide) ?_
      obtain rfl := Option.some.inj hf
      exact bf_iret dX12_plan_78 rfl (Nat.le_refl _) (Nat.le_refl _) ⟨rfl, rfl⟩
  · have hf := (if_pos c6).symm.trans hf
    refine bf_iconst (v := -1) dX12_plan_59 (by decide) ?_
    obtain rfl := Option.some.inj hf
    exact bf_iret dX12_plan_60 rfl (Nat.le_refl _) (Nat.le_refl _) ⟨rfl, rfl⟩
def f_X12_plan_p49 (v0 : Nat) (v1 : Int32) (v2 : Int32) (I : Nat → Nat → Int32) (L : Nat → Nat → Int64) : Option (Int32 × bf_St) :=
  (f_X12_plan_p54 v0 v1 v2 (1 : Int32) I L)
set_option maxRecDepth 100000 in
set_option maxHeartbeats 4000000 in
theorem ok_X12_plan_p49 {Γ : bf_Gm} {ad : Nat → Nat} {v0 : Nat} {v1 : Int32} {v2 : Int32} {I : Nat → Nat → Int32} {L : Nat → Nat → Int64} (hv0 : bf_kd v0 = 12) {r : Int32 × bf_St} (hf : f_X12_plan_p49 v0 v1 v2 I L = some r) : bf_Go Γ (bf_rm 2 0 0) mu_X12_plan bf_E0 (bf_Z Γ (fun q h => q = some (.int r.1) ∧ h = bf_S ad r.2.1 r.2.2) 0 0) (0, 0) 49 [(0, .ref (ad v0)), (1, .int v1), (2, .int v2)] [] (bf_S ad I L) := by
  unfold f_X12_plan_p49 at hf
  refine bf_iconst (v := 1) dX12_plan_49 (by decide) ?_
  refine bf_goto 54 dX12_plan_50 (by decide) ?_
  exact ok_X12_plan_p54 hv0  hf
def f_X12_plan_p44 (v0 : Nat) (v1 : Int32) (v2 : Int32) (I : Nat → Nat → Int32) (L : Nat → Nat → Int64) : Option (Int32 × bf_St) :=
  (if v1 = (3 : Int32) then (f_X12_plan_p49 v0 v1 v2 I L) else (f_X12_plan_p54 v0 v1 v2 (0 : Int32) I L))
set_option maxRecDepth 100000 in
set_option maxHeartbeats 4000000 in
theorem ok_X12_plan_p44 {Γ : bf_Gm} {ad : Nat → Nat} {v0 : Nat} {v1 : Int32} {v2 : Int32} {I : Nat → Nat → Int32} {L : Nat → Nat → Int64} (hv0 : bf_kd v0 = 12) {r : Int32 × bf_St} (hf : f_X12_plan_p44 v0 v1 v2 I L = some r) : bf_Go Γ (bf_rm 2 0 0) mu_X12_plan bf_E0 (bf_Z Γ (fun q h => q = some (.int r.1) ∧ h = bf_S ad r.2.1 r.2.2) 0 0) (0, 0) 44 [(0, .ref (ad v0)), (1, .int v1), (2, .int v2)] [] (bf_S ad I L) := by
  unfold f_X12_plan_p44 at hf
  refine bf_iload_n 1 dX12_plan_44 rfl rfl ?_
  refine bf_iconst (v := 3) dX12_plan_45 (by decide) ?_
  refine bf_icmp_ne 53 dX12_plan_46 (by decide) (fun c11 => ?_) (fun c11 => ?_)
  · have hf := (if_neg c11).symm.trans hf
    refine bf_iconst (v := 0) dX12_plan_53 (by decide) ?_
    exact ok_X12_plan_p54 hv0  hf
  · have hf := (if_pos c11).symm.trans hf
    exact ok_X12_plan_p49 hv0  hf
def f_X12_plan_p31 (v0 : Nat) (v1 : Int32) (v2 : Int32) (I : Nat → Nat → Int32) (L : Nat → Nat → Int64) : Option (Int32 × bf_St) :=
  (if v1 = (1 : Int32) then ((f_X12_isWire v0 v2 I L).bind (fun r13 => (if r13.1 = 0 then (f_X12_plan_p44 v0 v1 v2 r13.2.1 r13.2.2) else (f_X12_plan_p49 v0 v1 v2 r13.2.1 r13.2.2)))) else (f_X12_plan_p44 v0 v1 v2 I L))
set_option maxRecDepth 100000 in
set_option maxHeartbeats 4000000 in
theorem ok_X12_plan_p31 {Γ : bf_Gm} {ad : Nat → Nat} {v0 : Nat} {v1 : Int32} {v2 : Int32} {I : Nat → Nat → Int32} {L : Nat → Nat → Int64} (hv0 : bf_kd v0 = 12) {r : Int32 × bf_St} (hf : f_X12_plan_p31 v0 v1 v2 I L = some r) : bf_Go Γ (bf_rm 2 0 0) mu_X12_plan bf_E0 (bf_Z Γ (fun q h => q = some (.int r.1) ∧ h = bf_S ad r.2.1 r.2.2) 0 0) (0, 0) 31 [(0, .ref (ad v0)), (1, .int v1), (2, .int v2)] [] (bf_S ad I L) := by
  unfold f_X12_plan_p31 at hf
  refine bf_iload_n 1 dX12_plan_31 rfl rfl ?_
  refine bf_iconst (v := 1) dX12_plan_32 (by decide) ?_
  refine bf_icmp_ne 44 dX12_plan_33 (by decide) (fun c10 => ?_) (fun c10 => ?_)
  · have hf := (if_neg c10).symm.trans hf
    exact ok_X12_plan_p44 hv0  hf
  · have hf := (if_pos c10).symm.trans hf
    refine bf_aload_n 0 dX12_plan_36 rfl rfl ?_
    refine bf_iload_n 2 dX12_plan_37 rfl rfl ?_
    obtain ⟨r13, e12, hf⟩ := bf_bind hf
    have hCe12 := ok_X12_isWire (Γ := Γ) (ad := ad) hv0 e12
    refine cv_X12_73 1 dX12_plan_38 rfl ⟨Nat.le_of_ble_eq_true rfl, Nat.le_of_ble_eq_true rfl⟩ (Nat.le_of_ble_eq_true rfl) hv0 hCe12 ?_
    refine bf_if_ne 49 dX12_plan_41 (by decide) (fun c14 => ?_) (fun c14 => ?_)
    · have hf := (if_neg c14).symm.trans hf
      exact ok_X12_plan_p49 hv0  hf
    · have hf := (if_pos c14).symm.trans hf
      exact ok_X12_plan_p44 hv0  hf
def f_X12_plan_p23 (v0 : Nat) (v1 : Int32) (v2 : Int32) (I : Nat → Nat → Int32) (L : Nat → Nat → Int64) : Option (Int32 × bf_St) :=
  ((f_X12_isBox v0 v2 I L).bind (fun r4 => (if r4.1 = 0 then (f_X12_plan_p31 v0 v1 v2 r4.2.1 r4.2.2) else (f_X12_plan_p49 v0 v1 v2 r4.2.1 r4.2.2))))
set_option maxRecDepth 100000 in
set_option maxHeartbeats 4000000 in
theorem ok_X12_plan_p23 {Γ : bf_Gm} {ad : Nat → Nat} {v0 : Nat} {v1 : Int32} {v2 : Int32} {I : Nat → Nat → Int32} {L : Nat → Nat → Int64} (hv0 : bf_kd v0 = 12) {r : Int32 × bf_St} (hf : f_X12_plan_p23 v0 v1 v2 I L = some r) : bf_Go Γ (bf_rm 2 0 0) mu_X12_plan bf_E0 (bf_Z Γ (fun q h => q = some (.int r.1) ∧ h = bf_S ad r.2.1 r.2.2) 0 0) (0, 0) 23 [(0, .ref (ad v0)), (1, .int v1), (2, .int v2)] [] (bf_S ad I L) := by
  unfold f_X12_plan_p23 at hf
  refine bf_aload_n 0 dX12_plan_23 rfl rfl ?_
  refine bf_iload_n 2 dX12_plan_24 rfl rfl ?_
  obtain ⟨r4, e3, hf⟩ := bf_bind hf
  have hCe3 := ok_X12_isBox (Γ := Γ) (ad := ad) hv0 e3
  refine cv_X12_69 1 dX12_plan_25 rfl ⟨Nat.le_of_ble_eq_true rfl, Nat.le_of_ble_eq_true rfl⟩ (Nat.le_of_ble_eq_true rfl) hv0 hCe3 ?_
  refine bf_if_ne 49 dX12_plan_28 (by decide) (fun c5 => ?_) (fun c5 => ?_)
  · have hf := (if_neg c5).symm.trans hf
    exact ok_X12_plan_p49 hv0  hf
  · have hf := (if_pos c5).symm.trans hf
    exact ok_X12_plan_p31 hv0  hf
def f_X12_plan (o : Nat) (a0 : Int32) (a1 : Int32) (I : Nat → Nat → Int32) (L : Nat → Nat → Int64) : Option (Int32 × bf_St) :=
  (if a0 = (-1 : Int32) then (some ((0 : Int32), (bf_u I (o + 1) (3 : Int32).toNatClampNeg (0 : Int32)), L)) else (if a0 = 0 then (f_X12_plan_p23 o a0 a1 I L) else (if a0 = (2 : Int32) then (f_X12_plan_p23 o a0 a1 I L) else (f_X12_plan_p31 o a0 a1 I L))))
set_option maxRecDepth 100000 in
set_option maxHeartbeats 4000000 in
theorem ok_X12_plan {Γ : bf_Gm} {ad : Nat → Nat} {o : Nat} {a0 : Int32} {a1 : Int32} {I : Nat → Nat → Int32} {L : Nat → Nat → Int64} (hk : bf_kd o = 12) {r : Int32 × bf_St} (hf : f_X12_plan o a0 a1 I L = some r) : bf_Cn Γ 2 mu_X12_plan 0 0 [.ref (ad o), .int a0, .int a1] (bf_S ad I L) (fun q h => q = some (.int r.1) ∧ h = bf_S ad r.2.1 r.2.2) := by
  refine bf_met rfl (Nat.le_of_ble_eq_true rfl) ?_
  unfold f_X12_plan at hf
  refine bf_iload_n 1 dX12_plan_0 rfl rfl ?_
  refine bf_iconst (v := -1) dX12_plan_1 (by decide) ?_
  refine bf_icmp_ne 14 dX12_plan_2 (by decide) (fun c1 => ?_) (fun c1 => ?_)
  · have hf := (if_neg c1).symm.trans hf
    refine bf_iload_n 1 dX12_plan_14 rfl rfl ?_
    refine bf_if_eq 23 dX12_plan_15 (by decide) (fun c2 => ?_) (fun c2 => ?_)
    · have hf := (if_pos c2).symm.trans hf
      exact ok_X12_plan_p23 hk  hf
    · have hf := (if_neg c2).symm.trans hf
      refine bf_iload_n 1 dX12_plan_18 rfl rfl ?_
      refine bf_iconst (v := 2) dX12_plan_19 (by decide) ?_
      refine bf_icmp_ne 31 dX12_plan_20 (by decide) (fun c15 => ?_) (fun c15 => ?_)
      · have hf := (if_neg c15).symm.trans hf
        exact ok_X12_plan_p31 hk  hf
      · have hf := (if_pos c15).symm.trans hf
        exact ok_X12_plan_p23 hk  hf
  · have hf := (if_pos c1).symm.trans hf
    refine bf_aload_n 0 dX12_plan_5 rfl rfl ?_
    refine fg_X12_11 dX12_plan_6 rfl hk ?_
    refine bf_iconst (v := 3) dX12_plan_9 (by decide) ?_
    refine bf_iconst (v := 0) dX12_plan_10 (by decide) ?_
    refine bf_iast dX12_plan_11 (kr_12_0 hk) (by rw [(kl_12_0 hk)]; decide) ?_
    refine bf_iconst (v := 0) dX12_plan_12 (by decide) ?_
    obtain rfl := Option.some.inj hf
    exact bf_iret dX12_plan_13 rfl (Nat.le_refl _) (Nat.le_refl _) ⟨rfl, rfl⟩
