def f_X12_fire (o : Nat) (a0 : Int32) (I : Nat → Nat → Int32) (L : Nat → Nat → Int64) : Option (Int64 × bf_St) :=
  ((f_X12_isBox o a0 I L).bind (fun r2 => (if r2.1 = 0 then (some ((-9223372036854775808 : Int64), r2.2.1, r2.2.2)) else ((f_X12_canFire o a0 r2.2.1 r2.2.2).bind (fun r5 => (if r5.1 = 0 then (some ((-9223372036854775808 : Int64), r5.2.1, r5.2.2)) else ((f_X12_fires o a0 r5.2.1 r5.2.2).bind (fun r8 => (some ((r8.1).toInt64, r8.2.1, r8.2.2))))))))))
set_option maxRecDepth 100000 in
set_option maxHeartbeats 4000000 in
theorem ok_X12_fire {Γ : bf_Gm} {ad : Nat → Nat} {o : Nat} {a0 : Int32} {I : Nat → Nat → Int32} {L : Nat → Nat → Int64} (hk : bf_kd o = 12) {r : Int64 × bf_St} (hf : f_X12_fire o a0 I L = some r) : bf_Cn Γ 3 mu_X12_fire 0 0 [.ref (ad o), .int a0] (bf_S ad I L) (fun q h => q = some (.long r.1) ∧ h = bf_S ad r.2.1 r.2.2) := by
  refine bf_met rfl (Nat.le_of_ble_eq_true rfl) ?_
  unfold f_X12_fire at hf
  refine bf_aload_n 0 dX12_fire_0 rfl rfl ?_
  refine bf_iload_n 1 dX12_fire_1 rfl rfl ?_
  obtain ⟨r2, e1, hf⟩ := bf_bind hf
  have hCe1 := ok_X12_isBox (Γ := Γ) (ad := ad) hk e1
  refine cv_X12_69 1 dX12_fire_2 rfl ⟨Nat.le_of_ble_eq_true rfl, Nat.le_of_ble_eq_true rfl⟩ (Nat.le_of_ble_eq_true rfl) hk hCe1 ?_
  refine bf_if_eq 25 dX12_fire_5 (by decide) (fun c3 => ?_) (fun c3 => ?_)
  · have hf := (if_pos c3).symm.trans hf
    refine bf_ldc2 dX12_fire_25 wk_X12_169 ?_
    obtain rfl := Option.some.inj hf
    exact bf_lret dX12_fire_28 rfl (Nat.le_refl _) (Nat.le_refl _) ⟨rfl, rfl⟩
  · have hf := (if_neg c3).symm.trans hf
    refine bf_aload_n 0 dX12_fire_8 rfl rfl ?_
    refine bf_iload_n 1 dX12_fire_9 rfl rfl ?_
    obtain ⟨r5, e4, hf⟩ := bf_bind hf
    have hCe4 := ok_X12_canFire (Γ := Γ) (ad := ad) hk e4
    refine cv_X12_163 2 dX12_fire_10 rfl ⟨Nat.le_of_ble_eq_true rfl, Nat.le_of_ble_eq_true rfl⟩ (Nat.le_of_ble_eq_true rfl) hk hCe4 ?_
    refine bf_if_eq 25 dX12_fire_13 (by decide) (fun c6 => ?_) (fun c6 => ?_)
    · have hf := (if_pos c6).symm.trans hf
      refine bf_ldc2 dX12_fire_25 wk_X12_169 ?_
      obtain rfl := Option.some.inj hf
      exact bf_lret dX12_fire_28 rfl (Nat.le_refl _) (Nat.le_refl _) ⟨rfl, rfl⟩
    · have hf := (if_neg c6).symm.trans hf
      refine bf_aload_n 0 dX12_fire_16 rfl rfl ?_
      refine bf_iload_n 1 dX12_fire_17 rfl rfl ?_
      obtain ⟨r8, e7, hf⟩ := bf_bind hf
      have hCe7 := ok_X12_fires (Γ := Γ) (ad := ad) hk e7
      refine cv_X12_166 2 dX12_fire_18 rfl ⟨Nat.le_of_ble_eq_true rfl, Nat.le_of_ble_eq_true rfl⟩ (Nat.le_of_ble_eq_true rfl) hk hCe7 ?_
      refine bf_i2l dX12_fire_21 ?_
      refine bf_goto 28 dX12_fire_22 (by decide) ?_
      obtain rfl := Option.some.inj hf
      exact bf_lret dX12_fire_28 rfl (Nat.le_refl _) (Nat.le_refl _) ⟨rfl, rfl⟩
def f_X12_common_6 (K : Int64 → (Nat → Nat → Int32) → (Nat → Nat → Int64) → Option (Int64 × bf_St)) : Nat → Int64 → Int64 → (Nat → Nat → Int32) → (Nat → Nat → Int64) → Option (Int64 × bf_St)
  | 0, _, _, _, _ => none
  | n + 1, v4, v6, I, L =>
    (if (lg_cmp v6 (0 : Int64)) = 0 then (K v4 I L) else (if v6 = 0 then none else (f_X12_common_6 K n v6 (v4 - v4 / v6 * v6) I L)))
set_option maxRecDepth 100000 in
set_option maxHeartbeats 4000000 in
theorem ok_X12_common_6 {Γ : bf_Gm} {ad : Nat → Nat} {r : Int64 × bf_St} {K : Int64 → (Nat → Nat → Int32) → (Nat → Nat → Int64) → Option (Int64 × bf_St)} (hK : ∀ (v4 : Int64) (I : Nat → Nat → Int32) (L : Nat → Nat → Int64), K v4 I L = some r → bf_Go Γ (bf_rm 0 0 0) mu_X12_common bf_E0 (bf_Z Γ (fun q h => q = some (.long r.1) ∧ h = bf_S ad r.2.1 r.2.2) 0 0) (0, 0) 31 [(4, .long v4)] [] (bf_S ad I L)) : ∀ (n : Nat) (v4 : Int64) (v6 : Int64) (I : Nat → Nat → Int32) (L : Nat → Nat → Int64), f_X12_common_6  K n v4 v6 I L = some r → bf_Go Γ (bf_rm 0 0 0) mu_X12_common bf_E0 (bf_Z Γ (fun q h => q = some (.long r.1) ∧ h = bf_S ad r.2.1 r.2.2) 0 0) (0, 0) 6 [(4, .long v4), (6, .long v6)] [] (bf_S ad I L) := by
  intro n
  induction n with
  | zero => intro v4 v6 I L hf; exact absurd (show none = some r from hf) (by simp)
  | succ n ih =>
    intro v4 v6 I L hf
    rw [f_X12_common_6] at hf
    refine bf_lload 1 dX12_common_6 rfl ?_
    refine bf_lconst (v := 0) dX12_common_8 (by decide) ?_
    refine bf_lcmp dX12_common_9 ?_
    refine bf_if_eq 31 dX12_common_10 (by decide) (fun c1 => ?_) (fun c1 => ?_)
    · have hf := (if_pos c1).symm.trans hf
      refine bf_perm [0] rfl ?_
      exact hK _ _ _ hf
    · have hf := (if_neg c1).symm.trans hf
      refine bf_lload 0 dX12_common_13 rfl ?_
      refine bf_lload 1 dX12_common_15 rfl ?_
      rcases Decidable.em (v6 = 0) with c2 | c2
      · exact absurd ((if_pos c2).symm.trans hf) (by simp)
      · have hf := (if_neg c2).symm.trans hf
        refine bf_lrem dX12_common_17 c2 ?_
        refine bf_lstore (lv2 := [(8, .long _), (4, .long _), (6, .long _)]) dX12_common_18 (by decide) rfl ?_
        refine bf_lload 2 dX12_common_20 rfl ?_
        refine bf_lstore (lv2 := [(4, .long _), (8, .long _), (6, .long _)]) dX12_common_22 (by decide) rfl ?_
        refine bf_lload 1 dX12_common_24 rfl ?_
        refine bf_lstore (lv2 := [(6, .long _), (4, .long _), (8, .long _)]) dX12_common_26 (by decide) rfl ?_
        refine bf_goto 6 dX12_common_28 (by decide) ?_
        refine bf_perm [1, 0] rfl ?_
        exact ih _ _ _ _ hf
def f_X12_common (a0 : Int64) (a1 : Int64) (I : Nat → Nat → Int32) (L : Nat → Nat → Int64) : Option (Int64 × bf_St) :=
  (f_X12_common_6 (fun k4_3 I3 L3 => (some (k4_3, I3, L3))) 400 a0 a1 I L)
set_option maxRecDepth 100000 in
set_option maxHeartbeats 4000000 in
theorem ok_X12_common {Γ : bf_Gm} {ad : Nat → Nat} {a0 : Int64} {a1 : Int64} {I : Nat → Nat → Int32} {L : Nat → Nat → Int64} {r : Int64 × bf_St} (hf : f_X12_common a0 a1 I L = some r) : bf_Cn Γ 0 mu_X12_common 0 0 [.long a0, .long a1] (bf_S ad I L) (fun q h => q = some (.long r.1) ∧ h = bf_S ad r.2.1 r.2.2) := by
  refine bf_met rfl (Nat.le_of_ble_eq_true rfl) ?_
  unfold f_X12_common at hf
  refine bf_lload_n 0 dX12_common_0 rfl rfl ?_
  refine bf_lstore (lv2 := [(4, .long _), (0, .long _), (2, .long _)]) dX12_common_1 (by decide) rfl ?_
  refine bf_lload_n 2 dX12_common_3 rfl rfl ?_
  refine bf_lstore (lv2 := [(6, .long _), (4, .long _), (0, .long _), (2, .long _)]) dX12_common_4 (by decide) rfl ?_
  refine bf_perm [1, 0] rfl ?_
  refine ok_X12_common_6  (fun k4_3 I3 L3 hf => ?_) _ _ _ _ _  hf
  refine bf_lload 0 dX12_common_31 rfl ?_
  obtain rfl := Option.some.inj hf
  exact bf_lret dX12_common_33 rfl (Nat.le_refl _) (Nat.le_refl _) ⟨rfl, rfl⟩
def f_X12_sets (o : Nat) (a0 : Int32) (a1 : Int64) (a2 : Int64) (I : Nat → Nat → Int32) (L : Nat → Nat → Int64) : Option (Int32 × bf_St) :=
  ((f_X12_common a1 a2 I L).bind (fun r2 => (if r2.1 = 0 then none else (if bf_ok a0 6 then (if r2.1 = 0 then none else (if bf_ok a0 6 then (some ((1 : Int32), r2.2.1, (bf_u (bf_u r2.2.2 (o + 6) a0.toNatClampNeg (a1 / r2.1)) (o + 7) a0.toNatClampNeg (a2 / r2.1)))) else none)) else none))))
set_option maxRecDepth 100000 in
set_option maxHeartbeats 4000000 in
theorem ok_X12_sets {Γ : bf_Gm} {ad : Nat → Nat} {o : Nat} {a0 : Int32} {a1 : Int64} {a2 : Int64} {I : Nat → Nat → Int32} {L : Nat → Nat → Int64} (hk : bf_kd o = 12) {r : Int32 × bf_St} (hf : f_X12_sets o a0 a1 a2 I L = some r) : bf_Cn Γ 1 mu_X12_sets 0 0 [.ref (ad o), .int a0, .long a1, .long a2] (bf_S ad I L) (fun q h => q = some (.int r.1) ∧ h = bf_S ad r.2.1 r.2.2) := by
  refine bf_met rfl (Nat.le_of_ble_eq_true rfl) ?_
  unfold f_X12_sets at hf
  refine bf_lload_n 2 dX12_sets_0 rfl rfl ?_
  refine bf_lload 3 dX12_sets_1 rfl ?_
  obtain ⟨r2, e1, hf⟩ := bf_bind hf
  have hCe1 := ok_X12_common (Γ := Γ) (ad := ad)  e1
  refine cv_X12_171 0 dX12_sets_3 rfl ⟨Nat.le_of_ble_eq_true rfl, Nat.le_of_ble_eq_true rfl⟩ (Nat.le_of_ble_eq_true rfl) hCe1 ?_
  refine bf_lstore (lv2 := [(6, .long _), (0, .ref _), (1, .int _), (2, .long _), (4, .long _)]) dX12_sets_6 (by decide) rfl ?_
  refine bf_aload_n 1 dX12_sets_8 rfl rfl ?_
  refine fg_X12_27 dX12_sets_9 rfl hk ?_
  refine bf_iload_n 2 dX12_sets_12 rfl rfl ?_
  refine bf_lload_n 3 dX12_sets_13 rfl rfl ?_
  refine bf_lload 0 dX12_sets_14 rfl ?_
  rcases Decidable.em (r2.1 = 0) with c3 | c3
  · exact absurd ((if_pos c3).symm.trans hf) (by simp)
  · have hf := (if_neg c3).symm.trans hf
    refine bf_ldiv dX12_sets_16 c3 ?_
    rcases Decidable.em (bf_ok a0 6) with c4 | c4
    · have hf := (if_pos c4).symm.trans hf
      refine bf_last dX12_sets_17 (kr_12_14 hk) (by rw [(kl_12_14 hk)]; exact c4) ?_
      refine bf_aload_n 1 dX12_sets_18 rfl rfl ?_
      refine fg_X12_31 dX12_sets_19 rfl hk ?_
      refine bf_iload_n 2 dX12_sets_22 rfl rfl ?_
      refine bf_lload 4 dX12_sets_23 rfl ?_
      refine bf_lload 0 dX12_sets_25 rfl ?_
      rcases Decidable.em (r2.1 = 0) with c5 | c5
      · exact absurd ((if_pos c5).symm.trans hf) (by simp)
      · have hf := (if_neg c5).symm.trans hf
        refine bf_ldiv dX12_sets_27 c5 ?_
        rcases Decidable.em (bf_ok a0 6) with c6 | c6
        · have hf := (if_pos c6).symm.trans hf
          refine bf_last dX12_sets_28 (kr_12_15 hk) (by rw [(kl_12_15 hk)]; exact c6) ?_
          refine bf_iconst (v := 1) dX12_sets_29 (by decide) ?_
          obtain rfl := Option.some.inj hf
          exact bf_zret dX12_sets_30 rfl rfl (Nat.le_refl _) (Nat.le_refl _) ⟨rfl, rfl⟩
        · exact absurd ((if_neg c6).symm.trans hf) (by simp)
    · exact absurd ((if_neg c4).symm.trans hf) (by simp)
def f_X12_spreads_10 (v0 : Nat) (K : Int32 → (Nat → Nat → Int32) → (Nat → Nat → Int64) → Option (Int32 × bf_St)) : Nat → Int32 → Int32 → (Nat → Nat → Int32) → (Nat → Nat → Int64) → Option (Int32 × bf_St)
  | 0, _, _, _, _ => none
  | n + 1, v1, v2, I, L =>
    (if (I (v0 + 1) (1 : Int32).toNatClampNeg) ≤ v2 then (K v1 I L) else ((f_X12_from v0 v2 I L).bind (fun r4 => ((f_X12_to v0 v2 r4.2.1 r4.2.2).bind (fun r6 => ((f_X12_isWire v0 v2 r6.2.1 r6.2.2).bind (fun r8 => (if r8.1 = 0 then (f_X12_spreads_10 v0 K n v1 (v2 + (1 : Int32)) r8.2.1 r8.2.2) else (if bf_ok r4.1 6 then (if (lg_cmp (r8.2.2 (v0 + 6) r4.1.toNatClampNeg) (0 : Int64)) ≤ 0 then (if bf_ok r6.1 6 then (if (lg_cmp (r8.2.2 (v0 + 6) r6.1.toNatClampNeg) (0 : Int64)) ≤ 0 then (if bf_ok r4.1 6 then (if (lg_cmp (r8.2.2 (v0 + 6) r4.1.toNatClampNeg) (0 : Int64)) ≤ 0 then (f_X12_spreads_10 v0 K n v1 (v2 + (1 : Int32)) r8.2.1 r8.2.2) else (if bf_ok r4.1 6 then ((f_X12_puts v0 v2 r8.2.1 r8.2.2).bind (fun r18 => (if bf_ok r6.1 6 then (if bf_ok r6.1 6 then ((f_X12_takes v0 v2 r18.2.1 r18.2.2).bind (fun r22 => (if bf_ok r4.1 6 then (if (lg_cmp (((r8.2.2 (v0 + 6) r4.1.toNatClampNeg) * (r18.1).toInt64) * (r18.2.2 (v0 + 7) r6.1.toNatClampNeg)) (((r18.2.2 (v0 + 6) r6.1.toNatClampNeg) * (r22.1).toInt64) * (r22.2.2 (v0 + 7) r4.1.toNatClampNeg))) = 0 then (f_X12_spreads_10 v0 K n v1 (v2 + (1 : Int32)) r22.2.1 r22.2.2) else (some ((0 : Int32), r22.2.1, r22.2.2))) else none))) else none) else none))) else none)) else none) else (if bf_ok r4.1 6 then (if (lg_cmp (r8.2.2 (v0 + 6) r4.1.toNatClampNeg) (0 : Int64)) = 0 then (if bf_ok r6.1 6 then ((f_X12_takes v0 v2 r8.2.1 r8.2.2).bind (fun r40 => (if bf_ok r6.1 6 then ((f_X12_puts v0 v2 r40.2.1 r40.2.2).bind (fun r43 => ((f_X12_sets v0 r4.1 ((r8.2.2 (v0 + 6) r6.1.toNatClampNeg) * (r40.1).toInt64) ((r40.2.2 (v0 + 7) r6.1.toNatClampNeg) * (r43.1).toInt64) r43.2.1 r43.2.2).bind (fun r45 => (f_X12_spreads_10 v0 K n r45.1 (v2 + (1 : Int32)) r45.2.1 r45.2.2))))) else none))) else none) else (if bf_ok r4.1 6 then (if (lg_cmp (r8.2.2 (v0 + 6) r4.1.toNatClampNeg) (0 : Int64)) ≤ 0 then (f_X12_spreads_10 v0 K n v1 (v2 + (1 : Int32)) r8.2.1 r8.2.2) else (if bf_ok r4.1 6 then ((f_X12_puts v0 v2 r8.2.1 r8.2.2).bind (fun r31 => (if bf_ok r6.1 6 then (if bf_ok r6.1 6 then ((f_X12_takes v0 v2 r31.2.1 r31.2.2).bind (fun r35 => (if bf_ok r4.1 6 then (if (lg_cmp (((r8.2.2 (v0 + 6) r4.1.toNatClampNeg) * (r31.1).toInt64) * (r31.2.2 (v0 + 7) r6.1.toNatClampNeg)) (((r31.2.2 (v0 + 6) r6.1.toNatClampNeg) * (r35.1).toInt64) * (r35.2.2 (v0 + 7) r4.1.toNatClampNeg))) = 0 then (f_X12_spreads_10 v0 K n v1 (v2 + (1 : Int32)) r35.2.1 r35.2.2) else (some ((0 : Int32), r35.2.1, r35.2.2))) else none))) else none) else none))) else none)) else none)) else none)) else none) else (if bf_ok r6.1 6 then (if (lg_cmp (r8.2.2 (v0 + 6) r6.1.toNatClampNeg) (0 : Int64)) = 0 then (if bf_ok r4.1 6 then ((f_X12_puts v0 v2 r8.2.1 r8.2.2).bind (fun r84 => (if bf_ok r4.1 6 then ((f_X12_takes v0 v2 r84.2.1 r84.2.2).bind (fun r87 => ((f_X12_sets v0 r6.1 ((r8.2.2 (v0 + 6) r4.1.toNatClampNeg) * (r84.1).toInt64) ((r84.2.2 (v0 + 7) r4.1.toNatClampNeg) * (r87.1).toInt64) r87.2.1 r87.2.2).bind (fun r89 => (f_X12_spreads_10 v0 K n r89.1 (v2 + (1 : Int32)) r89.2.1 r89.2.2))))) else none))) else none) else (if bf_ok r6.1 6 then (if (lg_cmp (r8.2.2 (v0 + 6) r6.1.toNatClampNeg) (0 : Int64)) ≤ 0 then (if bf_ok r4.1 6 then (if (lg_cmp (r8.2.2 (v0 + 6) r4.1.toNatClampNeg) (0 : Int64)) ≤ 0 then (f_X12_spreads_10 v0 K n v1 (v2 + (1 : Int32)) r8.2.1 r8.2.2) else (if bf_ok r4.1 6 then ((f_X12_puts v0 v2 r8.2.1 r8.2.2).bind (fun r54 => (if bf_ok r6.1 6 then (if bf_ok r6.1 6 then ((f_X12_takes v0 v2 r54.2.1 r54.2.2).bind (fun r58 => (if bf_ok r4.1 6 then (if (lg_cmp (((r8.2.2 (v0 + 6) r4.1.toNatClampNeg) * (r54.1).toInt64) * (r54.2.2 (v0 + 7) r6.1.toNatClampNeg)) (((r54.2.2 (v0 + 6) r6.1.toNatClampNeg) * (r58.1).toInt64) * (r58.2.2 (v0 + 7) r4.1.toNatClampNeg))) = 0 then (f_X12_spreads_10 v0 K n v1 (v2 + (1 : Int32)) r58.2.1 r58.2.2) else (some ((0 : Int32), r58.2.1, r58.2.2))) else none))) else none) else none))) else none)) else none) else (if bf_ok r4.1 6 then (if (lg_cmp (r8.2.2 (v0 + 6) r4.1.toNatClampNeg) (0 : Int64)) = 0 then (if bf_ok r6.1 6 then ((f_X12_takes v0 v2 r8.2.1 r8.2.2).bind (fun r76 => (if bf_ok r6.1 6 then ((f_X12_puts v0 v2 r76.2.1 r76.2.2).bind (fun r79 => ((f_X12_sets v0 r4.1 ((r8.2.2 (v0 + 6) r6.1.toNatClampNeg) * (r76.1).toInt64) ((r76.2.2 (v0 + 7) r6.1.toNatClampNeg) * (r79.1).toInt64) r79.2.1 r79.2.2).bind (fun r81 => (f_X12_spreads_10 v0 K n r81.1 (v2 + (1 : Int32)) r81.2.1 r81.2.2))))) else none))) else none) else (if bf_ok r4.1 6 then (if (lg_cmp (r8.2.2 (v0 + 6) r4.1.toNatClampNeg) (0 : Int64)) ≤ 0 then (f_X12_spreads_10 v0 K n v1 (v2 + (1 : Int32)) r8.2.1 r8.2.2) else (if bf_ok r4.1 6 then ((f_X12_puts v0 v2 r8.2.1 r8.2.2).bind (fun r67 => (if bf_ok r6.1 6 then (if bf_ok r6.1 6 then ((f_X12_takes v0 v2 r67.2.1 r67.2.2).bind (fun r71 => (if bf_ok r4.1 6 then (if (lg_cmp (((r8.2.2 (v0 + 6) r4.1.toNatClampNeg) * (r67.1).toInt64) * (r67.2.2 (v0 + 7) r6.1.toNatClampNeg)) (((r67.2.2 (v0 + 6) r6.1.toNatClampNeg) * (r71.1).toInt64) * (r71.2.2 (v0 + 7) r4.1.toNatClampNeg))) = 0 then (f_X12_spreads_10 v0 K n v1 (v2 + (1 : Int32)) r71.2.1 r71.2.2) else (some ((0 : Int32), r71.2.1, r71.2.2))) else none))) else none) else none))) else none)) else none)) else none)) else none)) else none)) else none)))))))))
set_option maxRecDepth 100000 in
set_option maxHeartbeats 4000000 in
theorem ok_X12_spreads_10 {Γ : bf_Gm} {ad : Nat → Nat} {v0 : Nat} (hv0 : bf_kd v0 = 12) {r : Int32 × bf_St} {K : Int32 → (Nat → Nat → Int32) → (Nat → Nat → Int64) → Option (Int32 × bf_St)} (hK : ∀ (v1 : Int32) (I : Nat → Nat → Int32) (L : Nat → Nat → Int64), K v1 I L = some r → bf_Go Γ (bf_rm 2 0 0) mu_X12_spreads bf_E0 (bf_Z Γ (fun q h => q = some (.int r.1) ∧ h = bf_S ad r.2.1 r.2.2) 0 0) (0, 0) 228 [(0, .ref (ad v0)), (1, .int v1)] [] (bf_S ad I L)) : ∀ (n : Nat) (v1 : Int32) (v2 : Int32) (I : Nat → Nat → Int32) (L : Nat → Nat → Int64), f_X12_spreads_10 v0 K n v1 v2 I L = some r → bf_Go Γ (bf_rm 2 0 0) mu_X12_spreads bf_E0 (bf_Z Γ (fun q h => q = some (.int r.1) ∧ h = bf_S ad r.2.1 r.2.2) 0 0) (0, 0) 10 [(0, .ref (ad v0)), (1, .int v1), (2, .int v2)] [] (bf_S ad I L) := by
  intro n
  induction n with
  | zero => intro v1 v2 I L hf; exact absurd (show none = some r from hf) (by simp)
  | succ n ih =>
    intro v1 v2 I L hf
    rw [f_X12_spreads_10] at hf
    refine bf_iload_n 2 dX12_spreads_10 rfl rfl ?_
    refine bf_aload_n 0 dX12_spreads_11 rfl rfl ?_
    refine fg_X12_11 dX12_spreads_12 rfl hv0 ?_
    refine bf_iconst (v := 1) dX12_spreads_15 (by decide) ?_
    refine bf_iald dX12_spreads_16 (kr_12_0 hv0) (by rw [(kl_12_0 hv0)]; decide) ?_
    refine bf_icmp_ge 228 dX12_spreads_17 (by decide) (fun c2 => ?_) (fun c2 => ?_)
    · have hf := (if_pos c2).symm.trans hf
      refine bf_perm [0, 1] rfl ?_
      exact hK _ _ _ hf
    · have hf := (if_neg c2).symm.trans hf
      refine bf_aload_n 0 dX12_spreads_20 rfl rfl ?_
      refine bf_iload_n 2 dX12_spreads_21 rfl rfl ?_
      obtain ⟨r4, e3, hf⟩ := bf_bind hf
      have hCe3 := ok_X12_from (Γ := Γ) (ad := ad) hv0 e3
      refine cv_X12_127 0 dX12_spreads_22 rfl ⟨Nat.le_of_ble_eq_true rfl, Nat.le_of_ble_eq_true rfl⟩ (Nat.le_of_ble_eq_true rfl) hv0 hCe3 ?_
      refine bf_istore_n (lv2 := [(3, .int _), (0, .ref _), (1, .int _), (2, .int _)]) dX12_spreads_25 rfl (by decide) rfl ?_
      refine bf_aload_n 1 dX12_spreads_26 rfl rfl ?_
      refine bf_iload_n 3 dX12_spreads_27 rfl rfl ?_
      obtain ⟨r6, e5, hf⟩ := bf_bind hf
      have hCe5 := ok_X12_to (Γ := Γ) (ad := ad) hv0 e5
      refine cv_X12_121 0 dX12_spreads_28 rfl ⟨Nat.le_of_ble_eq_true rfl, Nat.le_of_ble_eq_true rfl⟩ (Nat.le_of_ble_eq_true rfl) hv0 hCe5 ?_
      refine bf_istore (lv2 := [(4, .int _), (3, .int _), (0, .ref _), (1, .int _), (2, .int _)]) dX12_spreads_31 (by decide) rfl ?_
      refine bf_aload_n 2 dX12_spreads_33 rfl rfl ?_
      refine bf_iload_n 4 dX12_spreads_34 rfl rfl ?_
      obtain ⟨r8, e7, hf⟩ := bf_bind hf
      have hCe7 := ok_X12_isWire (Γ := Γ) (ad := ad) hv0 e7
      refine cv_X12_73 1 dX12_spreads_35 rfl ⟨Nat.le_of_ble_eq_true rfl, Nat.le_of_ble_eq_true rfl⟩ (Nat.le_of_ble_eq_true rfl) hv0 hCe7 ?_
      refine bf_if_ne 44 dX12_spreads_38 (by decide) (fun c9 => ?_) (fun c9 => ?_)
      · have hf := (if_neg c9).symm.trans hf
        refine bf_aload_n 2 dX12_spreads_44 rfl rfl ?_
        refine fg_X12_27 dX12_spreads_45 rfl hv0 ?_
        refine bf_iload_n 1 dX12_spreads_48 rfl rfl ?_
        rcases Decidable.em (bf_ok r4.1 6) with c10 | c10
        · have hf := (if_pos c10).symm.trans hf
          refine bf_lald dX12_spreads_49 (kr_12_14 hv0) (by rw [(kl_12_14 hv0)]; exact c10) ?_
          refine bf_lconst (v := 0) dX12_spreads_50 (by decide) ?_
          refine bf_lcmp dX12_spreads_51 ?_
          refine bf_if_le 103 dX12_spreads_52 (by decide) (fun c11 => ?_) (fun c11 => ?_)
          · have hf := (if_pos c11).symm.trans hf
            refine bf_aload_n 2 dX12_spreads_103 rfl rfl ?_
            refine fg_X12_27 dX12_spreads_104 rfl hv0 ?_
            refine bf_iload 0 dX12_spreads_107 rfl ?_
            rcases Decidable.em (bf_ok r6.1 6) with c12 | c12
            · have hf := (if_pos c12).symm.trans hf
              refine bf_lald dX12_spreads_109 (kr_12_14 hv0) (by rw [(kl_12_14 hv0)]; exact c12) ?_
              refine bf_lconst (v := 0) dX12_spreads_110 (by decide) ?_
              refine bf_lcmp dX12_spreads_111 ?_
              refine bf_if_le 163 dX12_spreads_112 (by decide) (fun c13 => ?_) (fun c13 => ?_)
              · have hf := (if_pos c13).symm.trans hf
                refine bf_aload_n 2 dX12_spreads_163 rfl rfl ?_
                refine fg_X12_27 dX12_spreads_164 rfl hv0 ?_
                refine bf_iload_n 1 dX12_spreads_167 rfl rfl ?_
                rcases Decidable.em (bf_ok r4.1 6) with c14 | c14
                · have hf := (if_pos c14).symm.trans hf
                  refine bf_lald dX12_spreads_168 (kr_12_14 hv0) (by rw [(kl_12_14 hv0)]; exact c14) ?_
                  refine bf_lconst (v := 0) dX12_spreads_169 (by decide) ?_
                  refine bf_lcmp dX12_spreads_170 ?_
                  refine bf_if_le 222 dX12_spreads_171 (by decide) (fun c15 => ?_) (fun c15 => ?_)
                  · have hf := (if_pos c15).symm.trans hf
                    refine bf_iinc 4 (v := _ + (1 : Int32)) (lv2 := [(2, .int _), (4, .int _), (3, .int _), (0, .ref _), (1, .int _)]) dX12_spreads_222 rfl (by rfl) (by decide) rfl ?_
                    refine bf_goto 10 dX12_spreads_225 (by decide) ?_
                    refine bf_perm [3, 4, 0] rfl ?_
                    exact ih _ _ _ _ hf
                  · have hf := (if_neg c15).symm.trans hf
                    refine bf_aload_n 2 dX12_spreads_174 rfl rfl ?_
                    refine fg_X12_27 dX12_spreads_175 rfl hv0 ?_
                    refine bf_iload_n 1 dX12_spreads_178 rfl rfl ?_
                    rcases Decidable.em (bf_ok r4.1 6) with c16 | c16
                    · have hf := (if_pos c16).symm.trans hf
                      refine bf_lald dX12_spreads_179 (kr_12_14 hv0) (by rw [(kl_12_14 hv0)]; exact c16) ?_
                      refine bf_aload_n 2 dX12_spreads_180 rfl rfl ?_
                      refine bf_iload_n 4 dX12_spreads_181 rfl rfl ?_
                      obtain ⟨r18, e17, hf⟩ := bf_bind hf
                      have hCe17 := ok_X12_puts (Γ := Γ) (ad := ad) hv0 e17
                      refine cv_X12_130 0 dX12_spreads_182 rfl ⟨Nat.le_of_ble_eq_true rfl, Nat.le_of_ble_eq_true rfl⟩ (Nat.le_of_ble_eq_true rfl) hv0 hCe17 ?_
                      refine bf_i2l dX12_spreads_185 ?_
                      refine bf_lmul dX12_spreads_186 ?_
                      refine bf_aload_n 2 dX12_spreads_187 rfl rfl ?_
                      refine fg_X12_31 dX12_spreads_188 rfl hv0 ?_
                      refine bf_iload 0 dX12_spreads_191 rfl ?_
                      rcases Decidable.em (bf_ok r6.1 6) with c19 | c19
                      · have hf := (if_pos c19).symm.trans hf
                        refine bf_lald dX12_spreads_193 (kr_12_15 hv0) (by rw [(kl_12_15 hv0)]; exact c19) ?_
                        refine bf_lmul dX12_spreads_194 ?_
                        refine bf_aload_n 2 dX12_spreads_195 rfl rfl ?_
                        refine fg_X12_27 dX12_spreads_196 rfl hv0 ?_
                        refine bf_iload 0 dX12_spreads_199 rfl ?_
                        rcases Decidable.em (bf_ok r6.1 6) with c20 | c20
                        · have hf := (if_pos c20).symm.trans hf
                          refine bf_lald dX12_spreads_201 (kr_12_14 hv0) (by rw [(kl_12_14 hv0)]; exact c20) ?_
                          refine bf_aload_n 2 dX12_spreads_202 rfl rfl ?_
                          refine bf_iload_n 4 dX12_spreads_203 rfl rfl ?_
                          obtain ⟨r22, e21, hf⟩ := bf_bind hf
                          have hCe21 := ok_X12_takes (Γ := Γ) (ad := ad) hv0 e21
                          refine cv_X12_124 0 dX12_spreads_204 rfl ⟨Nat.le_of_ble_eq_true rfl, Nat.le_of_ble_eq_true rfl⟩ (Nat.le_of_ble_eq_true rfl) hv0 hCe21 ?_
                          refine bf_i2l dX12_spreads_207 ?_
                          refine bf_lmul dX12_spreads_208 ?_
                          refine bf_aload_n 2 dX12_spreads_209 rfl rfl ?_
                          refine fg_X12_31 dX12_spreads_210 rfl hv0 ?_
                          refine bf_iload_n 1 dX12_spreads_213 rfl rfl ?_
                          rcases Decidable.em (bf_ok r4.1 6) with c23 | c23
                          · have hf := (if_pos c23).symm.trans hf
                            refine bf_lald dX12_spreads_214 (kr_12_15 hv0) (by rw [(kl_12_15 hv0)]; exact c23) ?_
                            refine bf_lmul dX12_spreads_215 ?_
                            refine bf_lcmp dX12_spreads_216 ?_
                            refine bf_if_eq 222 dX12_spreads_217 (by decide) (fun c24 => ?_) (fun c24 => ?_)
                            · have hf := (if_pos c24).symm.trans hf
                              refine bf_iinc 4 (v := _ + (1 : Int32)) (lv2 := [(2, .int _), (4, .int _), (3, .int _), (0, .ref _), (1, .int _)]) dX12_spreads_222 rfl (by rfl) (by decide) rfl ?_
                              refine bf_goto 10 dX12_spreads_225 (by decide) ?_
                              refine bf_perm [3, 4, 0] rfl ?_
                              exact ih _ _ _ _ hf
                            · have hf := (if_neg c24).symm.trans hf
                              refine bf_iconst (v := 0) dX12_spreads_220 (by decide) ?_
                              obtain rfl := Option.some.inj hf
                              exact bf_zret dX12_spreads_221 rfl rfl (Nat.le_refl _) (Nat.le_refl _) ⟨rfl, rfl⟩
                          · exact absurd ((if_neg c23).symm.trans hf) (by simp)
                        · exact absurd ((if_neg c20).symm.trans hf) (by simp)
                      · exact absurd ((if_neg c19).symm.trans hf) (by simp)
                    · exact absurd ((if_neg c16).symm.trans hf) (by simp)
                · exact absurd ((if_neg c14).symm.trans hf) (by simp)
              · have hf := (if_neg c13).symm.trans hf
                refine bf_aload_n 2 dX12_spreads_115 rfl rfl ?_
                refine fg_X12_27 dX12_spreads_116 rfl hv0 ?_
                refine bf_iload_n 1 dX12_spreads_119 rfl rfl ?_
                rcases Decidable.em (bf_ok r4.1 6) with c25 | c25
                · have hf := (if_pos c25).symm.trans hf
                  refine bf_lald dX12_spreads_120 (kr_12_14 hv0) (by rw [(kl_12_14 hv0)]; exact c25) ?_
                  refine bf_lconst (v := 0) dX12_spreads_121 (by decide) ?_
                  refine bf_lcmp dX12_spreads_122 ?_
                  refine bf_if_ne 163 dX12_spreads_123 (by decide) (fun c26 => ?_) (fun c26 => ?_)
                  · have hf := (if_neg c26).symm.trans hf
                    refine bf_aload_n 2 dX12_spreads_163 rfl rfl ?_
                    refine fg_X12_27 dX12_spreads_164 rfl hv0 ?_
                    refine bf_iload_n 1 dX12_spreads_167 rfl rfl ?_
                    rcases Decidable.em (bf_ok r4.1 6) with c27 | c27
                    · have hf := (if_pos c27).symm.trans hf
                      refine bf_lald dX12_spreads_168 (kr_12_14 hv0) (by rw [(kl_12_14 hv0)]; exact c27) ?_
                      refine bf_lconst (v := 0) dX12_spreads_169 (by decide) ?_
                      refine bf_lcmp dX12_spreads_170 ?_
                      refine bf_if_le 222 dX12_spreads_171 (by decide) (fun c28 => ?_) (fun c28 => ?_)
                      · have hf := (if_pos c28).symm.trans hf
                        refine bf_iinc 4 (v := _ + (1 : Int32)) (lv2 := [(2, .int _), (4, .int _), (3, .int _), (0, .ref _), (1, .int _)]) dX12_spreads_222 rfl (by rfl) (by decide) rfl ?_
                        refine bf_goto 10 dX12_spreads_225 (by decide) ?_
                        refine bf_perm [3, 4, 0] rfl ?_
                        exact ih _ _ _ _ hf
                      · have hf := (if_neg c28).symm.trans hf
                        refine bf_aload_n 2 dX12_spreads_174 rfl rfl ?_
                        refine fg_X12_27 dX12_spreads_175 rfl hv0 ?_
                        refine bf_iload_n 1 dX12_spreads_178 rfl rfl ?_
                        rcases Decidable.em (bf_ok r4.1 6) with c29 | c29
                        · have hf := (if_pos c29).symm.trans hf
                          refine bf_lald dX12_spreads_179 (kr_12_14 hv0) (by rw [(kl_12_14 hv0)]; exact c29) ?_
                          refine bf_aload_n 2 dX12_spreads_180 rfl rfl ?_
                          refine bf_iload_n 4 dX12_spreads_181 rfl rfl ?_
                          obtain ⟨r31, e30, hf⟩ := bf_bind hf
                          have hCe30 := ok_X12_puts (Γ := Γ) (ad := ad) hv0 e30
                          refine cv_X12_130 0 dX12_spreads_182 rfl ⟨Nat.le_of_ble_eq_true rfl, Nat.le_of_ble_eq_true rfl⟩ (Nat.le_of_ble_eq_true rfl) hv0 hCe30 ?_
                          refine bf_i2l dX12_spreads_185 ?_
                          refine bf_lmul dX12_spreads_186 ?_
                          refine bf_aload_n 2 dX12_spreads_187 rfl rfl ?_
                          refine fg_X12_31 dX12_spreads_188 rfl hv0 ?_
                          refine bf_iload 0 dX12_spreads_191 rfl ?_
                          rcases Decidable.em (bf_ok r6.1 6) with c32 | c32
                          · have hf := (if_pos c32).symm.trans hf
                            refine bf_lald dX12_spreads_193 (kr_12_15 hv0) (by rw [(kl_12_15 hv0)]; exact c32) ?_
                            refine bf_lmul dX12_spreads_194 ?_
                            refine bf_aload_n 2 dX12_spreads_195 rfl rfl ?_
                            refine fg_X12_27 dX12_spreads_196 rfl hv0 ?_
                            refine bf_iload 0 dX12_spreads_199 rfl ?_
                            rcases Decidable.em (bf_ok r6.1 6) with c33 | c33
                            · have hf := (if_pos c33).symm.trans hf
                              refine bf_lald dX12_spreads_201 (kr_12_14 hv0) (by rw [(kl_12_14 hv0)]; exact c33) ?_
                              refine bf_aload_n 2 dX12_spreads_202 rfl rfl ?_
                              refine bf_iload_n 4 dX12_spreads_203 rfl rfl ?_
                              obtain ⟨r35, e34, hf⟩ := bf_bind hf
                              have hCe34 := ok_X12_takes (Γ := Γ) (ad := ad) hv0 e34
                              refine cv_X12_124 0 dX12_spreads_204 rfl ⟨Nat.le_of_ble_eq_true rfl, Nat.le_of_ble_eq_true rfl⟩ (Nat.le_of_ble_eq_true rfl) hv0 hCe34 ?_
                              refine bf_i2l dX12_spreads_207 ?_
                              refine bf_lmul dX12_spreads_208 ?_
                              refine bf_aload_n 2 dX12_spreads_209 rfl rfl ?_
                              refine fg_X12_31 dX12_spreads_210 rfl hv0 ?_
                              refine bf_iload_n 1 dX12_spreads_213 rfl rfl ?_
                              rcases Decidable.em (bf_ok r4.1 6) with c36 | c36
                              · have hf := (if_pos c36).symm.trans hf
                                refine bf_lald dX12_spreads_214 (kr_12_15 hv0) (by rw [(kl_12_15 hv0)]; exact c36) ?_
                                refine bf_lmul dX12_spreads_215 ?_
                                refine bf_lcmp dX12_spreads_216 ?_
                                refine bf_if_eq 222 dX12_spreads_217 (by decide) (fun c37 => ?_) (fun c37 => ?_)
                                · have hf := (if_pos c37).symm.trans hf
                                  refine bf_iinc 4 (v := _ + (1 : Int32)) (lv2 := [(2, .int _), (4, .int _), (3, .int _), (0, .ref _), (1, .int _)]) dX12_spreads_222 rfl (by rfl) (by decide) rfl ?_
                                  refine bf_goto 10 dX12_spreads_225 (by decide) ?_
                                  refine bf_perm [3, 4, 0] rfl ?_
                                  exact ih _ _ _ _ hf
                                · have hf := (if_neg c37).symm.trans hf
                                  refine bf_iconst (v := 0) dX12_spreads_220 (by decide) ?_
                                  obtain rfl := Option.some.inj hf
                                  exact bf_zret dX12_spreads_221 rfl rfl (Nat.le_refl _) (Nat.le_refl _) ⟨rfl, rfl⟩
                              · exact absurd ((if_neg c36).symm.trans hf) (by simp)
                            · exact absurd ((if_neg c33).symm.trans hf) (by simp)
                          · exact absurd ((if_neg c32).symm.trans hf) (by simp)
                        · exact absurd ((if_neg c29).symm.trans hf) (by simp)
                    · exact absurd ((if_neg c27).symm.trans hf) (by simp)
                  · have hf := (if_pos c26).symm.trans hf
                    refine bf_aload_n 2 dX12_spreads_126 rfl rfl ?_
                    refine bf_iload_n 1 dX12_spreads_127 rfl rfl ?_
                    refine bf_aload_n 2 dX12_spreads_128 rfl rfl ?_
                    refine fg_X12_27 dX12_spreads_129 rfl hv0 ?_
                    refine bf_iload 0 dX12_spreads_132 rfl ?_
                    rcases Decidable.em (bf_ok r6.1 6) with c38 | c38
                    · have hf := (if_pos c38).symm.trans hf
                      refine bf_lald dX12_spreads_134 (kr_12_14 hv0) (by rw [(kl_12_14 hv0)]; exact c38) ?_
                      refine bf_aload_n 2 dX12_spreads_135 rfl rfl ?_
                      refine bf_iload_n 4 dX12_spreads_136 rfl rfl ?_
                      obtain ⟨r40, e39, hf⟩ := bf_bind hf
                      have hCe39 := ok_X12_takes (Γ := Γ) (ad := ad) hv0 e39
                      refine cv_X12_124 0 dX12_spreads_137 rfl ⟨Nat.le_of_ble_eq_true rfl, Nat.le_of_ble_eq_true rfl⟩ (Nat.le_of_ble_eq_true rfl) hv0 hCe39 ?_
                      refine bf_i2l dX12_spreads_140 ?_
                      refine bf_lmul dX12_spreads_141 ?_
                      refine bf_aload_n 2 dX12_spreads_142 rfl rfl ?_
                      refine fg_X12_31 dX12_spreads_143 rfl hv0 ?_
                      refine bf_iload 0 dX12_spreads_146 rfl ?_
                      rcases Decidable.em (bf_ok r6.1 6) with c41 | c41
                      · have hf := (if_pos c41).symm.trans hf
                        refine bf_lald dX12_spreads_148 (kr_12_15 hv0) (by rw [(kl_12_15 hv0)]; exact c41) ?_
                        refine bf_aload_n 2 dX12_spreads_149 rfl rfl ?_
                        refine bf_iload_n 4 dX12_spreads_150 rfl rfl ?_
                        obtain ⟨r43, e42, hf⟩ := bf_bind hf
                        have hCe42 := ok_X12_puts (Γ := Γ) (ad := ad) hv0 e42
                        refine cv_X12_130 0 dX12_spreads_151 rfl ⟨Nat.le_of_ble_eq_true rfl, Nat.le_of_ble_eq_true rfl⟩ (Nat.le_of_ble_eq_true rfl) hv0 hCe42 ?_
                        refine bf_i2l dX12_spreads_154 ?_
                        refine bf_lmul dX12_spreads_155 ?_
                        obtain ⟨r45, e44, hf⟩ := bf_bind hf
                        have hCe44 := ok_X12_sets (Γ := Γ) (ad := ad) hv0 e44
                        refine cv_X12_175 1 dX12_spreads_156 rfl ⟨Nat.le_of_ble_eq_true rfl, Nat.le_of_ble_eq_true rfl⟩ (Nat.le_of_ble_eq_true rfl) hv0 hCe44 ?_
                        refine bf_istore_n (lv2 := [(1, .int _), (4, .int _), (3, .int _), (0, .ref _), (2, .int _)]) dX12_spreads_159 rfl (by decide) rfl ?_
                        refine bf_goto 222 dX12_spreads_160 (by decide) ?_
                        refine bf_iinc 4 (v := _ + (1 : Int32)) (lv2 := [(2, .int _), (1, .int _), (4, .int _), (3, .int _), (0, .ref _)]) dX12_spreads_222 rfl (by rfl) (by decide) rfl ?_
                        refine bf_goto 10 dX12_spreads_225 (by decide) ?_
                        refine bf_perm [4, 1, 0] rfl ?_
                        exact ih _ _ _ _ hf
                      · exact absurd ((if_neg c41).symm.trans hf) (by simp)
                    · exact absurd ((if_neg c38).symm.trans hf) (by simp)
                · exact absurd ((if_neg c25).symm.trans hf) (by simp)
            · exact absurd ((if_neg c12).symm.trans hf) (by simp)
          · have hf := (if_neg c11).symm.trans hf
            refine bf_aload_n 2 dX12_spreads_55 rfl rfl ?_
            refine fg_X12_27 dX12_spreads_56 rfl hv0 ?_
            refine bf_iload 0 dX12_spreads_59 rfl ?_
            rcases Decidable.em (bf_ok r6.1 6) with c46 | c46
            · have hf := (if_pos c46).symm.trans hf
              refine bf_lald dX12_spreads_61 (kr_12_14 hv0) (by rw [(kl_12_14 hv0)]; exact c46) ?_
              refine bf_lconst (v := 0) dX12_spreads_62 (by decide) ?_
              refine bf_lcmp dX12_spreads_63 ?_
              refine bf_if_ne 103 dX12_spreads_64 (by decide) (fun c47 => ?_) (fun c47 => ?_)
              · have hf := (if_neg c47).symm.trans hf
                refine bf_aload_n 2 dX12_spreads_103 rfl rfl ?_
                refine fg_X12_27 dX12_spreads_104 rfl hv0 ?_
                refine bf_iload 0 dX12_spreads_107 rfl ?_
                rcases Decidable.em (bf_ok r6.1 6) with c48 | c48
                · have hf := (if_pos c48).symm.trans hf
                  refine bf_lald dX12_spreads_109 (kr_12_14 hv0) (by rw [(kl_12_14 hv0)]; exact c48) ?_
                  refine bf_lconst (v := 0) dX12_spreads_110 (by decide) ?_
                  refine bf_lcmp dX12_spreads_111 ?_
                  refine bf_if_le 163 dX12_spreads_112 (by decide) (fun c49 => ?_) (fun c49 => ?_)
                  · have hf := (if_pos c49).symm.trans hf
                    refine bf_aload_n 2 dX12_spreads_163 rfl rfl ?_
                    refine fg_X12_27 dX12_spreads_164 rfl hv0 ?_
                    refine bf_iload_n 1 dX12_spreads_167 rfl rfl ?_
                    rcases Decidable.em (bf_ok r4.1 6) with c50 | c50
                    · have hf := (if_pos c50).symm.trans hf
                      refine bf_lald dX12_spreads_168 (kr_12_14 hv0) (by rw [(kl_12_14 hv0)]; exact c50) ?_
                      refine bf_lconst (v := 0) dX12_spreads_169 (by decide) ?_
                      refine bf_lcmp dX12_spreads_170 ?_
                      refine bf_if_le 222 dX12_spreads_171 (by decide) (fun c51 => ?_) (fun c51 => ?_)
                      · have hf := (if_pos c51).symm.trans hf
                        refine bf_iinc 4 (v := _ + (1 : Int32)) (lv2 := [(2, .int _), (4, .int _), (3, .int _), (0, .ref _), (1, .int _)]) dX12_spreads_222 rfl (by rfl) (by decide) rfl ?_
                        refine bf_goto 10 dX12_spreads_225 (by decide) ?_
                        refine bf_perm [3, 4, 0] rfl ?_
                        exact ih _ _ _ _ hf
                      · have hf := (if_neg c51).symm.trans hf
                        refine bf_aload_n 2 dX12_spreads_174 rfl rfl ?_
                        refine fg_X12_27 dX12_spreads_175 rfl hv0 ?_
                        refine bf_iload_n 1 dX12_spreads_178 rfl rfl ?_
                        rcases Decidable.em (bf_ok r4.1 6) with c52 | c52
                        · have hf := (if_pos c52).symm.trans hf
                          refine bf_lald dX12_spreads_179 (kr_12_14 hv0) (by rw [(kl_12_14 hv0)]; exact c52) ?_
                          refine bf_aload_n 2 dX12_spreads_180 rfl rfl ?_
                          refine bf_iload_n 4 dX12_spreads_181 rfl rfl ?_
                          obtain ⟨r54, e53, hf⟩ := bf_bind hf
                          have hCe53 := ok_X12_puts (Γ := Γ) (ad := ad) hv0 e53
                          refine cv_X12_130 0 dX12_spreads_182 rfl ⟨Nat.le_of_ble_eq_true rfl, Nat.le_of_ble_eq_true rfl⟩ (Nat.le_of_ble_eq_true rfl) hv0 hCe53 ?_
                          refine bf_i2l dX12_spreads_185 ?_
                          refine bf_lmul dX12_spreads_186 ?_
                          refine bf_aload_n 2 dX12_spreads_187 rfl rfl ?_
                          refine fg_X12_31 dX12_spreads_188 rfl hv0 ?_
                          refine bf_iload 0 dX12_spreads_191 rfl ?_
                          rcases Decidable.em (bf_ok r6.1 6) with c55 | c55
                          · have hf := (if_pos c55).symm.trans hf
                            refine bf_lald dX12_spreads_193 (kr_12_15 hv0) (by rw [(kl_12_15 hv0)]; exact c55) ?_
                            refine bf_lmul dX12_spreads_194 ?_
                            refine bf_aload_n 2 dX12_spreads_195 rfl rfl ?_
                            refine fg_X12_27 dX12_spreads_196 rfl hv0 ?_
                            refine bf_iload 0 dX12_spreads_199 rfl ?_
                            rcases Decidable.em (bf_ok r6.1 6) with c56 | c56
                            · have hf := (if_pos c56).symm.trans hf
                              refine bf_lald dX12_spreads_201 (kr_12_14 hv0) (by rw [(kl_12_14 hv0)]; exact c56) ?_
                              refine bf_aload_n 2 dX12_spreads_202 rfl rfl ?_
                              refine bf_iload_n 4 dX12_spreads_203 rfl rfl ?_
                              obtain ⟨r58, e57, hf⟩ := bf_bind hf
                              have hCe57 := ok_X12_takes (Γ := Γ) (ad := ad) hv0 e57
                              refine cv_X12_124 0 dX12_spreads_204 rfl ⟨Nat.le_of_ble_eq_true rfl, Nat.le_of_ble_eq_true rfl⟩ (Nat.le_of_ble_eq_true rfl) hv0 hCe57 ?_
                              refine bf_i2l dX12_spreads_207 ?_
                              refine bf_lmul dX12_spreads_208 ?_
                              refine bf_aload_n 2 dX12_spreads_209 rfl rfl ?_
                              refine fg_X12_31 dX12_spreads_210 rfl hv0 ?_
                              refine bf_iload_n 1 dX12_spreads_213 rfl rfl ?_
                              rcases Decidable.em (bf_ok r4.1 6) with c59 | c59
                              · have hf := (if_pos c59).symm.trans hf
                                refine bf_lald dX12_spreads_214 (kr_12_15 hv0) (by rw [(kl_12_15 hv0)]; exact c59) ?_
                                refine bf_lmul dX12_spreads_215 ?_
                                refine bf_lcmp dX12_spreads_216 ?_
                                refine bf_if_eq 222 dX12_spreads_217 (by decide) (fun c60 => ?_) (fun c60 => ?_)
                                · have hf := (if_pos c60).symm.trans hf
                                  refine bf_iinc 4 (v := _ + (1 : Int32)) (lv2 := [(2, .int _), (4, .int _), (3, .int _), (0, .ref _), (1, .int _)]) dX12_spreads_222 rfl (by rfl) (by decide) rfl ?_
                                  refine bf_goto 10 dX12_spreads_225 (by decide) ?_
                                  refine bf_perm [3, 4, 0] rfl ?_
                                  exact ih _ _ _ _ hf
                                · have hf := (if_neg c60).symm.trans hf
                                  refine bf_iconst (v := 0) dX12_spreads_220 (by decide) ?_
                                  obtain rfl := Option.some.inj hf
                                  exact bf_zret dX12_spreads_221 rfl rfl (Nat.le_refl _) (Nat.le_refl _) ⟨rfl, rfl⟩
                              · exact absurd ((if_neg c59).symm.trans hf) (by simp)
                            · exact absurd ((if_neg c56).symm.trans hf) (by simp)
                          · exact absurd ((if_neg c55).symm.trans hf) (by simp)
                        · exact absurd ((if_neg c52).symm.trans hf) (by simp)
                    · exact absurd ((if_neg c50).symm.trans hf) (by simp)
                  · have hf := (if_neg c49).symm.trans hf
                    refine bf_aload_n 2 dX12_spreads_115 rfl rfl ?_
                    refine fg_X12_27 dX12_spreads_116 rfl hv0 ?_
                    refine bf_iload_n 1 dX12_spreads_119 rfl rfl ?_
                    rcases Decidable.em (bf_ok r4.1 6) with c61 | c61
                    · have hf := (if_pos c61).symm.trans hf
                      refine bf_lald dX12_spreads_120 (kr_12_14 hv0) (by rw [(kl_12_14 hv0)]; exact c61) ?_
                      refine bf_lconst (v := 0) dX12_spreads_121 (by decide) ?_
                      refine bf_lcmp dX12_spreads_122 ?_
                      refine bf_if_ne 163 dX12_spreads_123 (by decide) (fun c62 => ?_) (fun c62 => ?_)
                      · have hf := (if_neg c62).symm.trans hf
                        refine bf_aload_n 2 dX12_spreads_163 rfl rfl ?_
                        refine fg_X12_27 dX12_spreads_164 rfl hv0 ?_
                        refine bf_iload_n 1 dX12_spreads_167 rfl rfl ?_
                        rcases Decidable.em (bf_ok r4.1 6) with c63 | c63
                        · have hf := (if_pos c63).symm.trans hf
                          refine bf_lald dX12_spreads_168 (kr_12_14 hv0) (by rw [(kl_12_14 hv0)]; exact c63) ?_
                          refine bf_lconst (v := 0) dX12_spreads_169 (by decide) ?_
                          refine bf_lcmp dX12_spreads_170 ?_
                          refine bf_if_le 222 dX12_spreads_171 (by decide) (fun c64 => ?_) (fun c64 => ?_)
                          · have hf := (if_pos c64).symm.trans hf
                            refine bf_iinc 4 (v := _ + (1 : Int32)) (lv2 := [(2, .int _), (4, .int _), (3, .int _), (0, .ref _), (1, .int _)]) dX12_spreads_222 rfl (by rfl) (by decide) rfl ?_
                            refine bf_goto 10 dX12_spreads_225 (by decide) ?_
                            refine bf_perm [3, 4, 0] rfl ?_
                            exact ih _ _ _ _ hf
                          · have hf := (if_neg c64).symm.trans hf
                            refine bf_aload_n 2 dX12_spreads_174 rfl rfl ?_
                            refine fg_X12_27 dX12_spreads_175 rfl hv0 ?_
                            refine bf_iload_n 1 dX12_spreads_178 rfl rfl ?_
                            rcases Decidable.em (bf_ok r4.1 6) with c65 | c65
                            · have hf := (if_pos c65).symm.trans hf
                              refine bf_lald dX12_spreads_179 (kr_12_14 hv0) (by rw [(kl_12_14 hv0)]; exact c65) ?_
                              refine bf_aload_n 2 dX12_spreads_180 rfl rfl ?_
                              refine bf_iload_n 4 dX12_spreads_181 rfl rfl ?_
                              obtain ⟨r67, e66, hf⟩ := bf_bind hf
                              have hCe66 := ok_X12_puts (Γ := Γ) (ad := ad) hv0 e66
                              refine cv_X12_130 0 dX12_spreads_182 rfl ⟨Nat.le_of_ble_eq_true rfl, Nat.le_of_ble_eq_true rfl⟩ (Nat.le_of_ble_eq_true rfl) hv0 hCe66 ?_
                              refine bf_i2l dX12_spreads_185 ?_
                              refine bf_lmul dX12_spreads_186 ?_
                              refine bf_aload_n 2 dX12_spreads_187 rfl rfl ?_
                              refine fg_X12_31 dX12_spreads_188 rfl hv0 ?_
                              refine bf_iload 0 dX12_spreads_191 rfl ?_
                              rcases Decidable.em (bf_ok r6.1 6) with c68 | c68
                              · have hf := (if_pos c68).symm.trans hf
                                refine bf_lald dX12_spreads_193 (kr_12_15 hv0) (by rw [(kl_12_15 hv0)]; exact c68) ?_
                                refine bf_lmul dX12_spreads_194 ?_
                                refine bf_aload_n 2 dX12_spreads_195 rfl rfl ?_
                                refine fg_X12_27 dX12_spreads_196 rfl hv0 ?_
                                refine bf_iload 0 dX12_spreads_199 rfl ?_
                                rcases Decidable.em (bf_ok r6.1 6) with c69 | c69
                                · have hf := (if_pos c69).symm.trans hf
                                  refine bf_lald dX12_spreads_201 (kr_12_14 hv0) (by rw [(kl_12_14 hv0)]; exact c69) ?_
                                  refine bf_aload_n 2 dX12_spreads_202 rfl rfl ?_
                                  refine bf_iload_n 4 dX12_spreads_203 rfl rfl ?_
                                  obtain ⟨r71, e70, hf⟩ := bf_bind hf
                                  have hCe70 := ok_X12_takes (Γ := Γ) (ad := ad) hv0 e70
                                  refine cv_X12_124 0 dX12_spreads_204 rfl ⟨Nat.le_of_ble_eq_true rfl, Nat.le_of_ble_eq_true rfl⟩ (Nat.le_of_ble_eq_true rfl) hv0 hCe70 ?_
                                  refine bf_i2l dX12_spreads_207 ?_
                                  refine bf_lmul dX12_spreads_208 ?_
                                  refine bf_aload_n 2 dX12_spreads_209 rfl rfl ?_
                                  refine fg_X12_31 dX12_spreads_210 rfl hv0 ?_
                                  refine bf_iload_n 1 dX12_spreads_213 rfl rfl ?_
                                  rcases Decidable.em (bf_ok r4.1 6) with c72 | c72
                                  · have hf := (if_pos c72).symm.trans hf
                                    refine bf_lald dX12_spreads_214 (kr_12_15 hv0) (by rw [(kl_12_15 hv0)]; exact c72) ?_
                                    refine bf_lmul dX12_spreads_215 ?_
                                    refine bf_lcmp dX12_spreads_216 ?_
                                    refine bf_if_eq 222 dX12_spreads_217 (by decide) (fun c73 => ?_) (fun c73 => ?_)
                                    · have hf := (if_pos c73).symm.trans hf
                                      refine bf_iinc 4 (v := _ + (1 : Int32)) (lv2 := [(2, .int _), (4, .int _), (3, .int _), (0, .ref _), (1, .int _)]) dX12_spreads_222 rfl (by rfl) (by decide) rfl ?_
                                      refine bf_goto 10 dX12_spreads_225 (by decide) ?_
                                      refine bf_perm [3, 4, 0] rfl ?_
                                      exact ih _ _ _ _ hf
                                    · have hf := (if_neg c73).symm.trans hf
                                      refine bf_iconst (v := 0) dX12_spreads_220 (by decide) ?_
                                      obtain rfl := Option.some.inj hf
                                      exact bf_zret dX12_spreads_221 rfl rfl (Nat.le_refl _) (Nat.le_refl _) ⟨rfl, rfl⟩
                                  · exact absurd ((if_neg c72).symm.trans hf) (by simp)
                                · exact absurd ((if_neg c69).symm.trans hf) (by simp)
                              · exact absurd ((if_neg c68).symm.trans hf) (by simp)
                            · exact absurd ((if_neg c65).symm.trans hf) (by simp)
                        · exact absurd ((if_neg c63).symm.trans hf) (by simp)
                      · have hf := (if_pos c62).symm.trans hf
                        refine bf_aload_n 2 dX12_spreads_126 rfl rfl ?_
                        refine bf_iload_n 1 dX12_spreads_127 rfl rfl ?_
                        refine bf_aload_n 2 dX12_spreads_128 rfl rfl ?_
                        refine fg_X12_27 dX12_spreads_129 rfl hv0 ?_
                        refine bf_iload 0 dX12_spreads_132 rfl ?_
                        rcases Decidable.em (bf_ok r6.1 6) with c74 | c74
                        · have hf := (if_pos c74).symm.trans hf
                          refine bf_lald dX12_spreads_134 (kr_12_14 hv0) (by rw [(kl_12_14 hv0)]; exact c74) ?_
                          refine bf_aload_n 2 dX12_spreads_135 rfl rfl ?_
                          refine bf_iload_n 4 dX12_spreads_136 rfl rfl ?_
                          obtain ⟨r76, e75, hf⟩ := bf_bind hf
                          have hCe75 := ok_X12_takes (Γ := Γ) (ad := ad) hv0 e75
                          refine cv_X12_124 0 dX12_spreads_137 rfl ⟨Nat.le_of_ble_eq_true rfl, Nat.le_of_ble_eq_true rfl⟩ (Nat.le_of_ble_eq_true rfl) hv0 hCe75 ?_
                          refine bf_i2l dX12_spreads_140 ?_
                          refine bf_lmul dX12_spreads_141 ?_
                          refine bf_aload_n 2 dX12_spreads_142 rfl rfl ?_
                          refine fg_X12_31 dX12_spreads_143 rfl hv0 ?_
                          refine bf_iload 0 dX12_spreads_146 rfl ?_
                          rcases Decidable.em (bf_ok r6.1 6) with c77 | c77
                          · have hf := (if_pos c77).symm.trans hf
                            refine bf_lald dX12_spreads_148 (kr_12_15 hv0) (by rw [(kl_12_15 hv0)]; exact c77) ?_
                            refine bf_aload_n 2 dX12_spreads_149 rfl rfl ?_
                            refine bf_iload_n 4 dX12_spreads_150 rfl rfl ?_
                            obtain ⟨r79, e78, hf⟩ := bf_bind hf
                            have hCe78 := ok_X12_puts (Γ := Γ) (ad := ad) hv0 e78
                            refine cv_X12_130 0 dX12_spreads_151 rfl ⟨Nat.le_of_ble_eq_true rfl, Nat.le_of_ble_eq_true rfl⟩ (Nat.le_of_ble_eq_true rfl) hv0 hCe78 ?_
                            refine bf_i2l dX12_spreads_154 ?_
                            refine bf_lmul dX12_spreads_155 ?_
                            obtain ⟨r81, e80, hf⟩ := bf_bind hf
                            have hCe80 := ok_X12_sets (Γ := Γ) (ad := ad) hv0 e80
                            refine cv_X12_175 1 dX12_spreads_156 rfl ⟨Nat.le_of_ble_eq_true rfl, Nat.le_of_ble_eq_true rfl⟩ (Nat.le_of_ble_eq_true rfl) hv0 hCe80 ?_
                            refine bf_istore_n (lv2 := [(1, .int _), (4, .int _), (3, .int _), (0, .ref _), (2, .int _)]) dX12_spreads_159 rfl (by decide) rfl ?_
                            refine bf_goto 222 dX12_spreads_160 (by decide) ?_
                            refine bf_iinc 4 (v := _ + (1 : Int32)) (lv2 := [(2, .int _), (1, .int _), (4, .int _), (3, .int _), (0, .ref _)]) dX12_spreads_222 rfl (by rfl) (by decide) rfl ?_
                            refine bf_goto 10 dX12_spreads_225 (by decide) ?_
                            refine bf_perm [4, 1, 0] rfl ?_
                            exact ih _ _ _ _ hf
                          · exact absurd ((if_neg c77).symm.trans hf) (by simp)
                        · exact absurd ((if_neg c74).symm.trans hf) (by simp)
                    · exact absurd ((if_neg c61).symm.trans hf) (by simp)
                · exact absurd ((if_neg c48).symm.trans hf) (by simp)
              · have hf := (if_pos c47).symm.trans hf
                refine bf_aload_n 2 dX12_spreads_67 rfl rfl ?_
                refine bf_iload 0 dX12_spreads_68 rfl ?_
                refine bf_aload_n 2 dX12_spreads_70 rfl rfl ?_
                refine fg_X12_27 dX12_spreads_71 rfl hv0 ?_
                refine bf_iload_n 1 dX12_spreads_74 rfl rfl ?_
                rcases Decidable.em (bf_ok r4.1 6) with c82 | c82
                · have hf := (if_pos c82).symm.trans hf
                  refine bf_lald dX12_spreads_75 (kr_12_14 hv0) (by rw [(kl_12_14 hv0)]; exact c82) ?_
                  refine bf_aload_n 2 dX12_spreads_76 rfl rfl ?_
                  refine bf_iload_n 4 dX12_spreads_77 rfl rfl ?_
                  obtain ⟨r84, e83, hf⟩ := bf_bind hf
                  have hCe83 := ok_X12_puts (Γ := Γ) (ad := ad) hv0 e83
                  refine cv_X12_130 0 dX12_spreads_78 rfl ⟨Nat.le_of_ble_eq_true rfl, Nat.le_of_ble_eq_true rfl⟩ (Nat.le_of_ble_eq_true rfl) hv0 hCe83 ?_
                  refine bf_i2l dX12_spreads_81 ?_
                  refine bf_lmul dX12_spreads_82 ?_
                  refine bf_aload_n 2 dX12_spreads_83 rfl rfl ?_
                  refine fg_X12_31 dX12_spreads_84 rfl hv0 ?_
                  refine bf_iload_n 1 dX12_spreads_87 rfl rfl ?_
                  rcases Decidable.em (bf_ok r4.1 6) with c85 | c85
                  · have hf := (if_pos c85).symm.trans hf
                    refine bf_lald dX12_spreads_88 (kr_12_15 hv0) (by rw [(kl_12_15 hv0)]; exact c85) ?_
                    refine bf_aload_n 2 dX12_spreads_89 rfl rfl ?_
                    refine bf_iload_n 4 dX12_spreads_90 rfl rfl ?_
                    obtain ⟨r87, e86, hf⟩ := bf_bind hf
                    have hCe86 := ok_X12_takes (Γ := Γ) (ad := ad) hv0 e86
                    refine cv_X12_124 0 dX12_spreads_91 rfl ⟨Nat.le_of_ble_eq_true rfl, Nat.le_of_ble_eq_true rfl⟩ (Nat.le_of_ble_eq_true rfl) hv0 hCe86 ?_
                    refine bf_i2l dX12_spreads_94 ?_
                    refine bf_lmul dX12_spreads_95 ?_
                    obtain ⟨r89, e88, hf⟩ := bf_bind hf
                    have hCe88 := ok_X12_sets (Γ := Γ) (ad := ad) hv0 e88
                    refine cv_X12_175 1 dX12_spreads_96 rfl ⟨Nat.le_of_ble_eq_true rfl, Nat.le_of_ble_eq_true rfl⟩ (Nat.le_of_ble_eq_true rfl) hv0 hCe88 ?_
                    refine bf_istore_n (lv2 := [(1, .int _), (4, .int _), (3, .int _), (0, .ref _), (2, .int _)]) dX12_spreads_99 rfl (by decide) rfl ?_
                    refine bf_goto 222 dX12_spreads_100 (by decide) ?_
                    refine bf_iinc 4 (v := _ + (1 : Int32)) (lv2 := [(2, .int _), (1, .int _), (4, .int _), (3, .int _), (0, .ref _)]) dX12_spreads_222 rfl (by rfl) (by decide) rfl ?_
                    refine bf_goto 10 dX12_spreads_225 (by decide) ?_
                    refine bf_perm [4, 1, 0] rfl ?_
                    exact ih _ _ _ _ hf
                  · exact absurd ((if_neg c85).symm.trans hf) (by simp)
                · exact absurd ((if_neg c82).symm.trans hf) (by simp)
            · exact absurd ((if_neg c46).symm.trans hf) (by simp)
        · exact absurd ((if_neg c10).symm.trans hf) (by simp)
      · have hf := (if_pos c9).symm.trans hf
        refine bf_goto 222 dX12_spreads_41 (by decide) ?_
        refine bf_iinc 4 (v := _ + (1 : Int32)) (lv2 := [(2, .int _), (4, .int _), (3, .int _), (0, .ref _), (1, .int _)]) dX12_spreads_222 rfl (by rfl) (by decide) rfl ?_
        refine bf_goto 10 dX12_spreads_225 (by decide) ?_
        refine bf_perm [3, 4, 0] rfl ?_
        exact ih _ _ _ _ hf
def f_X12_spreads_2 (v0 : Nat) (K : (Nat → Nat → Int32) → (Nat → Nat → Int64) → Option (Int32 × bf_St)) : Nat → Int32 → (Nat → Nat → Int32) → (Nat → Nat → Int64) → Option (Int32 × bf_St)
  | 0, _, _, _ => none
  | n + 1, v1, I, L =>
    (if v1 = 0 then (K I L) else (f_X12_spreads_10 v0 (fun k1_90 I90 L90 => (f_X12_spreads_2 v0 K n k1_90 I90 L90)) 400 (0 : Int32) (0 : Int32) I L))
set_option maxRecDepth 100000 in
set_option maxHeartbeats 4000000 in
theorem ok_X12_spreads_2 {Γ : bf_Gm} {ad : Nat → Nat} {v0 : Nat} (hv0 : bf_kd v0 = 12) {r : Int32 × bf_St} {K : (Nat → Nat → Int32) → (Nat → Nat → Int64) → Option (Int32 × bf_St)} (hK : ∀ (I : Nat → Nat → Int32) (L : Nat → Nat → Int64), K  I L = some r → bf_Go Γ (bf_rm 2 0 0) mu_X12_spreads bf_E0 (bf_Z Γ (fun q h => q = some (.int r.1) ∧ h = bf_S ad r.2.1 r.2.2) 0 0) (0, 0) 231 [] [] (bf_S ad I L)) : ∀ (n : Nat) (v1 : Int32) (I : Nat → Nat → Int32) (L : Nat → Nat → Int64), f_X12_spreads_2 v0 K n v1 I L = some r → bf_Go Γ (bf_rm 2 0 0) mu_X12_spreads bf_E0 (bf_Z Γ (fun q h => q = some (.int r.1) ∧ h = bf_S ad r.2.1 r.2.2) 0 0) (0, 0) 2 [(0, .ref (ad v0)), (1, .int v1)] [] (bf_S ad I L) := by
  intro n
  induction n with
  | zero => intro v1 I L hf; exact absurd (show none = some r from hf) (by simp)
  | succ n ih =>
    intro v1 I L hf
    rw [f_X12_spreads_2] at hf
    refine bf_iload_n 1 dX12_spreads_2 rfl rfl ?_
    refine bf_if_eq 231 dX12_spreads_3 (by decide) (fun c1 => ?_) (fun c1 => ?_)
    · have hf := (if_pos c1).symm.trans hf
      refine bf_perm [] rfl ?_
      exact hK _ _ hf
    · have hf := (if_neg c1).symm.trans hf
      refine bf_iconst (v := 0) dX12_spreads_6 (by decide) ?_
      refine bf_istore_n (lv2 := [(1, .int _), (0, .ref _)]) dX12_spreads_7 rfl (by decide) rfl ?_
      refine bf_iconst (v := 0) dX12_spreads_8 (by decide) ?_
      refine bf_istore_n (lv2 := [(2, .int _), (1, .int _), (0, .ref _)]) dX12_spreads_9 rfl (by decide) rfl ?_
      refine bf_perm [2, 1, 0] rfl ?_
      refine ok_X12_spreads_10 hv0 (fun k1_90 I90 L90 hf => ?_) _ _ _ _ _  hf
      refine bf_goto 2 dX12_spreads_228 (by decide) ?_
      exact ih _ _ _ hf
def f_X12_spreads (o : Nat) (I : Nat → Nat → Int32) (L : Nat → Nat → Int64) : Option (Int32 × bf_St) :=
  (f_X12_spreads_2 o (fun I91 L91 => (some ((1 : Int32), I91, L91))) 400 (1 : Int32) I L)
set_option maxRecDepth 100000 in
set_option maxHeartbeats 4000000 in
theorem ok_X12_spreads {Γ : bf_Gm} {ad : Nat → Nat} {o : Nat} {I : Nat → Nat → Int32} {L : Nat → Nat → Int64} (hk : bf_kd o = 12) {r : Int32 × bf_St} (hf : f_X12_spreads o I L = some r) : bf_Cn Γ 2 mu_X12_spreads 0 0 [.ref (ad o)] (bf_S ad I L) (fun q h => q = some (.int r.1) ∧ h = bf_S ad r.2.1 r.2.2) := by
  refine bf_met rfl (Nat.le_of_ble_eq_true rfl) ?_
  unfold f_X12_spreads at hf
  refine bf_iconst (v := 1) dX12_spreads_0 (by decide) ?_
  refine bf_istore_n (lv2 := [(1, .int _), (0, .ref _)]) dX12_spreads_1 rfl (by decide) rfl ?_
  refine bf_perm [1, 0] rfl ?_
  refine ok_X12_spreads_2 hk (fun I91 L91 hf => ?_) _ _ _ _  hf
  refine bf_iconst (v := 1) dX12_spreads_231 (by decide) ?_
  obtain rfl := Option.some.inj hf
  exact bf_zret dX12_spreads_232 rfl rfl (Nat.le_refl _) (Nat.le_refl _) ⟨rfl, rfl⟩
def f_X12_lotOf_15 (v0 : Nat) (v3 : Int32) (K : Int32 → (Nat → Nat → Int32) → (Nat → Nat → Int64) → Option (Int32 × bf_St)) : Nat → Int32 → Int32 → (Nat → Nat → Int32) → (Nat → Nat → Int64) → Option (Int32 × bf_St)
  | 0, _, _, _, _ => none
  | n + 1, v2, v4, I, L =>
    (if (I (v0 + 1) (1 : Int32).toNatClampNeg) ≤ v4 then (K v2 I L) else ((f_X12_isWire v0 v4 I L).bind (fun r4 => (if r4.1 = 0 then (f_X12_lotOf_15 v0 v3 K n (v2 ||| (0 : Int32)) (v4 + (1 : Int32)) r4.2.1 r4.2.2) else ((f_X12_from v0 v4 r4.2.1 r4.2.2).bind (fun r7 => (if ((v2 >>> (r7.1 &&& 31)) &&& (1 : Int32)) = (1 : Int32) then ((f_X12_from v0 v4 r7.2.1 r7.2.2).bind (fun r10 => ((f_X12_to v0 v4 r10.2.1 r10.2.2).bind (fun r12 => (f_X12_lotOf_15 v0 v3 K n (v2 ||| (((1 : Int32) <<< (r10.1 &&& 31)) ||| ((1 : Int32) <<< (r12.1 &&& 31)))) (v4 + (1 : Int32)) r12.2.1 r12.2.2))))) else ((f_X12_to v0 v4 r7.2.1 r7.2.2).bind (fun r14 => (if ((v2 >>> (r14.1 &&& 31)) &&& (1 : Int32)) = (1 : Int32) then ((f_X12_from v0 v4 r14.2.1 r14.2.2).bind (fun r17 => ((f_X12_to v0 v4 r17.2.1 r17.2.2).bind (fun r19 => (f_X12_lotOf_15 v0 v3 K n (v2 ||| (((1 : Int32) <<< (r17.1 &&& 31)) ||| ((1 : Int32) <<< (r19.1 &&& 31)))) (v4 + (1 : Int32)) r19.2.1 r19.2.2))))) else (f_X12_lotOf_15 v0 v3 K n (v2 ||| (0 : Int32)) (v4 + (1 : Int32)) r14.2.1 r14.2.2)))))))))))
set_option maxRecDepth 100000 in
set_option maxHeartbeats 4000000 in
theorem ok_X12_lotOf_15 {Γ : bf_Gm} {ad : Nat → Nat} {v0 : Nat} {v3 : Int32} (hv0 : bf_kd v0 = 12) {r : Int32 × bf_St} {K : Int32 → (Nat → Nat → Int32) → (Nat → Nat → Int64) → Option (Int32 × bf_St)} (hK : ∀ (v2 : Int32) (I : Nat → Nat → Int32) (L : Nat → Nat → Int64), K v2 I L = some r → bf_Go Γ (bf_rm 2 0 0) mu_X12_lotOf bf_E0 (bf_Z Γ (fun q h => q = some (.int r.1) ∧ h = bf_S ad r.2.1 r.2.2) 0 0) (0, 0) 105 [(0, .ref (ad v0)), (2, .int v2), (3, .int v3)] [] (bf_S ad I L)) : ∀ (n : Nat) (v2 : Int32) (v4 : Int32) (I : Nat → Nat → Int32) (L : Nat → Nat → Int64), f_X12_lotOf_15 v0 v3 K n v2 v4 I L = some r → bf_Go Γ (bf_rm 2 0 0) mu_X12_lotOf bf_E0 (bf_Z Γ (fun q h => q = some (.int r.1) ∧ h = bf_S ad r.2.1 r.2.2) 0 0) (0, 0) 15 [(0, .ref (ad v0)), (2, .int v2), (3, .int v3), (4, .int v4)] [] (bf_S ad I L) := by
  intro n
  induction n with
  | zero => intro v2 v4 I L hf; exact absurd (show none = some r from hf) (by simp)
  | succ n ih =>
    intro v2 v4 I L hf
    rw [f_X12_lotOf_15] at hf
    refine bf_iload 3 dX12_lotOf_15 rfl ?_
    refine bf_aload_n 0 dX12_lotOf_17 rfl rfl ?_
    refine fg_X12_11 dX12_lotOf_18 rfl hv0 ?_
    refine bf_iconst (v := 1) dX12_lotOf_21 (by decide) ?_
    refine bf_iald dX12_lotOf_22 (kr_12_0 hv0) (by rw [(kl_12_0 hv0)]; decide) ?_
    refine bf_icmp_ge 105 dX12_lotOf_23 (by decide) (fun c2 => ?_) (fun c2 => ?_)
    · have hf := (if_pos c2).symm.trans hf
      refine bf_perm [0, 1, 2] rfl ?_
      exact hK _ _ _ hf
    · have hf := (if_neg c2).symm.trans hf
      refine bf_aload_n 0 dX12_lotOf_26 rfl rfl ?_
      refine bf_iload 3 dX12_lotOf_27 rfl ?_
      obtain ⟨r4, e3, hf⟩ := bf_bind hf
      have hCe3 := ok_X12_isWire (Γ := Γ) (ad := ad) hv0 e3
      refine cv_X12_73 1 dX12_lotOf_29 rfl ⟨Nat.le_of_ble_eq_true rfl, Nat.le_of_ble_eq_true rfl⟩ (Nat.le_of_ble_eq_true rfl) hv0 hCe3 ?_
      refine bf_if_eq 67 dX12_lotOf_32 (by decide) (fun c5 => ?_) (fun c5 => ?_)
      · have hf := (if_pos c5).symm.trans hf
        refine bf_iconst (v := 0) dX12_lotOf_67 (by decide) ?_
        refine bf_istore (lv2 := [(5, .int _), (0, .ref _), (2, .int _), (3, .int _), (4, .int _)]) dX12_lotOf_68 (by decide) rfl ?_
        refine bf_iload_n 2 dX12_lotOf_70 rfl rfl ?_
        refine bf_iload 0 dX12_lotOf_71 rfl ?_
        refine bf_if_eq 96 dX12_lotOf_73 (by decide) (fun _ => ?_) (fun q => absurd q (by decide))
        refine bf_iconst (v := 0) dX12_lotOf_96 (by decide) ?_
        refine bf_ior dX12_lotOf_97 ?_
        refine bf_istore_n (lv2 := [(2, .int _), (5, .int _), (0, .ref _), (3, .int _), (4, .int _)]) dX12_lotOf_98 rfl (by decide) rfl ?_
        refine bf_iinc 4 (v := _ + (1 : Int32)) (lv2 := [(4, .int _), (2, .int _), (5, .int _), (0, .ref _), (3, .int _)]) dX12_lotOf_99 rfl (by rfl) (by decide) rfl ?_
        refine bf_goto 15 dX12_lotOf_102 (by decide) ?_
        refine bf_perm [3, 1, 4, 0] rfl ?_
        exact ih _ _ _ _ hf
      · have hf := (if_neg c5).symm.trans hf
        refine bf_iload_n 1 dX12_lotOf_35 rfl rfl ?_
        refine bf_aload_n 0 dX12_lotOf_36 rfl rfl ?_
        refine bf_iload 3 dX12_lotOf_37 rfl ?_
        obtain ⟨r7, e6, hf⟩ := bf_bind hf
        have hCe6 := ok_X12_from (Γ := Γ) (ad := ad) hv0 e6
        refine cv_X12_127 0 dX12_lotOf_39 rfl ⟨Nat.le_of_ble_eq_true rfl, Nat.le_of_ble_eq_true rfl⟩ (Nat.le_of_ble_eq_true rfl) hv0 hCe6 ?_
        refine bf_ishr dX12_lotOf_42 ?_
        refine bf_iconst (v := 1) dX12_lotOf_43 (by decide) ?_
        refine bf_iand dX12_lotOf_44 ?_
        refine bf_iconst (v := 1) dX12_lotOf_45 (by decide) ?_
        refine bf_icmp_eq 63 dX12_lotOf_46 (by decide) (fun c8 => ?_) (fun c8 => ?_)
        · have hf := (if_pos c8).symm.trans hf
          refine bf_iconst (v := 1) dX12_lotOf_63 (by decide) ?_
          refine bf_goto 68 dX12_lotOf_64 (by decide) ?_
          refine bf_istore (lv2 := [(5, .int _), (0, .ref _), (2, .int _), (3, .int _), (4, .int _)]) dX12_lotOf_68 (by decide) rfl ?_
          refine bf_iload_n 2 dX12_lotOf_70 rfl rfl ?_
          refine bf_iload 0 dX12_lotOf_71 rfl ?_
          refine bf_if_eq 96 dX12_lotOf_73 (by decide) (fun q => absurd q (by decide)) (fun _ => ?_)
          refine bf_iconst (v := 1) dX12_lotOf_76 (by decide) ?_
          refine bf_aload_n 1 dX12_lotOf_77 rfl rfl ?_
          refine bf_iload 4 dX12_lotOf_78 rfl ?_
          obtain ⟨r10, e9, hf⟩ := bf_bind hf
          have hCe9 := ok_X12_from (Γ := Γ) (ad := ad) hv0 e9
          refine cv_X12_127 0 dX12_lotOf_80 rfl ⟨Nat.le_of_ble_eq_true rfl, Nat.le_of_ble_eq_true rfl⟩ (Nat.le_of_ble_eq_true rfl) hv0 hCe9 ?_
          refine bf_ishl dX12_lotOf_83 ?_
          refine bf_iconst (v := 1) dX12_lotOf_84 (by decide) ?_
          refine bf_aload_n 1 dX12_lotOf_85 rfl rfl ?_
          refine bf_iload 4 dX12_lotOf_86 rfl ?_
          obtain ⟨r12, e11, hf⟩ := bf_bind hf
          have hCe11 := ok_X12_to (Γ := Γ) (ad := ad) hv0 e11
          refine cv_X12_121 0 dX12_lotOf_88 rfl ⟨Nat.le_of_ble_eq_true rfl, Nat.le_of_ble_eq_true rfl⟩ (Nat.le_of_ble_eq_true rfl) hv0 hCe11 ?_
          refine bf_ishl dX12_lotOf_91 ?_
          refine bf_ior dX12_lotOf_92 ?_
          refine bf_goto 97 dX12_lotOf_93 (by decide) ?_
          refine bf_ior dX12_lotOf_97 ?_
          refine bf_istore_n (lv2 := [(2, .int _), (5, .int _), (0, .ref _), (3, .int _), (4, .int _)]) dX12_lotOf_98 rfl (by decide) rfl ?_
          refine bf_iinc 4 (v := _ + (1 : Int32)) (lv2 := [(4, .int _), (2, .int _), (5, .int _), (0, .ref _), (3, .int _)]) dX12_lotOf_99 rfl (by rfl) (by decide) rfl ?_
          refine bf_goto 15 dX12_lotOf_102 (by decide) ?_
          refine bf_perm [3, 1, 4, 0] rfl ?_
          exact ih _ _ _ _ hf
        · have hf := (if_neg c8).symm.trans hf
          refine bf_iload_n 1 dX12_lotOf_49 rfl rfl ?_
          refine bf_aload_n 0 dX12_lotOf_50 rfl rfl ?_
          refine bf_iload 3 dX12_lotOf_51 rfl ?_
          obtain ⟨r14, e13, hf⟩ := bf_bind hf
          have hCe13 := ok_X12_to (Γ := Γ) (ad := ad) hv0 e13
          refine cv_X12_121 0 dX12_lotOf_53 rfl ⟨Nat.le_of_ble_eq_true rfl, Nat.le_of_ble_eq_true rfl⟩ (Nat.le_of_ble_eq_true rfl) hv0 hCe13 ?_
          refine bf_ishr dX12_lotOf_56 ?_
          refine bf_iconst (v := 1) dX12_lotOf_57 (by decide) ?_
          refine bf_iand dX12_lotOf_58 ?_
          refine bf_iconst (v := 1) dX12_lotOf_59 (by decide) ?_
          refine bf_icmp_ne 67 dX12_lotOf_60 (by decide) (fun c15 => ?_) (fun c15 => ?_)
          · have hf := (if_neg c15).symm.trans hf
            refine bf_iconst (v := 0) dX12_lotOf_67 (by decide) ?_
            refine bf_istore (lv2 := [(5, .int _), (0, .ref _), (2, .int _), (3, .int _), (4, .int _)]) dX12_lotOf_68 (by decide) rfl ?_
            refine bf_iload_n 2 dX12_lotOf_70 rfl rfl ?_
            refine bf_iload 0 dX12_lotOf_71 rfl ?_
            refine bf_if_eq 96 dX12_lotOf_73 (by decide) (fun _ => ?_) (fun q => absurd q (by decide))
            refine bf_iconst (v := 0) dX12_lotOf_96 (by decide) ?_
            refine bf_ior dX12_lotOf_97 ?_
            refine bf_istore_n (lv2 := [(2, .int _), (5, .int _), (0, .ref _), (3, .int _), (4, .int _)]) dX12_lotOf_98 rfl (by decide) rfl ?_
            refine bf_iinc 4 (v := _ + (1 : Int32)) (lv2 := [(4, .int _), (2, .int _), (5, .int _), (0, .ref _), (3, .int _)]) dX12_lotOf_99 rfl (by rfl) (by decide) rfl ?_
            refine bf_goto 15 dX12_lotOf_102 (by decide) ?_
            refine bf_perm [3, 1, 4, 0] rfl ?_
            exact ih _ _ _ _ hf
          · have hf := (if_pos c15).symm.trans hf
            refine bf_iconst (v := 1) dX12_lotOf_63 (by decide) ?_
            refine bf_goto 68 dX12_lotOf_64 (by decide) ?_
            refine bf_istore (lv2 := [(5, .int _), (0, .ref _), (2, .int _), (3, .int _), (4, .int _)]) dX12_lotOf_68 (by decide) rfl ?_
            refine bf_iload_n 2 dX12_lotOf_70 rfl rfl ?_
            refine bf_iload 0 dX12_lotOf_71 rfl ?_
            refine bf_if_eq 96 dX12_lotOf_73 (by decide) (fun q => absurd q (by decide)) (fun _ => ?_)
            refine bf_iconst (v := 1) dX12_lotOf_76 (by decide) ?_
            refine bf_aload_n 1 dX12_lotOf_77 rfl rfl ?_
            refine bf_iload 4 dX12_lotOf_78 rfl ?_
            obtain ⟨r17, e16, hf⟩ := bf_bind hf
            have hCe16 := ok_X12_from (Γ := Γ) (ad := ad) hv0 e16
            refine cv_X12_127 0 dX12_lotOf_80 rfl ⟨Nat.le_of_ble_eq_true rfl, Nat.le_of_ble_eq_true rfl⟩ (Nat.le_of_ble_eq_true rfl) hv0 hCe16 ?_
            refine bf_ishl dX12_lotOf_83 ?_
            refine bf_iconst (v := 1) dX12_lotOf_84 (by decide) ?_
            refine bf_aload_n 1 dX12_lotOf_85 rfl rfl ?_
            refine bf_iload 4 dX12_lotOf_86 rfl ?_
            obtain ⟨r19, e18, hf⟩ := bf_bind hf
            have hCe18 := ok_X12_to (Γ := Γ) (ad := ad) hv0 e18
            refine cv_X12_121 0 dX12_lotOf_88 rfl ⟨Nat.le_of_ble_eq_true rfl, Nat.le_of_ble_eq_true rfl⟩ (Nat.le_of_ble_eq_true rfl) hv0 hCe18 ?_
            refine bf_ishl dX12_lotOf_91 ?_
            refine bf_ior dX12_lotOf_92 ?_
            refine bf_goto 97 dX12_lotOf_93 (by decide) ?_
            refine bf_ior dX12_lotOf_97 ?_
            refine bf_istore_n (lv2 := [(2, .int _), (5, .int _), (0, .ref _), (3, .int _), (4, .int _)]) dX12_lotOf_98 rfl (by decide) rfl ?_
            refine bf_iinc 4 (v := _ + (1 : Int32)) (lv2 := [(4, .int _), (2, .int _), (5, .int _), (0, .ref _), (3, .int _)]) dX12_lotOf_99 rfl (by rfl) (by decide) rfl ?_
            refine bf_goto 15 dX12_lotOf_102 (by decide) ?_
            refine bf_perm [3, 1, 4, 0] rfl ?_
            exact ih _ _ _ _ hf
def f_X12_lotOf_6 (v0 : Nat) (K : Int32 → (Nat → Nat → Int32) → (Nat → Nat → Int64) → Option (Int32 × bf_St)) : Nat → Int32 → Int32 → (Nat → Nat → Int32) → (Nat → Nat → Int64) → Option (Int32 × bf_St)
  | 0, _, _, _, _ => none
  | n + 1, v2, v3, I, L =>
    (if (6 : Int32) ≤ v3 then (K v2 I L) else (f_X12_lotOf_15 v0 v3 (fun k2_20 I20 L20 => (f_X12_lotOf_6 v0 K n k2_20 (v3 + (1 : Int32)) I20 L20)) 400 v2 (0 : Int32) I L))
set_option maxRecDepth 100000 in
set_option maxHeartbeats 4000000 in
theorem ok_X12_lotOf_6 {Γ : bf_Gm} {ad : Nat → Nat} {v0 : Nat} (hv0 : bf_kd v0 = 12) {r : Int32 × bf_St} {K : Int32 → (Nat → Nat → Int32) → (Nat → Nat → Int64) → Option (Int32 × bf_St)} (hK : ∀ (v2 : Int32) (I : Nat → Nat → Int32) (L : Nat → Nat → Int64), K v2 I L = some r → bf_Go Γ (bf_rm 2 0 0) mu_X12_lotOf bf_E0 (bf_Z Γ (fun q h => q = some (.int r.1) ∧ h = bf_S ad r.2.1 r.2.2) 0 0) (0, 0) 111 [(2, .int v2)] [] (bf_S ad I L)) : ∀ (n : Nat) (v2 : Int32) (v3 : Int32) (I : Nat → Nat → Int32) (L : Nat → Nat → Int64), f_X12_lotOf_6 v0 K n v2 v3 I L = some r → bf_Go Γ (bf_rm 2 0 0) mu_X12_lotOf bf_E0 (bf_Z Γ (fun q h => q = some (.int r.1) ∧ h = bf_S ad r.2.1 r.2.2) 0 0) (0, 0) 6 [(0, .ref (ad v0)), (2, .int v2), (3, .int v3)] [] (bf_S ad I L) := by
  intro n
  induction n with
  | zero => intro v2 v3 I L hf; exact absurd (show none = some r from hf) (by simp)
  | succ n ih =>
    intro v2 v3 I L hf
    rw [f_X12_lotOf_6] at hf
    refine bf_iload_n 2 dX12_lotOf_6 rfl rfl ?_
    refine bf_bipush (v := 6) dX12_lotOf_7 (by decide) ?_
    refine bf_icmp_ge 111 dX12_lotOf_9 (by decide) (fun c1 => ?_) (fun c1 => ?_)
    · have hf := (if_pos c1).symm.trans hf
      refine bf_perm [1] rfl ?_
      exact hK _ _ _ hf
    · have hf := (if_neg c1).symm.trans hf
      refine bf_iconst (v := 0) dX12_lotOf_12 (by decide) ?_
      refine bf_istore (lv2 := [(4, .int _), (0, .ref _), (2, .int _), (3, .int _)]) dX12_lotOf_13 (by decide) rfl ?_
      refine bf_perm [1, 2, 3, 0] rfl ?_
      refine ok_X12_lotOf_15 hv0 (fun k2_20 I20 L20 hf => ?_) _ _ _ _ _  hf
      refine bf_iinc 2 (v := _ + (1 : Int32)) (lv2 := [(3, .int _), (0, .ref _), (2, .int _)]) dX12_lotOf_105 rfl (by rfl) (by decide) rfl ?_
      refine bf_goto 6 dX12_lotOf_108 (by decide) ?_
      refine bf_perm [1, 2, 0] rfl ?_
      exact ih _ _ _ _ hf
def f_X12_lotOf (o : Nat) (a0 : Int32) (I : Nat → Nat → Int32) (L : Nat → Nat → Int64) : Option (Int32 × bf_St) :=
  (f_X12_lotOf_6 o (fun k2_21 I21 L21 => (some (k2_21, I21, L21))) 400 ((1 : Int32) <<< (a0 &&& 31)) (0 : Int32) I L)
set_option maxRecDepth 100000 in
set_option maxHeartbeats 4000000 in
theorem ok_X12_lotOf {Γ : bf_Gm} {ad : Nat → Nat} {o : Nat} {a0 : Int32} {I : Nat → Nat → Int32} {L : Nat → Nat → Int64} (hk : bf_kd o = 12) {r : Int32 × bf_St} (hf : f_X12_lotOf o a0 I L = some r) : bf_Cn Γ 2 mu_X12_lotOf 0 0 [.ref (ad o), .int a0] (bf_S ad I L) (fun q h => q = some (.int r.1) ∧ h = bf_S ad r.2.1 r.2.2) := by
  refine bf_met rfl (Nat.le_of_ble_eq_true rfl) ?_
  unfold f_X12_lotOf at hf
  refine bf_iconst (v := 1) dX12_lotOf_0 (by decide) ?_
  refine bf_iload_n 1 dX12_lotOf_1 rfl rfl ?_
  refine bf_ishl dX12_lotOf_2 ?_
  refine bf_istore_n (lv2 := [(2, .int _), (0, .ref _), (1, .int _)]) dX12_lotOf_3 rfl (by decide) rfl ?_
  refine bf_iconst (v := 0) dX12_lotOf_4 (by decide) ?_
  refine bf_istore_n (lv2 := [(3, .int _), (2, .int _), (0, .ref _), (1, .int _)]) dX12_lotOf_5 rfl (by decide) rfl ?_
  refine bf_perm [2, 1, 0] rfl ?_
  refine ok_X12_lotOf_6 hk (fun k2_21 I21 L21 hf => ?_) _ _ _ _ _  hf
  refine bf_iload_n 0 dX12_lotOf_111 rfl rfl ?_
  obtain rfl := Option.some.inj hf
  exact bf_iret dX12_lotOf_112 rfl (Nat.le_refl _) (Nat.le_refl _) ⟨rfl, rfl⟩
def f_X12_isWhole_5 (v0 : Nat) (v1 : Int32) (K : Int64 → (Nat → Nat → Int32) → (Nat → Nat → Int64) → Option (Int32 × bf_St)) : Nat → Int64 → Int32 → (Nat → Nat → Int32) → (Nat → Nat → Int64) → Option (Int32 × bf_St)
  | 0, _, _, _, _ => none
  | n + 1, v2, v4, I, L =>
    (if (6 : Int32) ≤ v4 then (K v2 I L) else (if ((v1 >>> (v4 &&& 31)) &&& (1 : Int32)) = (1 : Int32) then (if bf_ok v4 6 then ((f_X12_common v2 (L (v0 + 7) v4.toNatClampNeg) I L).bind (fun r5 => (if r5.1 = 0 then none else (if bf_ok v4 6 then (f_X12_isWhole_5 v0 v1 K n ((v2 / r5.1) * (r5.2.2 (v0 + 7) v4.toNatClampNeg)) (v4 + (1 : Int32)) r5.2.1 r5.2.2) else none)))) else none) else (f_X12_isWhole_5 v0 v1 K n v2 (v4 + (1 : Int32)) I L)))
set_option maxRecDepth 100000 in
set_option maxHeartbeats 4000000 in
theorem ok_X12_isWhole_5 {Γ : bf_Gm} {ad : Nat → Nat} {v0 : Nat} {v1 : Int32} (hv0 : bf_kd v0 = 12) {r : Int32 × bf_St} {K : Int64 → (Nat → Nat → Int32) → (Nat → Nat → Int64) → Option (Int32 × bf_St)} (hK : ∀ (v2 : Int64) (I : Nat → Nat → Int32) (L : Nat → Nat → Int64), K v2 I L = some r → bf_Go Γ (bf_rm 1 0 0) mu_X12_isWhole bf_E0 (bf_Z Γ (fun q h => q = some (.int r.1) ∧ h = bf_S ad r.2.1 r.2.2) 0 0) (0, 0) 54 [(0, .ref (ad v0)), (1, .int v1), (2, .long v2)] [] (bf_S ad I L)) : ∀ (n : Nat) (v2 : Int64) (v4 : Int32) (I : Nat → Nat → Int32) (L : Nat → Nat → Int64), f_X12_isWhole_5 v0 v1 K n v2 v4 I L = some r → bf_Go Γ (bf_rm 1 0 0) mu_X12_isWhole bf_E0 (bf_Z Γ (fun q h => q = some (.int r.1) ∧ h = bf_S ad r.2.1 r.2.2) 0 0) (0, 0) 5 [(0, .ref (ad v0)), (1, .int v1), (2, .long v2), (4, .int v4)] [] (bf_S ad I L) := by
  intro n
  induction n with
  | zero => intro v2 v4 I L hf; exact absurd (show none = some r from hf) (by simp)
  | succ n ih =>
    intro v2 v4 I L hf
    rw [f_X12_isWhole_5] at hf
    refine bf_iload 3 dX12_isWhole_5 rfl ?_
    refine bf_bipush (v := 6) dX12_isWhole_7 (by decide) ?_
    refine bf_icmp_ge 54 dX12_isWhole_9 (by decide) (fun c1 => ?_) (fun c1 => ?_)
    · have hf := (if_pos c1).symm.trans hf
      refine bf_perm [0, 1, 2] rfl ?_
      exact hK _ _ _ hf
    · have hf := (if_neg c1).symm.trans hf
      refine bf_iload_n 1 dX12_isWhole_12 rfl rfl ?_
      refine bf_iload 3 dX12_isWhole_13 rfl ?_
      refine bf_ishr dX12_isWhole_15 ?_
      refine bf_iconst (v := 1) dX12_isWhole_16 (by decide) ?_
      refine bf_iand dX12_isWhole_17 ?_
      refine bf_iconst (v := 1) dX12_isWhole_18 (by decide) ?_
      refine bf_icmp_ne 46 dX12_isWhole_19 (by decide) (fun c2 => ?_) (fun c2 => ?_)
      · have hf := (if_neg c2).symm.trans hf
        refine bf_lload_n 2 dX12_isWhole_46 rfl rfl ?_
        refine bf_lstore_n (lv2 := [(2, .long _), (0, .ref _), (1, .int _), (4, .int _)]) dX12_isWhole_47 rfl (by decide) rfl ?_
        refine bf_iinc 3 (v := _ + (1 : Int32)) (lv2 := [(4, .int _), (2, .long _), (0, .ref _), (1, .int _)]) dX12_isWhole_48 rfl (by rfl) (by decide) rfl ?_
        refine bf_goto 5 dX12_isWhole_51 (by decide) ?_
        refine bf_perm [2, 3, 1, 0] rfl ?_
        exact ih _ _ _ _ hf
      · have hf := (if_pos c2).symm.trans hf
        refine bf_lload_n 2 dX12_isWhole_22 rfl rfl ?_
        refine bf_lload_n 2 dX12_isWhole_23 rfl rfl ?_
        refine bf_aload_n 0 dX12_isWhole_24 rfl rfl ?_
        refine fg_X12_31 dX12_isWhole_25 rfl hv0 ?_
        refine bf_iload 3 dX12_isWhole_28 rfl ?_
        rcases Decidable.em (bf_ok v4 6) with c3 | c3
        · have hf := (if_pos c3).symm.trans hf
          refine bf_lald dX12_isWhole_30 (kr_12_15 hv0) (by rw [(kl_12_15 hv0)]; exact c3) ?_
          obtain ⟨r5, e4, hf⟩ := bf_bind hf
          have hCe4 := ok_X12_common (Γ := Γ) (ad := ad)  e4
          refine cv_X12_171 0 dX12_isWhole_31 rfl ⟨Nat.le_of_ble_eq_true rfl, Nat.le_of_ble_eq_true rfl⟩ (Nat.le_of_ble_eq_true rfl) hCe4 ?_
          rcases Decidable.em (r5.1 = 0) with c6 | c6
          · exact absurd ((if_pos c6).symm.trans hf) (by simp)
          · have hf := (if_neg c6).symm.trans hf
            refine bf_ldiv dX12_isWhole_34 c6 ?_
            refine bf_aload_n 0 dX12_isWhole_35 rfl rfl ?_
            refine fg_X12_31 dX12_isWhole_36 rfl hv0 ?_
            refine bf_iload 3 dX12_isWhole_39 rfl ?_
            rcases Decidable.em (bf_ok v4 6) with c7 | c7
            · have hf := (if_pos c7).symm.trans hf
              refine bf_lald dX12_isWhole_41 (kr_12_15 hv0) (by rw [(kl_12_15 hv0)]; exact c7) ?_
              refine bf_lmul dX12_isWhole_42 ?_
              refine bf_goto 47 dX12_isWhole_43 (by decide) ?_
              refine bf_lstore_n (lv2 := [(2, .long _), (0, .ref _), (1, .int _), (4, .int _)]) dX12_isWhole_47 rfl (by decide) rfl ?_
              refine bf_iinc 3 (v := _ + (1 : Int32)) (lv2 := [(4, .int _), (2, .long _), (0, .ref _), (1, .int _)]) dX12_isWhole_48 rfl (by rfl) (by decide) rfl ?_
              refine bf_goto 5 dX12_isWhole_51 (by decide) ?_
              refine bf_perm [2, 3, 1, 0] rfl ?_
              exact ih _ _ _ _ hf
            · exact absurd ((if_neg c7).symm.trans hf) (by simp)
        · exact absurd ((if_neg c3).symm.trans hf) (by simp)
def f_X12_isWhole_60 (v0 : Nat) (v1 : Int32) (v2 : Int64) (K : Int64 → (Nat → Nat → Int32) → (Nat → Nat → Int64) → Option (Int32 × bf_St)) : Nat → Int64 → Int32 → (Nat → Nat → Int32) → (Nat → Nat → Int64) → Option (Int32 × bf_St)
  | 0, _, _, _, _ => none
  | n + 1, v4, v6, I, L =>
    (if (6 : Int32) ≤ v6 then (K v4 I L) else (if ((v1 >>> (v6 &&& 31)) &&& (1 : Int32)) = (1 : Int32) then (if bf_ok v6 6 then (if (L (v0 + 7) v6.toNatClampNeg) = 0 then none else (if bf_ok v6 6 then ((f_X12_common ((v2 / (L (v0 + 7) v6.toNatClampNeg)) * (L (v0 + 6) v6.toNatClampNeg)) v4 I L).bind (fun r15 => (f_X12_isWhole_60 v0 v1 v2 K n r15.1 (v6 + (1 : Int32)) r15.2.1 r15.2.2))) else none)) else none) else (f_X12_isWhole_60 v0 v1 v2 K n v4 (v6 + (1 : Int32)) I L)))
set_option maxRecDepth 100000 in
set_option maxHeartbeats 4000000 in
theorem ok_X12_isWhole_60 {Γ : bf_Gm} {ad : Nat → Nat} {v0 : Nat} {v1 : Int32} {v2 : Int64} (hv0 : bf_kd v0 = 12) {r : Int32 × bf_St} {K : Int64 → (Nat → Nat → Int32) → (Nat → Nat → Int64) → Option (Int32 × bf_St)} (hK : ∀ (v4 : Int64) (I : Nat → Nat → Int32) (L : Nat → Nat → Int64), K v4 I L = some r → bf_Go Γ (bf_rm 1 0 0) mu_X12_isWhole bf_E0 (bf_Z Γ (fun q h => q = some (.int r.1) ∧ h = bf_S ad r.2.1 r.2.2) 0 0) (0, 0) 112 [(0, .ref (ad v0)), (1, .int v1), (2, .long v2), (4, .long v4)] [] (bf_S ad I L)) : ∀ (n : Nat) (v4 : Int64) (v6 : Int32) (I : Nat → Nat → Int32) (L : Nat → Nat → Int64), f_X12_isWhole_60 v0 v1 v2 K n v4 v6 I L = some r → bf_Go Γ (bf_rm 1 0 0) mu_X12_isWhole bf_E0 (bf_Z Γ (fun q h => q = some (.int r.1) ∧ h = bf_S ad r.2.1 r.2.2) 0 0) (0, 0) 60 [(0, .ref (ad v0)), (1, .int v1), (2, .long v2), (4, .long v4), (6, .int v6)] [] (bf_S ad I L) := by
  intro n
  induction n with
  | zero => intro v4 v6 I L hf; exact absurd (show none = some r from hf) (by simp)
  | succ n ih =>
    intro v4 v6 I L hf
    rw [f_X12_isWhole_60] at hf
    refine bf_iload 4 dX12_isWhole_60 rfl ?_
    refine bf_bipush (v := 6) dX12_isWhole_62 (by decide) ?_
    refine bf_icmp_ge 112 dX12_isWhole_64 (by decide) (fun c9 => ?_) (fun c9 => ?_)
    · have hf := (if_pos c9).symm.trans hf
      refine bf_perm [0, 1, 2, 3] rfl ?_
      exact hK _ _ _ hf
    · have hf := (if_neg c9).symm.trans hf
      refine bf_iload_n 1 dX12_isWhole_67 rfl rfl ?_
      refine bf_iload 4 dX12_isWhole_68 rfl ?_
      refine bf_ishr dX12_isWhole_70 ?_
      refine bf_iconst (v := 1) dX12_isWhole_71 (by decide) ?_
      refine bf_iand dX12_isWhole_72 ?_
      refine bf_iconst (v := 1) dX12_isWhole_73 (by decide) ?_
      refine bf_icmp_ne 102 dX12_isWhole_74 (by decide) (fun c10 => ?_) (fun c10 => ?_)
      · have hf := (if_neg c10).symm.trans hf
        refine bf_lload 3 dX12_isWhole_102 rfl ?_
        refine bf_lstore (lv2 := [(4, .long _), (0, .ref _), (1, .int _), (2, .long _), (6, .int _)]) dX12_isWhole_104 (by decide) rfl ?_
        refine bf_iinc 4 (v := _ + (1 : Int32)) (lv2 := [(6, .int _), (4, .long _), (0, .ref _), (1, .int _), (2, .long _)]) dX12_isWhole_106 rfl (by rfl) (by decide) rfl ?_
        refine bf_goto 60 dX12_isWhole_109 (by decide) ?_
        refine bf_perm [2, 3, 4, 1, 0] rfl ?_
        exact ih _ _ _ _ hf
      · have hf := (if_pos c10).symm.trans hf
        refine bf_lload_n 2 dX12_isWhole_77 rfl rfl ?_
        refine bf_aload_n 0 dX12_isWhole_78 rfl rfl ?_
        refine fg_X12_31 dX12_isWhole_79 rfl hv0 ?_
        refine bf_iload 4 dX12_isWhole_82 rfl ?_
        rcases Decidable.em (bf_ok v6 6) with c11 | c11
        · have hf := (if_pos c11).symm.trans hf
          refine bf_lald dX12_isWhole_84 (kr_12_15 hv0) (by rw [(kl_12_15 hv0)]; exact c11) ?_
          rcases Decidable.em ((L (v0 + 7) v6.toNatClampNeg) = 0) with c12 | c12
          · exact absurd ((if_pos c12).symm.trans hf) (by simp)
          · have hf := (if_neg c12).symm.trans hf
            refine bf_ldiv dX12_isWhole_85 c12 ?_
            refine bf_aload_n 0 dX12_isWhole_86 rfl rfl ?_
            refine fg_X12_27 dX12_isWhole_87 rfl hv0 ?_
            refine bf_iload 4 dX12_isWhole_90 rfl ?_
            rcases Decidable.em (bf_ok v6 6) with c13 | c13
            · have hf := (if_pos c13).symm.trans hf
              refine bf_lald dX12_isWhole_92 (kr_12_14 hv0) (by rw [(kl_12_14 hv0)]; exact c13) ?_
              refine bf_lmul dX12_isWhole_93 ?_
              refine bf_lload 3 dX12_isWhole_94 rfl ?_
              obtain ⟨r15, e14, hf⟩ := bf_bind hf
              have hCe14 := ok_X12_common (Γ := Γ) (ad := ad)  e14
              refine cv_X12_171 0 dX12_isWhole_96 rfl ⟨Nat.le_of_ble_eq_true rfl, Nat.le_of_ble_eq_true rfl⟩ (Nat.le_of_ble_eq_true rfl) hCe14 ?_
              refine bf_goto 104 dX12_isWhole_99 (by decide) ?_
              refine bf_lstore (lv2 := [(4, .long _), (0, .ref _), (1, .int _), (2, .long _), (6, .int _)]) dX12_isWhole_104 (by decide) rfl ?_
              refine bf_iinc 4 (v := _ + (1 : Int32)) (lv2 := [(6, .int _), (4, .long _), (0, .ref _), (1, .int _), (2, .long _)]) dX12_isWhole_106 rfl (by rfl) (by decide) rfl ?_
              refine bf_goto 60 dX12_isWhole_109 (by decide) ?_
              refine bf_perm [2, 3, 4, 1, 0] rfl ?_
              exact ih _ _ _ _ hf
            · exact absurd ((if_neg c13).symm.trans hf) (by simp)
        · exact absurd ((if_neg c11).symm.trans hf) (by simp)
def f_X12_isWhole_118 (v0 : Nat) (v1 : Int32) (v2 : Int64) (v4 : Int64) (K : Int32 → (Nat → Nat → Int32) → (Nat → Nat → Int64) → Option (Int32 × bf_St)) : Nat → Int32 → Int32 → (Nat → Nat → Int32) → (Nat → Nat → Int64) → Option (Int32 × bf_St)
  | 0, _, _, _, _ => none
  | n + 1, v6, v7, I, L =>
    (if (6 : Int32) ≤ v7 then (K v6 I L) else (if ((v1 >>> (v7 &&& 31)) &&& (1 : Int32)) = (1 : Int32) then (if bf_ok v7 6 then (if (L (v0 + 7) v7.toNatClampNeg) = 0 then none else (if bf_ok v7 6 then (if v4 = 0 then none else (if v6 = 0 then (if bf_ok v7 6 then (f_X12_isWhole_118 v0 v1 v2 v4 K n (0 : Int32) (v7 + (1 : Int32)) (bf_u I (v0 + 8) v7.toNatClampNeg ((bf_minL (((v2 / (L (v0 + 7) v7.toNatClampNeg)) * (L (v0 + 6) v7.toNatClampNeg)) / v4) (61 : Int64))).toInt32) L) else none) else (if 0 < (lg_cmp (((v2 / (L (v0 + 7) v7.toNatClampNeg)) * (L (v0 + 6) v7.toNatClampNeg)) / v4) (60 : Int64)) then (if bf_ok v7 6 then (f_X12_isWhole_118 v0 v1 v2 v4 K n (0 : Int32) (v7 + (1 : Int32)) (bf_u I (v0 + 8) v7.toNatClampNeg ((bf_minL (((v2 / (L (v0 + 7) v7.toNatClampNeg)) * (L (v0 + 6) v7.toNatClampNeg)) / v4) (61 : Int64))).toInt32) L) else none) else (if bf_ok v7 6 then (f_X12_isWhole_118 v0 v1 v2 v4 K n (1 : Int32) (v7 + (1 : Int32)) (bf_u I (v0 + 8) v7.toNatClampNeg ((bf_minL (((v2 / (L (v0 + 7) v7.toNatClampNeg)) * (L (v0 + 6) v7.toNatClampNeg)) / v4) (61 : Int64))).toInt32) L) else none)))) else none)) else none) else (f_X12_isWhole_118 v0 v1 v2 v4 K n v6 (v7 + (1 : Int32)) I L)))
set_option maxRecDepth 100000 in
set_option maxHeartbeats 4000000 in
theorem ok_X12_isWhole_118 {Γ : bf_Gm} {ad : Nat → Nat} {v0 : Nat} {v1 : Int32} {v2 : Int64} {v4 : Int64} (hv0 : bf_kd v0 = 12) {r : Int32 × bf_St} {K : Int32 → (Nat → Nat → Int32) → (Nat → Nat → Int64) → Option (Int32 × bf_St)} (hK : ∀ (v6 : Int32) (I : Nat → Nat → Int32) (L : Nat → Nat → Int64), K v6 I L = some r → bf_Go Γ (bf_rm 1 0 0) mu_X12_isWhole bf_E0 (bf_Z Γ (fun q h => q = some (.int r.1) ∧ h = bf_S ad r.2.1 r.2.2) 0 0) (0, 0) 200 [(6, .int v6)] [] (bf_S ad I L)) : ∀ (n : Nat) (v6 : Int32) (v7 : Int32) (I : Nat → Nat → Int32) (L : Nat → Nat → Int64), f_X12_isWhole_118 v0 v1 v2 v4 K n v6 v7 I L = some r → bf_Go Γ (bf_rm 1 0 0) mu_X12_isWhole bf_E0 (bf_Z Γ (fun q h => q = some (.int r.1) ∧ h = bf_S ad r.2.1 r.2.2) 0 0) (0, 0) 118 [(0, .ref (ad v0)), (1, .int v1), (2, .long v2), (4, .long v4), (6, .int v6), (7, .int v7)] [] (bf_S ad I L) := by
  intro n
  induction n with
  | zero => intro v6 v7 I L hf; exact absurd (show none = some r from hf) (by simp)
  | succ n ih =>
    intro v6 v7 I L hf
    rw [f_X12_isWhole_118] at hf
    refine bf_iload 5 dX12_isWhole_118 rfl ?_
    refine bf_bipush (v := 6) dX12_isWhole_120 (by decide) ?_
    refine bf_icmp_ge 200 dX12_isWhole_122 (by decide) (fun c17 => ?_) (fun c17 => ?_)
    · have hf := (if_pos c17).symm.trans hf
      refine bf_perm [4] rfl ?_
      exact hK _ _ _ hf
    · have hf := (if_neg c17).symm.trans hf
      refine bf_iload_n 1 dX12_isWhole_125 rfl rfl ?_
      refine bf_iload 5 dX12_isWhole_126 rfl ?_
      refine bf_ishr dX12_isWhole_128 ?_
      refine bf_iconst (v := 1) dX12_isWhole_129 (by decide) ?_
      refine bf_iand dX12_isWhole_130 ?_
      refine bf_iconst (v := 1) dX12_isWhole_131 (by decide) ?_
      refine bf_icmp_ne 194 dX12_isWhole_132 (by decide) (fun c18 => ?_) (fun c18 => ?_)
      · have hf := (if_neg c18).symm.trans hf
        refine bf_iinc 5 (v := _ + (1 : Int32)) (lv2 := [(7, .int _), (0, .ref _), (1, .int _), (2, .long _), (4, .long _), (6, .int _)]) dX12_isWhole_194 rfl (by rfl) (by decide) rfl ?_
        refine bf_goto 118 dX12_isWhole_197 (by decide) ?_
        refine bf_perm [1, 2, 3, 4, 5, 0] rfl ?_
        exact ih _ _ _ _ hf
      · have hf := (if_pos c18).symm.trans hf
        refine bf_lload_n 2 dX12_isWhole_135 rfl rfl ?_
        refine bf_aload_n 0 dX12_isWhole_136 rfl rfl ?_
        refine fg_X12_31 dX12_isWhole_137 rfl hv0 ?_
        refine bf_iload 5 dX12_isWhole_140 rfl ?_
        rcases Decidable.em (bf_ok v7 6) with c19 | c19
        · have hf := (if_pos c19).symm.trans hf
          refine bf_lald dX12_isWhole_142 (kr_12_15 hv0) (by rw [(kl_12_15 hv0)]; exact c19) ?_
          rcases Decidable.em ((L (v0 + 7) v7.toNatClampNeg) = 0) with c20 | c20
          · exact absurd ((if_pos c20).symm.trans hf) (by simp)
          · have hf := (if_neg c20).symm.trans hf
            refine bf_ldiv dX12_isWhole_143 c20 ?_
            refine bf_aload_n 0 dX12_isWhole_144 rfl rfl ?_
            refine fg_X12_27 dX12_isWhole_145 rfl hv0 ?_
            refine bf_iload 5 dX12_isWhole_148 rfl ?_
            rcases Decidable.em (bf_ok v7 6) with c21 | c21
            · have hf := (if_pos c21).symm.trans hf
              refine bf_lald dX12_isWhole_150 (kr_12_14 hv0) (by rw [(kl_12_14 hv0)]; exact c21) ?_
              refine bf_lmul dX12_isWhole_151 ?_
              refine bf_lload 3 dX12_isWhole_152 rfl ?_
              rcases Decidable.em (v4 = 0) with c22 | c22
              · exact absurd ((if_pos c22).symm.trans hf) (by simp)
              · have hf := (if_neg c22).symm.trans hf
                refine bf_ldiv dX12_isWhole_154 c22 ?_
                refine bf_lstore (lv2 := [(8, .long _), (0, .ref _), (1, .int _), (2, .long _), (4, .long _), (6, .int _), (7, .int _)]) dX12_isWhole_155 (by decide) rfl ?_
                refine bf_iload 5 dX12_isWhole_157 rfl ?_
                refine bf_if_eq 175 dX12_isWhole_159 (by decide) (fun c23 => ?_) (fun c23 => ?_)
                · have hf := (if_pos c23).symm.trans hf
                  refine bf_iconst (v := 0) dX12_isWhole_175 (by decide) ?_
                  refine bf_istore (lv2 := [(6, .int _), (8, .long _), (0, .ref _), (1, .int _), (2, .long _), (4, .long _), (7, .int _)]) dX12_isWhole_176 (by decide) rfl ?_
                  refine bf_aload_n 2 dX12_isWhole_178 rfl rfl ?_
                  refine fg_X12_34 dX12_isWhole_179 rfl hv0 ?_
                  refine bf_iload 6 dX12_isWhole_182 rfl ?_
                  refine bf_lload 1 dX12_isWhole_184 rfl ?_
                  refine bf_ldc2 dX12_isWhole_186 wk_X12_190 ?_
                  refine bf_mminL dX12_isWhole_189 wl_X12_192 wt_JminL wi_J9 wc_JminL (Nat.le_of_ble_eq_true rfl) (Nat.le_of_ble_eq_true rfl) (Nat.zero_le _) (Nat.zero_le _) ?_
                  refine bf_l2i dX12_isWhole_192 ?_
                  rcases Decidable.em (bf_ok v7 6) with c24 | c24
                  · have hf := (if_pos c24).symm.trans hf
                    refine bf_iast dX12_isWhole_193 (kr_12_16 hv0) (by rw [(kl_12_16 hv0)]; exact c24) ?_
                    refine bf_iinc 6 (v := _ + (1 : Int32)) (lv2 := [(7, .int _), (6, .int _), (8, .long _), (0, .ref _), (1, .int _), (2, .long _), (4, .long _)]) dX12_isWhole_194 rfl (by rfl) (by decide) rfl ?_
                    refine bf_goto 118 dX12_isWhole_197 (by decide) ?_
                    refine bf_perm [3, 4, 5, 6, 1, 0] rfl ?_
                    exact ih _ _ _ _ hf
                  · exact absurd ((if_neg c24).symm.trans hf) (by simp)
                · have hf := (if_neg c23).symm.trans hf
                  refine bf_lload 0 dX12_isWhole_162 rfl ?_
                  refine bf_ldc2 dX12_isWhole_164 wk_X12_188 ?_
                  refine bf_lcmp dX12_isWhole_167 ?_
                  refine bf_if_gt 175 dX12_isWhole_168 (by decide) (fun c25 => ?_) (fun c25 => ?_)
                  · have hf := (if_pos c25).symm.trans hf
                    refine bf_iconst (v := 0) dX12_isWhole_175 (by decide) ?_
                    refine bf_istore (lv2 := [(6, .int _), (8, .long _), (0, .ref _), (1, .int _), (2, .long _), (4, .long _), (7, .int _)]) dX12_isWhole_176 (by decide) rfl ?_
                    refine bf_aload_n 2 dX12_isWhole_178 rfl rfl ?_
                    refine fg_X12_34 dX12_isWhole_179 rfl hv0 ?_
                    refine bf_iload 6 dX12_isWhole_182 rfl ?_
                    refine bf_lload 1 dX12_isWhole_184 rfl ?_
                    refine bf_ldc2 dX12_isWhole_186 wk_X12_190 ?_
                    refine bf_mminL dX12_isWhole_189 wl_X12_192 wt_JminL wi_J9 wc_JminL (Nat.le_of_ble_eq_true rfl) (Nat.le_of_ble_eq_true rfl) (Nat.zero_le _) (Nat.zero_le _) ?_
                    refine bf_l2i dX12_isWhole_192 ?_
                    rcases Decidable.em (bf_ok v7 6) with c26 | c26
                    · have hf := (if_pos c26).symm.trans hf
                      refine bf_iast dX12_isWhole_193 (kr_12_16 hv0) (by rw [(kl_12_16 hv0)]; exact c26) ?_
                      refine bf_iinc 6 (v := _ + (1 : Int32)) (lv2 := [(7, .int _), (6, .int _), (8, .long _), (0, .ref _), (1, .int _), (2, .long _), (4, .long _)]) dX12_isWhole_194 rfl (by rfl) (by decide) rfl ?_
                      refine bf_goto 118 dX12_isWhole_197 (by decide) ?_
                      refine bf_perm [3, 4, 5, 6, 1, 0] rfl ?_
                      exact ih _ _ _ _ hf
                    · exact absurd ((if_neg c26).symm.trans hf) (by simp)
                  · have hf := (if_neg c25).symm.trans hf
                    refine bf_iconst (v := 1) dX12_isWhole_171 (by decide) ?_
                    refine bf_goto 176 dX12_isWhole_172 (by decide) ?_
                    refine bf_istore (lv2 := [(6, .int _), (8, .long _), (0, .ref _), (1, .int _), (2, .long _), (4, .long _), (7, .int _)]) dX12_isWhole_176 (by decide) rfl ?_
                    refine bf_aload_n 2 dX12_isWhole_178 rfl rfl ?_
                    refine fg_X12_34 dX12_isWhole_179 rfl hv0 ?_
                    refine bf_iload 6 dX12_isWhole_182 rfl ?_
                    refine bf_lload 1 dX12_isWhole_184 rfl ?_
                    refine bf_ldc2 dX12_isWhole_186 wk_X12_190 ?_
                    refine bf_mminL dX12_isWhole_189 wl_X12_192 wt_JminL wi_J9 wc_JminL (Nat.le_of_ble_eq_true rfl) (Nat.le_of_ble_eq_true rfl) (Nat.zero_le _) (Nat.zero_le _) ?_
                    refine bf_l2i dX12_isWhole_192 ?_
                    rcases Decidable.em (bf_ok v7 6) with c27 | c27
                    · have hf := (if_pos c27).symm.trans hf
                      refine bf_iast dX12_isWhole_193 (kr_12_16 hv0) (by rw [(kl_12_16 hv0)]; exact c27) ?_
                      refine bf_iinc 6 (v := _ + (1 : Int32)) (lv2 := [(7, .int _), (6, .int _), (8, .long _), (0, .ref _), (1, .int _), (2, .long _), (4, .long _)]) dX12_isWhole_194 rfl (by rfl) (by decide) rfl ?_
                      refine bf_goto 118 dX12_isWhole_197 (by decide) ?_
                      refine bf_perm [3, 4, 5, 6, 1, 0] rfl ?_
                      exact ih _ _ _ _ hf
                    · exact absurd ((if_neg c27).symm.trans hf) (by simp)
            · exact absurd ((if_neg c21).symm.trans hf) (by simp)
        · exact absurd ((if_neg c19).symm.trans hf) (by simp)
def f_X12_isWhole_p112 (v0 : Nat) (v1 : Int32) (v2 : Int64) (v4 : Int64) (I : Nat → Nat → Int32) (L : Nat → Nat → Int64) : Option (Int32 × bf_St) :=
  (f_X12_isWhole_118 v0 v1 v2 v4 (fun k6_28 I28 L28 => (if k6_28 = 0 ∨ k6_28 = 1 then some (k6_28, I28, L28) else none)) 400 (1 : Int32) (0 : Int32) I L)
set_option maxRecDepth 100000 in
set_option maxHeartbeats 4000000 in
theorem ok_X12_isWhole_p112 {Γ : bf_Gm} {ad : Nat → Nat} {v0 : Nat} {v1 : Int32} {v2 : Int64} {v4 : Int64} {I : Nat → Nat → Int32} {L : Nat → Nat → Int64} (hv0 : bf_kd v0 = 12) {r : Int32 × bf_St} (hf : f_X12_isWhole_p112 v0 v1 v2 v4 I L = some r) : bf_Go Γ (bf_rm 1 0 0) mu_X12_isWhole bf_E0 (bf_Z Γ (fun q h => q = some (.int r.1) ∧ h = bf_S ad r.2.1 r.2.2) 0 0) (0, 0) 112 [(0, .ref (ad v0)), (1, .int v1), (2, .long v2), (4, .long v4)] [] (bf_S ad I L) := by
  unfold f_X12_isWhole_p112 at hf
  refine bf_iconst (v := 1) dX12_isWhole_112 (by decide) ?_
  refine bf_istore (lv2 := [(6, .int _), (0, .ref _), (1, .int _), (2, .long _), (4, .long _)]) dX12_isWhole_113 (by decide) rfl ?_
  refine bf_iconst (v := 0) dX12_isWhole_115 (by decide) ?_
  refine bf_istore (lv2 := [(7, .int _), (6, .int _), (0, .ref _), (1, .int _), (2, .long _), (4, .long _)]) dX12_isWhole_116 (by decide) rfl ?_
  refine bf_perm [2, 3, 4, 5, 1, 0] rfl ?_
  refine ok_X12_isWhole_118 hv0 (fun k6_28 I28 L28 hf => ?_) _ _ _ _ _  hf
  refine bf_iload 0 dX12_isWhole_200 rfl ?_
  rcases Decidable.em (k6_28 = 0 ∨ k6_28 = 1) with c29 | c29
  · have hf := (if_pos c29).symm.trans hf
    obtain rfl := Option.some.inj hf
    exact bf_zret dX12_isWhole_202 rfl (by rcases c29 with q | q <;> rw [q] <;> rfl) (Nat.le_refl _) (Nat.le_refl _) ⟨rfl, rfl⟩
  · exact absurd ((if_neg c29).symm.trans hf) (by simp)
def f_X12_isWhole_p54 (v0 : Nat) (v1 : Int32) (v2 : Int64) (I : Nat → Nat → Int32) (L : Nat → Nat → Int64) : Option (Int32 × bf_St) :=
  (f_X12_isWhole_60 v0 v1 v2 (fun k4_16 I16 L16 => (f_X12_isWhole_p112 v0 v1 v2 k4_16 I16 L16)) 400 (0 : Int64) (0 : Int32) I L)
set_option maxRecDepth 100000 in
set_option maxHeartbeats 4000000 in
theorem ok_X12_isWhole_p54 {Γ : bf_Gm} {ad : Nat → Nat} {v0 : Nat} {v1 : Int32} {v2 : Int64} {I : Nat → Nat → Int32} {L : Nat → Nat → Int64} (hv0 : bf_kd v0 = 12) {r : Int32 × bf_St} (hf : f_X12_isWhole_p54 v0 v1 v2 I L = some r) : bf_Go Γ (bf_rm 1 0 0) mu_X12_isWhole bf_E0 (bf_Z Γ (fun q h => q = some (.int r.1) ∧ h = bf_S ad r.2.1 r.2.2) 0 0) (0, 0) 54 [(0, .ref (ad v0)), (1, .int v1), (2, .long v2)] [] (bf_S ad I L) := by
  unfold f_X12_isWhole_p54 at hf
  refine bf_lconst (v := 0) dX12_isWhole_54 (by decide) ?_
  refine bf_lstore (lv2 := [(4, .long _), (0, .ref _), (1, .int _), (2, .long _)]) dX12_isWhole_55 (by decide) rfl ?_
  refine bf_iconst (v := 0) dX12_isWhole_57 (by decide) ?_
  refine bf_istore (lv2 := [(6, .int _), (4, .long _), (0, .ref _), (1, .int _), (2, .long _)]) dX12_isWhole_58 (by decide) rfl ?_
  refine bf_perm [2, 3, 4, 1, 0] rfl ?_
  refine ok_X12_isWhole_60 hv0 (fun k4_16 I16 L16 hf => ?_) _ _ _ _ _  hf
  exact ok_X12_isWhole_p112 hv0  hf
def f_X12_isWhole (o : Nat) (a0 : Int32) (I : Nat → Nat → Int32) (L : Nat → Nat → Int64) : Option (Int32 × bf_St) :=
  (f_X12_isWhole_5 o a0 (fun k2_8 I8 L8 => (f_X12_isWhole_p54 o a0 k2_8 I8 L8)) 400 (1 : Int64) (0 : Int32) I L)
set_option maxRecDepth 100000 in
set_option maxHeartbeats 4000000 in
theorem ok_X12_isWhole {Γ : bf_Gm} {ad : Nat → Nat} {o : Nat} {a0 : Int32} {I : Nat → Nat → Int32} {L : Nat → Nat → Int64} (hk : bf_kd o = 12) {r : Int32 × bf_St} (hf : f_X12_isWhole o a0 I L = some r) : bf_Cn Γ 1 mu_X12_isWhole 0 0 [.ref (ad o), .int a0] (bf_S ad I L) (fun q h => q = some (.int r.1) ∧ h = bf_S ad r.2.1 r.2.2) := by
  refine bf_met rfl (Nat.le_of_ble_eq_true rfl) ?_
  unfold f_X12_isWhole at hf
  refine bf_lconst (v := 1) dX12_isWhole_0 (by decide) ?_
  refine bf_lstore_n (lv2 := [(2, .long _), (0, .ref _), (1, .int _)]) dX12_isWhole_1 rfl (by decide) rfl ?_
  refine bf_iconst (v := 0) dX12_isWhole_2 (by decide) ?_
  refine bf_istore (lv2 := [(4, .int _), (2, .long _), (0, .ref _), (1, .int _)]) dX12_isWhole_3 (by decide) rfl ?_
  refine bf_perm [2, 3, 1, 0] rfl ?_
  refine ok_X12_isWhole_5 hk (fun k2_8 I8 L8 hf => ?_) _ _ _ _ _  hf
  exact ok_X12_isWhole_p54 hk  hf
