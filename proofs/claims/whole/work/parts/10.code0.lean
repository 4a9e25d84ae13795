theorem kl_1_5 {o : Nat} (h : bf_kd o = 1) : bf_le (o + 1) = 6 := (by decide +kernel : ∀ o, o < 173 → bf_kd o = 1 → bf_le (o + 1) = 6) o (bf_kd_lt h (by decide)) h
theorem kl_2_0 {o : Nat} (h : bf_kd o = 2) : bf_le (o + 1) = 8 := (by decide +kernel : ∀ o, o < 173 → bf_kd o = 2 → bf_le (o + 1) = 8) o (bf_kd_lt h (by decide)) h
theorem kl_3_0 {o : Nat} (h : bf_kd o = 3) : bf_le (o + 1) = 6 := (by decide +kernel : ∀ o, o < 173 → bf_kd o = 3 → bf_le (o + 1) = 6) o (bf_kd_lt h (by decide)) h
theorem kl_3_1 {o : Nat} (h : bf_kd o = 3) : bf_le (o + 8) = 8 := (by decide +kernel : ∀ o, o < 173 → bf_kd o = 3 → bf_le (o + 8) = 8) o (bf_kd_lt h (by decide)) h
theorem kl_4_1 {o : Nat} (h : bf_kd o = 4) : bf_le (o + 3) = 6 := (by decide +kernel : ∀ o, o < 173 → bf_kd o = 4 → bf_le (o + 3) = 6) o (bf_kd_lt h (by decide)) h
theorem kl_4_2 {o : Nat} (h : bf_kd o = 4) : bf_le (o + 4) = 9 := (by decide +kernel : ∀ o, o < 173 → bf_kd o = 4 → bf_le (o + 4) = 9) o (bf_kd_lt h (by decide)) h
theorem kl_6_3 {o : Nat} (h : bf_kd o = 6) : bf_le (o + 1) = 6 := (by decide +kernel : ∀ o, o < 173 → bf_kd o = 6 → bf_le (o + 1) = 6) o (bf_kd_lt h (by decide)) h
theorem kl_6_4 {o : Nat} (h : bf_kd o = 6) : bf_le (o + 2) = 360 := (by decide +kernel : ∀ o, o < 173 → bf_kd o = 6 → bf_le (o + 2) = 360) o (bf_kd_lt h (by decide)) h
theorem kl_6_6 {o : Nat} (h : bf_kd o = 6) : bf_le (o + 3) = 8 := (by decide +kernel : ∀ o, o < 173 → bf_kd o = 6 → bf_le (o + 3) = 8) o (bf_kd_lt h (by decide)) h
theorem kl_6_7 {o : Nat} (h : bf_kd o = 6) : bf_le (o + 4) = 6 := (by decide +kernel : ∀ o, o < 173 → bf_kd o = 6 → bf_le (o + 4) = 6) o (bf_kd_lt h (by decide)) h
theorem kl_6_8 {o : Nat} (h : bf_kd o = 6) : bf_le (o + 5) = 6 := (by decide +kernel : ∀ o, o < 173 → bf_kd o = 6 → bf_le (o + 5) = 6) o (bf_kd_lt h (by decide)) h
theorem kl_8_2 {o : Nat} (h : bf_kd o = 8) : bf_le (o + 1) = 60 := (by decide +kernel : ∀ o, o < 173 → bf_kd o = 8 → bf_le (o + 1) = 60) o (bf_kd_lt h (by decide)) h
theorem kl_9_2 {o : Nat} (h : bf_kd o = 9) : bf_le (o + 2) = 8 := (by decide +kernel : ∀ o, o < 173 → bf_kd o = 9 → bf_le (o + 2) = 8) o (bf_kd_lt h (by decide)) h
theorem kl_9_3 {o : Nat} (h : bf_kd o = 9) : bf_le (o + 1) = 100 := (by decide +kernel : ∀ o, o < 173 → bf_kd o = 9 → bf_le (o + 1) = 100) o (bf_kd_lt h (by decide)) h
theorem kl_10_7 {o : Nat} (h : bf_kd o = 10) : bf_le (o + 1) = 99 := (by decide +kernel : ∀ o, o < 173 → bf_kd o = 10 → bf_le (o + 1) = 99) o (bf_kd_lt h (by decide)) h
theorem kl_11_7 {o : Nat} (h : bf_kd o = 11) : bf_le (o + 143) = 6 := (by decide +kernel : ∀ o, o < 173 → bf_kd o = 11 → bf_le (o + 143) = 6) o (bf_kd_lt h (by decide)) h
theorem kl_12_0 {o : Nat} (h : bf_kd o = 12) : bf_le (o + 1) = 914 := (by decide +kernel : ∀ o, o < 173 → bf_kd o = 12 → bf_le (o + 1) = 914) o (bf_kd_lt h (by decide)) h
theorem kl_12_1 {o : Nat} (h : bf_kd o = 12) : bf_le (o + 2) = 914 := (by decide +kernel : ∀ o, o < 173 → bf_kd o = 12 → bf_le (o + 2) = 914) o (bf_kd_lt h (by decide)) h
theorem kl_12_2 {o : Nat} (h : bf_kd o = 12) : bf_le (o + 3) = 914 := (by decide +kernel : ∀ o, o < 173 → bf_kd o = 12 → bf_le (o + 3) = 914) o (bf_kd_lt h (by decide)) h
theorem kl_12_4 {o : Nat} (h : bf_kd o = 12) : bf_le (o + 4) = 100 := (by decide +kernel : ∀ o, o < 173 → bf_kd o = 12 → bf_le (o + 4) = 100) o (bf_kd_lt h (by decide)) h
theorem kl_12_7 {o : Nat} (h : bf_kd o = 12) : bf_le (o + 5) = 88 := (by decide +kernel : ∀ o, o < 173 → bf_kd o = 12 → bf_le (o + 5) = 88) o (bf_kd_lt h (by decide)) h
theorem kl_12_14 {o : Nat} (h : bf_kd o = 12) : bf_le (o + 6) = 6 := (by decide +kernel : ∀ o, o < 173 → bf_kd o = 12 → bf_le (o + 6) = 6) o (bf_kd_lt h (by decide)) h
theorem kl_12_15 {o : Nat} (h : bf_kd o = 12) : bf_le (o + 7) = 6 := (by decide +kernel : ∀ o, o < 173 → bf_kd o = 12 → bf_le (o + 7) = 6) o (bf_kd_lt h (by decide)) h
theorem kl_12_16 {o : Nat} (h : bf_kd o = 12) : bf_le (o + 8) = 6 := (by decide +kernel : ∀ o, o < 173 → bf_kd o = 12 → bf_le (o + 8) = 6) o (bf_kd_lt h (by decide)) h
theorem kl_12_17 {o : Nat} (h : bf_kd o = 12) : bf_le (o + 9) = 6 := (by decide +kernel : ∀ o, o < 173 → bf_kd o = 12 → bf_le (o + 9) = 6) o (bf_kd_lt h (by decide)) h
theorem kl_12_18 {o : Nat} (h : bf_kd o = 12) : bf_le (o + 10) = 8 := (by decide +kernel : ∀ o, o < 173 → bf_kd o = 12 → bf_le (o + 10) = 8) o (bf_kd_lt h (by decide)) h
theorem kl_12_21 {o : Nat} (h : bf_kd o = 12) : bf_le (o + 11) = 914 := (by decide +kernel : ∀ o, o < 173 → bf_kd o = 12 → bf_le (o + 11) = 914) o (bf_kd_lt h (by decide)) h
theorem kl_12_22 {o : Nat} (h : bf_kd o = 12) : bf_le (o + 12) = 72 := (by decide +kernel : ∀ o, o < 173 → bf_kd o = 12 → bf_le (o + 12) = 72) o (bf_kd_lt h (by decide)) h
theorem kl_12_24 {o : Nat} (h : bf_kd o = 12) : bf_le (o + 13) = 914 := (by decide +kernel : ∀ o, o < 173 → bf_kd o = 12 → bf_le (o + 13) = 914) o (bf_kd_lt h (by decide)) h
theorem kl_12_25 {o : Nat} (h : bf_kd o = 12) : bf_le (o + 14) = 6 := (by decide +kernel : ∀ o, o < 173 → bf_kd o = 12 → bf_le (o + 14) = 6) o (bf_kd_lt h (by decide)) h
theorem kl_12_26 {o : Nat} (h : bf_kd o = 12) : bf_le (o + 15) = 6 := (by decide +kernel : ∀ o, o < 173 → bf_kd o = 12 → bf_le (o + 15) = 6) o (bf_kd_lt h (by decide)) h
theorem kl_12_27 {o : Nat} (h : bf_kd o = 12) : bf_le (o + 16) = 360 := (by decide +kernel : ∀ o, o < 173 → bf_kd o = 12 → bf_le (o + 16) = 360) o (bf_kd_lt h (by decide)) h
theorem la_16 {a : Nat} (h : bf_kd a = 16) : bf_le a = 6 := (by decide +kernel : ∀ a, a < 173 → bf_kd a = 16 → bf_le a = 6) a (bf_kd_lt h (by decide)) h
theorem la_17 {a : Nat} (h : bf_kd a = 17) : bf_le a = 8 := (by decide +kernel : ∀ a, a < 173 → bf_kd a = 17 → bf_le a = 8) a (bf_kd_lt h (by decide)) h
theorem la_18 {a : Nat} (h : bf_kd a = 18) : bf_le a = 6 := (by decide +kernel : ∀ a, a < 173 → bf_kd a = 18 → bf_le a = 6) a (bf_kd_lt h (by decide)) h
theorem la_19 {a : Nat} (h : bf_kd a = 19) : bf_le a = 8 := (by decide +kernel : ∀ a, a < 173 → bf_kd a = 19 → bf_le a = 8) a (bf_kd_lt h (by decide)) h
theorem la_20 {a : Nat} (h : bf_kd a = 20) : bf_le a = 9 := (by decide +kernel : ∀ a, a < 173 → bf_kd a = 20 → bf_le a = 9) a (bf_kd_lt h (by decide)) h
theorem lb_20 {a j : Nat} (h : bf_kd a = 20) (hj : j < bf_le a) : bf_le (a + 1 + j) = 8 := (by decide +kernel : ∀ a, a < 173 → bf_kd a = 20 → ∀ j, j < bf_le a → bf_le (a + 1 + j) = 8) a (bf_kd_lt h (by decide)) h j hj
def f_X0_become (o : Nat) (a0 : Int32) (a1 : Int32) (I : Nat → Nat → Int32) (L : Nat → Nat → Int64) : Option (bf_St) :=
  (some ((bf_u (bf_u (bf_u I o 0 a0) o 1 a1) o 2 (0 : Int32)), L))
set_option maxRecDepth 100000 in
set_option maxHeartbeats 4000000 in
theorem ok_X0_become {Γ : bf_Gm} {ad : Nat → Nat} {o : Nat} {a0 : Int32} {a1 : Int32} {I : Nat → Nat → Int32} {L : Nat → Nat → Int64} (hk : bf_kd o = 0) {r : bf_St} (hf : f_X0_become o a0 a1 I L = some r) : bf_Cn Γ 0 mu_X0_become 0 0 [.ref (ad o), .int a0, .int a1] (bf_S ad I L) (fun q h => q = none ∧ h = bf_S ad r.1 r.2) := by
  refine bf_met rfl (Nat.le_of_ble_eq_true rfl) ?_
  unfold f_X0_become at hf
  refine bf_aload_n 0 dX0_become_0 rfl rfl ?_
  refine bf_iload_n 1 dX0_become_1 rfl rfl ?_
  refine fp_X0_15 dX0_become_2 rfl hk ?_
  refine bf_aload_n 0 dX0_become_5 rfl rfl ?_
  refine bf_iload_n 2 dX0_become_6 rfl rfl ?_
  refine fp_X0_19 dX0_become_7 rfl hk ?_
  refine bf_aload_n 0 dX0_become_10 rfl rfl ?_
  refine bf_iconst (v := 0) dX0_become_11 (by decide) ?_
  refine fp_X0_22 dX0_become_12 rfl hk ?_
  obtain rfl := Option.some.inj hf
  exact bf_vret dX0_become_15 rfl (Nat.le_refl _) (Nat.le_refl _) ⟨rfl, rfl⟩
def f_X0_copyFrom (o : Nat) (a0 : Nat) (I : Nat → Nat → Int32) (L : Nat → Nat → Int64) : Option (bf_St) :=
  (some ((bf_u (bf_u (bf_u I o 0 (I a0 0)) o 1 ((bf_u I o 0 (I a0 0)) a0 1)) o 2 ((bf_u (bf_u I o 0 (I a0 0)) o 1 ((bf_u I o 0 (I a0 0)) a0 1)) a0 2)), L))
set_option maxRecDepth 100000 in
set_option maxHeartbeats 4000000 in
theorem ok_X0_copyFrom {Γ : bf_Gm} {ad : Nat → Nat} {o : Nat} {a0 : Nat} {I : Nat → Nat → Int32} {L : Nat → Nat → Int64} (hk : bf_kd o = 0) (hk0 : bf_kd a0 = 0) {r : bf_St} (hf : f_X0_copyFrom o a0 I L = some r) : bf_Cn Γ 0 mu_X0_copyFrom 0 0 [.ref (ad o), .ref (ad a0)] (bf_S ad I L) (fun q h => q = none ∧ h = bf_S ad r.1 r.2) := by
  refine bf_met rfl (Nat.le_of_ble_eq_true rfl) ?_
  unfold f_X0_copyFrom at hf
  refine bf_aload_n 0 dX0_copyFrom_0 rfl rfl ?_
  refine bf_aload_n 1 dX0_copyFrom_1 rfl rfl ?_
  refine fg_X0_15 dX0_copyFrom_2 rfl hk0 ?_
  refine fp_X0_15 dX0_copyFrom_5 rfl hk ?_
  refine bf_aload_n 0 dX0_copyFrom_8 rfl rfl ?_
  refine bf_aload_n 1 dX0_copyFrom_9 rfl rfl ?_
  refine fg_X0_19 dX0_copyFrom_10 rfl hk0 ?_
  refine fp_X0_19 dX0_copyFrom_13 rfl hk ?_
  refine bf_aload_n 0 dX0_copyFrom_16 rfl rfl ?_
  refine bf_aload_n 1 dX0_copyFrom_17 rfl rfl ?_
  refine fg_X0_22 dX0_copyFrom_18 rfl hk0 ?_
  refine fp_X0_22 dX0_copyFrom_21 rfl hk ?_
  obtain rfl := Option.some.inj hf
  exact bf_vret dX0_copyFrom_24 rfl (Nat.le_refl _) (Nat.le_refl _) ⟨rfl, rfl⟩
def f_X0_madeOfNothing (o : Nat) (I : Nat → Nat → Int32) (L : Nat → Nat → Int64) : Option (Int32 × bf_St) :=
  (if (I o 0) = (4 : Int32) then (some (((I o 2) * (I o 1)), I, L)) else (some ((I o 1), I, L)))
set_option maxRecDepth 100000 in
set_option maxHeartbeats 4000000 in
theorem ok_X0_madeOfNothing {Γ : bf_Gm} {ad : Nat → Nat} {o : Nat} {I : Nat → Nat → Int32} {L : Nat → Nat → Int64} (hk : bf_kd o = 0) {r : Int32 × bf_St} (hf : f_X0_madeOfNothing o I L = some r) : bf_Cn Γ 0 mu_X0_madeOfNothing 0 0 [.ref (ad o)] (bf_S ad I L) (fun q h => q = some (.int r.1) ∧ h = bf_S ad r.2.1 r.2.2) := by
  refine bf_met rfl (Nat.le_of_ble_eq_true rfl) ?_
  unfold f_X0_madeOfNothing at hf
  refine bf_aload_n 0 dX0_madeOfNothing_0 rfl rfl ?_
  refine fg_X0_15 dX0_madeOfNothing_1 rfl hk ?_
  refine bf_iconst (v := 4) dX0_madeOfNothing_4 (by decide) ?_
  refine bf_icmp_ne 20 dX0_madeOfNothing_5 (by decide) (fun c1 => ?_) (fun c1 => ?_)
  · have hf := (if_neg c1).symm.trans hf
    refine bf_aload_n 0 dX0_madeOfNothing_20 rfl rfl ?_
    refine fg_X0_19 dX0_madeOfNothing_21 rfl hk ?_
    obtain rfl := Option.some.inj hf
    exact bf_iret dX0_madeOfNothing_24 rfl (Nat.le_refl _) (Nat.le_refl _) ⟨rfl, rfl⟩
  · have hf := (if_pos c1).symm.trans hf
    refine bf_aload_n 0 dX0_madeOfNothing_8 rfl rfl ?_
    refine fg_X0_22 dX0_madeOfNothing_9 rfl hk ?_
    refine bf_aload_n 0 dX0_madeOfNothing_12 rfl rfl ?_
    refine fg_X0_19 dX0_madeOfNothing_13 rfl hk ?_
    refine bf_imul dX0_madeOfNothing_16 ?_
    refine bf_goto 24 dX0_madeOfNothing_17 (by decide) ?_
    obtain rfl := Option.some.inj hf
    exact bf_iret dX0_madeOfNothing_24 rfl (Nat.le_refl _) (Nat.le_refl _) ⟨rfl, rfl⟩
def f_X0_madeWith (o : Nat) (a0 : Int32) (a1 : Int32) (I : Nat → Nat → Int32) (L : Nat → Nat → Int64) : Option (Int32 × bf_St) :=
  (if (I o 0) = 1 then (some ((a0 * a1), I, L)) else (if (I o 0) = 2 then (some (a1, I, L)) else (if (I o 0) = 3 then (some ((bf_max a0 a1), I, L)) else (some ((a0 + a1), I, L)))))
set_option maxRecDepth 100000 in
set_option maxHeartbeats 4000000 in
theorem ok_X0_madeWith {Γ : bf_Gm} {ad : Nat → Nat} {o : Nat} {a0 : Int32} {a1 : Int32} {I : Nat → Nat → Int32} {L : Nat → Nat → Int64} (hk : bf_kd o = 0) {r : Int32 × bf_St} (hf : f_X0_madeWith o a0 a1 I L = some r) : bf_Cn Γ 1 mu_X0_madeWith 0 0 [.ref (ad o), .int a0, .int a1] (bf_S ad I L) (fun q h => q = some (.int r.1) ∧ h = bf_S ad r.2.1 r.2.2) := by
  refine bf_met rfl (Nat.le_of_ble_eq_true rfl) ?_
  unfold f_X0_madeWith at hf
  refine bf_aload_n 0 dX0_madeWith_0 rfl rfl ?_
  refine fg_X0_15 dX0_madeWith_1 rfl hk ?_
  rcases Decidable.em ((I o 0) = 1) with c1 | c1
  · have hf := (if_pos c1).symm.trans hf
    refine bf_swIn 32 dX0_madeWith_4 (by rw [c1]; decide) (by rw [c1]; decide) (by rw [c1]; rfl) (by decide) ?_
    refine bf_iload_n 1 dX0_madeWith_32 rfl rfl ?_
    refine bf_iload_n 2 dX0_madeWith_33 rfl rfl ?_
    refine bf_imul dX0_madeWith_34 ?_
    obtain rfl := Option.some.inj hf
    exact bf_iret dX0_madeWith_35 rfl (Nat.le_refl _) (Nat.le_refl _) ⟨rfl, rfl⟩
  · have hf := (if_neg c1).symm.trans hf
    rcases Decidable.em ((I o 0) = 2) with c2 | c2
    · have hf := (if_pos c2).symm.trans hf
      refine bf_swIn 36 dX0_madeWith_4 (by rw [c2]; decide) (by rw [c2]; decide) (by rw [c2]; rfl) (by decide) ?_
      refine bf_iload_n 2 dX0_madeWith_36 rfl rfl ?_
      obtain rfl := Option.some.inj hf
      exact bf_iret dX0_madeWith_37 rfl (Nat.le_refl _) (Nat.le_refl _) ⟨rfl, rfl⟩
    · have hf := (if_neg c2).symm.trans hf
      rcases Decidable.em ((I o 0) = 3) with c3 | c3
      · have hf := (if_pos c3).symm.trans hf
        refine bf_swIn 38 dX0_madeWith_4 (by rw [c3]; decide) (by rw [c3]; decide) (by rw [c3]; rfl) (by decide) ?_
        refine bf_iload_n 1 dX0_madeWith_38 rfl rfl ?_
        refine bf_iload_n 2 dX0_madeWith_39 rfl rfl ?_
        refine bf_mmax dX0_madeWith_40 wl_X0_25 wt_Jmax wi_J9 wc_Jmax (Nat.le_of_ble_eq_true rfl) (Nat.le_of_ble_eq_true rfl) (Nat.zero_le _) (Nat.zero_le _) ?_
        obtain rfl := Option.some.inj hf
        exact bf_iret dX0_madeWith_43 rfl (Nat.le_refl _) (Nat.le_refl _) ⟨rfl, rfl⟩
      · have hf := (if_neg c3).symm.trans hf
        have c1 : _ ≠ (1 : Int) := bf_nne c1
        have c2 : _ ≠ (2 : Int) := bf_nne c2
        have c3 : _ ≠ (3 : Int) := bf_nne c3
        refine bf_swOut 44 dX0_madeWith_4 (by omega) (by decide) ?_
        refine bf_iload_n 1 dX0_madeWith_44 rfl rfl ?_
        refine bf_iload_n 2 dX0_madeWith_45 rfl rfl ?_
        refine bf_iadd dX0_madeWith_46 ?_
        obtain rfl := Option.some.inj hf
        exact bf_iret dX0_madeWith_47 rfl (Nat.le_refl _) (Nat.le_refl _) ⟨rfl, rfl⟩
def f_X0_tokenOf (o : Nat) (a0 : Int32) (a1 : Int32) (I : Nat → Nat → Int32) (L : Nat → Nat → Int64) : Option (Int32 × bf_St) :=
  (if (I o 0) = 0 then (some ((a0 + a1), I, L)) else (if (I o 0) = 1 then (some (a0, I, L)) else (if (I o 0) = 2 then (some ((a0 - a1), I, L)) else (if (I o 0) = 3 then (if (a1 - a1 / (2 : Int32) * (2 : Int32)) = 0 then (some (a0, I, L)) else (some ((I o 1), I, L))) else (if (I o 0) = 4 then (some ((a0 * (a1 + (1 : Int32))), I, L)) else (some (a0, I, L)))))))
set_option maxRecDepth 100000 in
set_option maxHeartbeats 4000000 in
theorem ok_X0_tokenOf {Γ : bf_Gm} {ad : Nat → Nat} {o : Nat} {a0 : Int32} {a1 : Int32} {I : Nat → Nat → Int32} {L : Nat → Nat → Int64} (hk : bf_kd o = 0) {r : Int32 × bf_St} (hf : f_X0_tokenOf o a0 a1 I L = some r) : bf_Cn Γ 0 mu_X0_tokenOf 0 0 [.ref (ad o), .int a0, .int a1] (bf_S ad I L) (fun q h => q = some (.int r.1) ∧ h = bf_S ad r.2.1 r.2.2) := by
  refine bf_met rfl (Nat.le_of_ble_eq_true rfl) ?_
  unfold f_X0_tokenOf at hf
  refine bf_aload_n 0 dX0_tokenOf_0 rfl rfl ?_
  refine fg_X0_15 dX0_tokenOf_1 rfl hk ?_
  rcases Decidable.em ((I o 0) = 0) with c1 | c1
  · have hf := (if_pos c1).symm.trans hf
    refine bf_swIn 40 dX0_tokenOf_4 (by rw [c1]; decide) (by rw [c1]; decide) (by rw [c1]; rfl) (by decide) ?_
    refine bf_iload_n 1 dX0_tokenOf_40 rfl rfl ?_
    refine bf_iload_n 2 dX0_tokenOf_41 rfl rfl ?_
    refine bf_iadd dX0_tokenOf_42 ?_
    obtain rfl := Option.some.inj hf
    exact bf_iret dX0_tokenOf_43 rfl (Nat.le_refl _) (Nat.le_refl _) ⟨rfl, rfl⟩
  · have hf := (if_neg c1).symm.trans hf
    rcases Decidable.em ((I o 0) = 1) with c2 | c2
    · have hf := (if_pos c2).symm.trans hf
      refine bf_swIn 69 dX0_tokenOf_4 (by rw [c2]; decide) (by rw [c2]; decide) (by rw [c2]; rfl) (by decide) ?_
      refine bf_iload_n 1 dX0_tokenOf_69 rfl rfl ?_
      obtain rfl := Option.some.inj hf
      exact bf_iret dX0_tokenOf_70 rfl (Nat.le_refl _) (Nat.le_refl _) ⟨rfl, rfl⟩
    · have hf := (if_neg c2).symm.trans hf
      rcases Decidable.em ((I o 0) = 2) with c3 | c3
      · have hf := (if_pos c3).symm.trans hf
        refine bf_swIn 44 dX0_tokenOf_4 (by rw [c3]; decide) (by rw [c3]; decide) (by rw [c3]; rfl) (by decide) ?_
        refine bf_iload_n 1 dX0_tokenOf_44 rfl rfl ?_
        refine bf_iload_n 2 dX0_tokenOf_45 rfl rfl ?_
        refine bf_isub dX0_tokenOf_46 ?_
        obtain rfl := Option.some.inj hf
        exact bf_iret dX0_tokenOf_47 rfl (Nat.le_refl _) (Nat.le_refl _) ⟨rfl, rfl⟩
      · have hf := (if_neg c3).symm.trans hf
        rcases Decidable.em ((I o 0) = 3) with c4 | c4
        · have hf := (if_pos c4).symm.trans hf
          refine bf_swIn 48 dX0_tokenOf_4 (by rw [c4]; decide) (by rw [c4]; decide) (by rw [c4]; rfl) (by decide) ?_
          refine bf_iload_n 2 dX0_tokenOf_48 rfl rfl ?_
          refine bf_iconst (v := 2) dX0_tokenOf_49 (by decide) ?_
          refine bf_irem dX0_tokenOf_50 (by decide) ?_
          refine bf_if_ne 58 dX0_tokenOf_51 (by decide) (fun c5 => ?_) (fun c5 => ?_)
          · have hf := (if_neg c5).symm.trans hf
            refine bf_aload_n 0 dX0_tokenOf_58 rfl rfl ?_
            refine fg_X0_19 dX0_tokenOf_59 rfl hk ?_
            obtain rfl := Option.some.inj hf
            exact bf_iret dX0_tokenOf_62 rfl (Nat.le_refl _) (Nat.le_refl _) ⟨rfl, rfl⟩
          · have hf := (if_pos c5).symm.trans hf
            refine bf_iload_n 1 dX0_tokenOf_54 rfl rfl ?_
            refine bf_goto 62 dX0_tokenOf_55 (by decide) ?_
            obtain rfl := Option.some.inj hf
            exact bf_iret dX0_tokenOf_62 rfl (Nat.le_refl _) (Nat.le_refl _) ⟨rfl, rfl⟩
        · have hf := (if_neg c4).symm.trans hf
          rcases Decidable.em ((I o 0) = 4) with c6 | c6
          · have hf := (if_pos c6).symm.trans hf
            refine bf_swIn 63 dX0_tokenOf_4 (by rw [c6]; decide) (by rw [c6]; decide) (by rw [c6]; rfl) (by decide) ?_
            refine bf_iload_n 1 dX0_tokenOf_63 rfl rfl ?_
            refine bf_iload_n 2 dX0_tokenOf_64 rfl rfl ?_
            refine bf_iconst (v := 1) dX0_tokenOf_65 (by decide) ?_
            refine bf_iadd dX0_tokenOf_66 ?_
            refine bf_imul dX0_tokenOf_67 ?_
            obtain rfl := Option.some.inj hf
            exact bf_iret dX0_tokenOf_68 rfl (Nat.le_refl _) (Nat.le_refl _) ⟨rfl, rfl⟩
          · have hf := (if_neg c6).symm.trans hf
            have c1 : _ ≠ (0 : Int) := bf_nne c1
            have c2 : _ ≠ (1 : Int) := bf_nne c2
            have c3 : _ ≠ (2 : Int) := bf_nne c3
            have c4 : _ ≠ (3 : Int) := bf_nne c4
            have c6 : _ ≠ (4 : Int) := bf_nne c6
            refine bf_swOut 69 dX0_tokenOf_4 (by omega) (by decide) ?_
            refine bf_iload_n 1 dX0_tokenOf_69 rfl rfl ?_
            obtain rfl := Option.some.inj hf
            exact bf_iret dX0_tokenOf_70 rfl (Nat.le_refl _) (Nat.le_refl _) ⟨rfl, rfl⟩
def f_X0_noteFiring (o : Nat) (I : Nat → Nat → Int32) (L : Nat → Nat → Int64) : Option (bf_St) :=
  (some ((bf_u I o 2 (bf_min ((I o 2) + (1 : Int32)) (9999 : Int32))), L))
set_option maxRecDepth 100000 in
set_option maxHeartbeats 4000000 in
theorem ok_X0_noteFiring {Γ : bf_Gm} {ad : Nat → Nat} {o : Nat} {I : Nat → Nat → Int32} {L : Nat → Nat → Int64} (hk : bf_kd o = 0) {r : bf_St} (hf : f_X0_noteFiring o I L = some r) : bf_Cn Γ 1 mu_X0_noteFiring 0 0 [.ref (ad o)] (bf_S ad I L) (fun q h => q = none ∧ h = bf_S ad r.1 r.2) := by
  refine bf_met rfl (Nat.le_of_ble_eq_true rfl) ?_
  unfold f_X0_noteFiring at hf
  refine bf_aload_n 0 dX0_noteFiring_0 rfl rfl ?_
  refine bf_aload_n 0 dX0_noteFiring_1 rfl rfl ?_
  refine fg_X0_22 dX0_noteFiring_2 rfl hk ?_
  refine bf_iconst (v := 1) dX0_noteFiring_5 (by decide) ?_
  refine bf_iadd dX0_noteFiring_6 ?_
  refine bf_sipush (v := 9999) dX0_noteFiring_7 (by decide) ?_
  refine bf_mmin dX0_noteFiring_10 wl_X0_31 wt_Jmin wi_J9 wc_Jmin (Nat.le_of_ble_eq_true rfl) (Nat.le_of_ble_eq_true rfl) (Nat.zero_le _) (Nat.zero_le _) ?_
  refine fp_X0_22 dX0_noteFiring_13 rfl hk ?_
  obtain rfl := Option.some.inj hf
  exact bf_vret dX0_noteFiring_16 rfl (Nat.le_refl _) (Nat.le_refl _) ⟨rfl, rfl⟩
def f_X2_load_2 (v0 : Nat) (v1 : Nat) (K : (Nat → Nat → Int32) → (Nat → Nat → Int64) → Option (bf_St)) : Nat → Int32 → (Nat → Nat → Int32) → (Nat → Nat → Int64) → Option (bf_St)
  | 0, _, _, _ => none
  | n + 1, v2, I, L =>
    (if (8 : Int32) ≤ v2 then (K I L) else (if bf_ok v2 8 then (if bf_ok v2 8 then (f_X2_load_2 v0 v1 K n (v2 + (1 : Int32)) (bf_u I (v0 + 1) v2.toNatClampNeg (I ((v1 + 8) + 1 + 2 * v2.toNatClampNeg) 5)) L) else none) else none))
set_option maxRecDepth 100000 in
set_option maxHeartbeats 4000000 in
theorem ok_X2_load_2 {Γ : bf_Gm} {ad : Nat → Nat} {v0 : Nat} {v1 : Nat} (hv0 : bf_kd v0 = 2) (hv1 : bf_kd v1 = 3) {r : bf_St} {K : (Nat → Nat → Int32) → (Nat → Nat → Int64) → Option (bf_St)} (hK : ∀ (I : Nat → Nat → Int32) (L : Nat → Nat → Int64), K  I L = some r → bf_Go Γ (bf_rm 0 0 0) mu_X2_load bf_E0 (bf_Z Γ (fun q h => q = none ∧ h = bf_S ad r.1 r.2) 0 0) (0, 0) 29 [] [] (bf_S ad I L)) : ∀ (n : Nat) (v2 : Int32) (I : Nat → Nat → Int32) (L : Nat → Nat → Int64), f_X2_load_2 v0 v1 K n v2 I L = some r → bf_Go Γ (bf_rm 0 0 0) mu_X2_load bf_E0 (bf_Z Γ (fun q h => q = none ∧ h = bf_S ad r.1 r.2) 0 0) (0, 0) 2 [(0, .ref (ad v0)), (1, .ref (ad v1)), (2, .int v2)] [] (bf_S ad I L) := by
  intro n
  induction n with
  | zero => intro v2 I L hf; exact absurd (show none = some r from hf) (by simp)
  | succ n ih =>
    intro v2 I L hf
    rw [f_X2_load_2] at hf
    refine bf_iload_n 2 dX2_load_2 rfl rfl ?_
    refine bf_bipush (v := 8) dX2_load_3 (by decide) ?_
    refine bf_icmp_ge 29 dX2_load_5 (by decide) (fun c1 => ?_) (fun c1 => ?_)
    · have hf := (if_pos c1).symm.trans hf
      refine bf_perm [] rfl ?_
      exact hK _ _ hf
    · have hf := (if_neg c1).symm.trans hf
      refine bf_aload_n 0 dX2_load_8 rfl rfl ?_
      refine fg_X2_9 dX2_load_9 rfl hv0 ?_
      refine bf_iload_n 2 dX2_load_12 rfl rfl ?_
      refine bf_aload_n 1 dX2_load_13 rfl rfl ?_
      refine fg_X2_15 dX2_load_14 rfl hv1 ?_
      refine bf_iload_n 2 dX2_load_17 rfl rfl ?_
      rcases Decidable.em (bf_ok v2 8) with c2 | c2
      · have hf := (if_pos c2).symm.trans hf
        refine al_19 dX2_load_18 (kr_3_1 hv1) (by rw [(la_19 (kr_3_1 hv1))]; exact c2) ?_
        refine fg_X2_21 dX2_load_19 rfl (ka_19 (kr_3_1 hv1) ((by rw [(la_19 (kr_3_1 hv1))]; exact c2) : bf_ok _ _).2) ?_
        rcases Decidable.em (bf_ok v2 8) with c3 | c3
        · have hf := (if_pos c3).symm.trans hf
          refine bf_iast dX2_load_22 (kr_2_0 hv0) (by rw [(kl_2_0 hv0)]; exact c3) ?_
          refine bf_iinc 2 (v := _ + (1 : Int32)) (lv2 := [(2, .int _), (0, .ref _), (1, .ref _)]) dX2_load_23 rfl (by rfl) (by decide) rfl ?_
          refine bf_goto 2 dX2_load_26 (by decide) ?_
          refine bf_perm [1, 2, 0] rfl ?_
          exact ih _ _ _ hf
        · exact absurd ((if_neg c3).symm.trans hf) (by simp)
      · exact absurd ((if_neg c2).symm.trans hf) (by simp)
def f_X2_load (o : Nat) (a0 : Nat) (I : Nat → Nat → Int32) (L : Nat → Nat → Int64) : Option (bf_St) :=
  (f_X2_load_2 o a0 (fun I4 L4 => (some (I4, L4))) 400 (0 : Int32) I L)
set_option maxRecDepth 100000 in
set_option maxHeartbeats 4000000 in
theorem ok_X2_load {Γ : bf_Gm} {ad : Nat → Nat} {o : Nat} {a0 : Nat} {I : Nat → Nat → Int32} {L : Nat → Nat → Int64} (hk : bf_kd o = 2) (hk0 : bf_kd a0 = 3) {r : bf_St} (hf : f_X2_load o a0 I L = some r) : bf_Cn Γ 0 mu_X2_load 0 0 [.ref (ad o), .ref (ad a0)] (bf_S ad I L) (fun q h => q = none ∧ h = bf_S ad r.1 r.2) := by
  refine bf_met rfl (Nat.le_of_ble_eq_true rfl) ?_
  unfold f_X2_load at hf
  refine bf_iconst (v := 0) dX2_load_0 (by decide) ?_
  refine bf_istore_n (lv2 := [(2, .int _), (0, .ref _), (1, .ref _)]) dX2_load_1 rfl (by decide) rfl ?_
  refine bf_perm [1, 2, 0] rfl ?_
  refine ok_X2_load_2 hk hk0 (fun I4 L4 hf => ?_) _ _ _ _  hf
  obtain rfl := Option.some.inj hf
  exact bf_vret dX2_load_29 rfl (Nat.le_refl _) (Nat.le_refl _) ⟨rfl, rfl⟩
def f_X10_goesTo (o : Nat) (a0 : Int32) (I : Nat → Nat → Int32) (L : Nat → Nat → Int64) : Option (Int32 × bf_St) :=
  (if (I o 4) = 0 then (some ((0 : Int32), I, L)) else (if (I o 1) = a0 then (some ((1 : Int32), I, L)) else (some ((0 : Int32), I, L))))
set_option maxRecDepth 100000 in
set_option maxHeartbeats 4000000 in
theorem ok_X10_goesTo {Γ : bf_Gm} {ad : Nat → Nat} {o : Nat} {a0 : Int32} {I : Nat → Nat → Int32} {L : Nat → Nat → Int64} (hk : bf_kd o = 10) {r : Int32 × bf_St} (hf : f_X10_goesTo o a0 I L = some r) : bf_Cn Γ 0 mu_X10_goesTo 0 0 [.ref (ad o), .int a0] (bf_S ad I L) (fun q h => q = some (.int r.1) ∧ h = bf_S ad r.2.1 r.2.2) := by
  refine bf_met rfl (Nat.le_of_ble_eq_true rfl) ?_
  unfold f_X10_goesTo at hf
  refine bf_aload_n 0 dX10_goesTo_0 rfl rfl ?_
  refine fg_X10_15 dX10_goesTo_1 rfl hk ?_
  refine bf_if_eq 19 dX10_goesTo_4 (by decide) (fun c1 => ?_) (fun c1 => ?_)
  · have hf := (if_pos c1).symm.trans hf
    refine bf_iconst (v := 0) dX10_goesTo_19 (by decide) ?_
    obtain rfl := Option.some.inj hf
    exact bf_zret dX10_goesTo_20 rfl rfl (Nat.le_refl _) (Nat.le_refl _) ⟨rfl, rfl⟩
  · have hf := (if_neg c1).symm.trans hf
    refine bf_aload_n 0 dX10_goesTo_7 rfl rfl ?_
    refine fg_X10_26 dX10_goesTo_8 rfl hk ?_
    refine bf_iload_n 1 dX10_goesTo_11 rfl rfl ?_
    refine bf_icmp_ne 19 dX10_goesTo_12 (by decide) (fun c2 => ?_) (fun c2 => ?_)
    · have hf := (if_neg c2).symm.trans hf
      refine bf_iconst (v := 0) dX10_goesTo_19 (by decide) ?_
      obtain rfl := Option.some.inj hf
      exact bf_zret dX10_goesTo_20 rfl rfl (Nat.le_refl _) (Nat.le_refl _) ⟨rfl, rfl⟩
    · have hf := (if_pos c2).symm.trans hf
      refine bf_iconst (v := 1) dX10_goesTo_15 (by decide) ?_
      refine bf_goto 20 dX10_goesTo_16 (by decide) ?_
      obtain rfl := Option.some.inj hf
      exact bf_zret dX10_goesTo_20 rfl rfl (Nat.le_refl _) (Nat.le_refl _) ⟨rfl, rfl⟩
def f_X10_comesFrom (o : Nat) (a0 : Int32) (I : Nat → Nat → Int32) (L : Nat → Nat → Int64) : Option (Int32 × bf_St) :=
  (if (I o 4) = 0 then (some ((0 : Int32), I, L)) else (if (I o 0) = a0 then (some ((1 : Int32), I, L)) else (some ((0 : Int32), I, L))))
set_option maxRecDepth 100000 in
set_option maxHeartbeats 4000000 in
theorem ok_X10_comesFrom {Γ : bf_Gm} {ad : Nat → Nat} {o : Nat} {a0 : Int32} {I : Nat → Nat → Int32} {L : Nat → Nat → Int64} (hk : bf_kd o = 10) {r : Int32 × bf_St} (hf : f_X10_comesFrom o a0 I L = some r) : bf_Cn Γ 0 mu_X10_comesFrom 0 0 [.ref (ad o), .int a0] (bf_S ad I L) (fun q h => q = some (.int r.1) ∧ h = bf_S ad r.2.1 r.2.2) := by
  refine bf_met rfl (Nat.le_of_ble_eq_true rfl) ?_
  unfold f_X10_comesFrom at hf
  refine bf_aload_n 0 dX10_comesFrom_0 rfl rfl ?_
  refine fg_X10_15 dX10_comesFrom_1 rfl hk ?_
  refine bf_if_eq 19 dX10_comesFrom_4 (by decide) (fun c1 => ?_) (fun c1 => ?_)
  · have hf := (if_pos c1).symm.trans hf
    refine bf_iconst (v := 0) dX10_comesFrom_19 (by decide) ?_
    obtain rfl := Option.some.inj hf
    exact bf_zret dX10_comesFrom_20 rfl rfl (Nat.le_refl _) (Nat.le_refl _) ⟨rfl, rfl⟩
  · have hf := (if_neg c1).symm.trans hf
    refine bf_aload_n 0 dX10_comesFrom_7 rfl rfl ?_
    refine fg_X10_22 dX10_comesFrom_8 rfl hk ?_
    refine bf_iload_n 1 dX10_comesFrom_11 rfl rfl ?_
    refine bf_icmp_ne 19 dX10_comesFrom_12 (by decide) (fun c2 => ?_) (fun c2 => ?_)
    · have hf := (if_neg c2).symm.trans hf
      refine bf_iconst (v := 0) dX10_comesFrom_19 (by decide) ?_
      obtain rfl := Option.some.inj hf
      exact bf_zret dX10_comesFrom_20 rfl rfl (Nat.le_refl _) (Nat.le_refl _) ⟨rfl, rfl⟩
    · have hf := (if_pos c2).symm.trans hf
      refine bf_iconst (v := 1) dX10_comesFrom_15 (by decide) ?_
      refine bf_goto 20 dX10_comesFrom_16 (by decide) ?_
      obtain rfl := Option.some.inj hf
      exact bf_zret dX10_comesFrom_20 rfl rfl (Nat.le_refl _) (Nat.le_refl _) ⟨rfl, rfl⟩
def f_X10_changeBy_p16 (v0 : Nat) (v1 : Int32) (s0 : Int32) (I : Nat → Nat → Int32) (L : Nat → Nat → Int64) : Option (Int32 × bf_St) :=
  ((f_X10_goesTo v0 v1 I L).bind (fun r5 => (if r5.1 = 0 then (some ((s0 - (0 : Int32)), r5.2.1, r5.2.2)) else (some ((s0 - (r5.2.1 v0 3)), r5.2.1, r5.2.2)))))
set_option maxRecDepth 100000 in
set_option maxHeartbeats 4000000 in
theorem ok_X10_changeBy_p16 {Γ : bf_Gm} {ad : Nat → Nat} {v0 : Nat} {v1 : Int32} {s0 : Int32} {I : Nat → Nat → Int32} {L : Nat → Nat → Int64} (hv0 : bf_kd v0 = 10) {r : Int32 × bf_St} (hf : f_X10_changeBy_p16 v0 v1 s0 I L = some r) : bf_Go Γ (bf_rm 1 0 0) mu_X10_changeBy bf_E0 (bf_Z Γ (fun q h => q = some (.int r.1) ∧ h = bf_S ad r.2.1 r.2.2) 0 0) (0, 0) 16 [(0, .ref (ad v0)), (1, .int v1)] [.int s0] (bf_S ad I L) := by
  unfold f_X10_changeBy_p16 at hf
  refine bf_aload_n 0 dX10_changeBy_16 rfl rfl ?_
  refine bf_iload_n 1 dX10_changeBy_17 rfl rfl ?_
  obtain ⟨r5, e4, hf⟩ := bf_bind hf
  have hCe4 := ok_X10_goesTo (Γ := Γ) (ad := ad) hv0 e4
  refine cv_X10_51 0 dX10_changeBy_18 rfl ⟨Nat.le_of_ble_eq_true rfl, Nat.le_of_ble_eq_true rfl⟩ (Nat.le_of_ble_eq_true rfl) hv0 hCe4 ?_
  refine bf_if_eq 31 dX10_changeBy_21 (by decide) (fun c6 => ?_) (fun c6 => ?_)
  · have hf := (if_pos c6).symm.trans hf
    refine bf_iconst (v := 0) dX10_changeBy_31 (by decide) ?_
    refine bf_isub dX10_changeBy_32 ?_
    obtain rfl := Option.some.inj hf
    exact bf_iret dX10_changeBy_33 rfl (Nat.le_refl _) (Nat.le_refl _) ⟨rfl, rfl⟩
  · have hf := (if_neg c6).symm.trans hf
    refine bf_aload_n 0 dX10_changeBy_24 rfl rfl ?_
    refine fg_X10_32 dX10_changeBy_25 rfl hv0 ?_
    refine bf_goto 32 dX10_changeBy_28 (by decide) ?_
    refine bf_isub dX10_changeBy_32 ?_
    obtain rfl := Option.some.inj hf
    exact bf_iret dX10_changeBy_33 rfl (Nat.le_refl _) (Nat.le_refl _) ⟨rfl, rfl⟩
def f_X10_changeBy (o : Nat) (a0 : Int32) (I : Nat → Nat → Int32) (L : Nat → Nat → Int64) : Option (Int32 × bf_St) :=
  ((f_X10_comesFrom o a0 I L).bind (fun r2 => (if r2.1 = 0 then (f_X10_changeBy_p16 o a0 (0 : Int32) r2.2.1 r2.2.2) else (f_X10_changeBy_p16 o a0 (r2.2.1 o 2) r2.2.1 r2.2.2))))
set_option maxRecDepth 100000 in
set_option maxHeartbeats 4000000 in
theorem ok_X10_changeBy {Γ : bf_Gm} {ad : Nat → Nat} {o : Nat} {a0 : Int32} {I : Nat → Nat → Int32} {L : Nat → Nat → Int64} (hk : bf_kd o = 10) {r : Int32 × bf_St} (hf : f_X10_changeBy o a0 I L = some r) : bf_Cn Γ 1 mu_X10_changeBy 0 0 [.ref (ad o), .int a0] (bf_S ad I L) (fun q h => q = some (.int r.1) ∧ h = bf_S ad r.2.1 r.2.2) := by
  refine bf_met rfl (Nat.le_of_ble_eq_true rfl) ?_
  unfold f_X10_changeBy at hf
  refine bf_aload_n 0 dX10_changeBy_0 rfl rfl ?_
  refine bf_iload_n 1 dX10_changeBy_1 rfl rfl ?_
  obtain ⟨r2, e1, hf⟩ := bf_bind hf
  have hCe1 := ok_X10_comesFrom (Γ := Γ) (ad := ad) hk e1
  refine cv_X10_47 0 dX10_changeBy_2 rfl ⟨Nat.le_of_ble_eq_true rfl, Nat.le_of_ble_eq_true rfl⟩ (Nat.le_of_ble_eq_true rfl) hk hCe1 ?_
  refine bf_if_eq 15 dX10_changeBy_5 (by decide) (fun c3 => ?_) (fun c3 => ?_)
  · have hf := (if_pos c3).symm.trans hf
    refine bf_iconst (v := 0) dX10_changeBy_15 (by decide) ?_
    exact ok_X10_changeBy_p16 hk  hf
  · have hf := (if_neg c3).symm.trans hf
    refine bf_aload_n 0 dX10_changeBy_8 rfl rfl ?_
    refine fg_X10_29 dX10_changeBy_9 rfl hk ?_
    refine bf_goto 16 dX10_changeBy_12 (by decide) ?_
    exact ok_X10_changeBy_p16 hk  hf
def f_X2_canFire_2 (v0 : Nat) (v1 : Nat) (v2 : Int32) (K : (Nat → Nat → Int32) → (Nat → Nat → Int64) → Option (Int32 × bf_St)) : Nat → Int32 → (Nat → Nat → Int32) → (Nat → Nat → Int64) → Option (Int32 × bf_St)
  | 0, _, _, _ => none
  | n + 1, v3, I, L =>
    (if (8 : Int32) ≤ v3 then (K I L) else (if bf_ok v3 8 then ((f_X10_goesTo ((v1 + 8) + 1 + 2 * v3.toNatClampNeg) v2 I L).bind (fun r4 => (if r4.1 = 0 then ((f_X10_comesFrom ((v1 + 8) + 1 + 2 * v3.toNatClampNeg) v2 r4.2.1 r4.2.2).bind (fun r7 => (if r7.1 = 0 then (f_X2_canFire_2 v0 v1 v2 K n (v3 + (1 : Int32)) r7.2.1 r7.2.2) else (if bf_ok v3 8 then ((f_X10_changeBy ((v1 + 8) + 1 + 2 * v3.toNatClampNeg) v2 r7.2.1 r7.2.2).bind (fun r11 => (if ((r7.2.1 (v0 + 1) v3.toNatClampNeg) + r11.1) ≤ (99 : Int32) then (f_X2_canFire_2 v0 v1 v2 K n (v3 + (1 : Int32)) r11.2.1 r11.2.2) else (some ((0 : Int32), r11.2.1, r11.2.2))))) else none)))) else (if bf_ok v3 8 then (if (r4.2.1 ((v1 + 8) + 1 + 2 * v3.toNatClampNeg) 3) ≤ (r4.2.1 (v0 + 1) v3.toNatClampNeg) then ((f_X10_comesFrom ((v1 + 8) + 1 + 2 * v3.toNatClampNeg) v2 r4.2.1 r4.2.2).bind (fun r16 => (if r16.1 = 0 then (f_X2_canFire_2 v0 v1 v2 K n (v3 + (1 : Int32)) r16.2.1 r16.2.2) else (if bf_ok v3 8 then ((f_X10_changeBy ((v1 + 8) + 1 + 2 * v3.toNatClampNeg) v2 r16.2.1 r16.2.2).bind (fun r20 => (if ((r16.2.1 (v0 + 1) v3.toNatClampNeg) + r20.1) ≤ (99 : Int32) then (f_X2_canFire_2 v0 v1 v2 K n (v3 + (1 : Int32)) r20.2.1 r20.2.2) else (some ((0 : Int32), r20.2.1, r20.2.2))))) else none)))) else (some ((0 : Int32), r4.2.1, r4.2.2))) else none)))) else none))
set_option maxRecDepth 100000 in
set_option maxHeartbeats 4000000 in
theorem ok_X2_canFire_2 {Γ : bf_Gm} {ad : Nat → Nat} {v0 : Nat} {v1 : Nat} {v2 : Int32} (hv0 : bf_kd v0 = 2) (hv1 : bf_kd v1 = 3) {r : Int32 × bf_St} {K : (Nat → Nat → Int32) → (Nat → Nat → Int64) → Option (Int32 × bf_St)} (hK : ∀ (I : Nat → Nat → Int32) (L : Nat → Nat → Int64), K  I L = some r → bf_Go Γ (bf_rm 2 0 0) mu_X2_canFire bf_E0 (bf_Z Γ (fun q h => q = some (.int r.1) ∧ h = bf_S ad r.2.1 r.2.2) 0 0) (0, 0) 76 [] [] (bf_S ad I L)) : ∀ (n : Nat) (v3 : Int32) (I : Nat → Nat → Int32) (L : Nat → Nat → Int64), f_X2_canFire_2 v0 v1 v2 K n v3 I L = some r → bf_Go Γ (bf_rm 2 0 0) mu_X2_canFire bf_E0 (bf_Z Γ (fun q h => q = some (.int r.1) ∧ h = bf_S ad r.2.1 r.2.2) 0 0) (0, 0) 2 [(0, .ref (ad v0)), (1, .ref (ad v1)), (2, .int v2), (3, .int v3)] [] (bf_S ad I L) := by
  intro n
  induction n with
  | zero => intro v3 I L hf; exact absurd (show none = some r from hf) (by simp)
  | succ n ih =>
    intro v3 I L hf
    rw [f_X2_canFire_2] at hf
    refine bf_iload_n 3 dX2_canFire_2 rfl rfl ?_
    refine bf_bipush (v := 8) dX2_canFire_3 (by decide) ?_
    refine bf_icmp_ge 76 dX2_canFire_5 (by decide) (fun c1 => ?_) (fun c1 => ?_)
    · have hf := (if_pos c1).symm.trans hf
      refine bf_perm [] rfl ?_
      exact hK _ _ hf
    · have hf := (if_neg c1).symm.trans hf
      refine bf_aload_n 1 dX2_canFire_8 rfl rfl ?_
      refine fg_X2_15 dX2_canFire_9 rfl hv1 ?_
      refine bf_iload_n 3 dX2_canFire_12 rfl rfl ?_
      rcases Decidable.em (bf_ok v3 8) with c2 | c2
      · have hf := (if_pos c2).symm.trans hf
        refine al_19 dX2_canFire_13 (kr_3_1 hv1) (by rw [(la_19 (kr_3_1 hv1))]; exact c2) ?_
        refine bf_astore (lv2 := [(4, .ref _), (0, .ref _), (1, .ref _), (2, .int _), (3, .int _)]) dX2_canFire_14 (by decide) rfl ?_
        refine bf_aload 0 dX2_canFire_16 rfl ?_
        refine bf_iload_n 3 dX2_canFire_18 rfl rfl ?_
        obtain ⟨r4, e3, hf⟩ := bf_bind hf
        have hCe3 := ok_X10_goesTo (Γ := Γ) (ad := ad) (ka_19 (kr_3_1 hv1) ((by rw [(la_19 (kr_3_1 hv1))]; exact c2) : bf_ok _ _).2) e3
        refine cv_X2_27 0 dX2_canFire_19 rfl ⟨Nat.le_of_ble_eq_true rfl, Nat.le_of_ble_eq_true rfl⟩ (Nat.le_of_ble_eq_true rfl) (ka_19 (kr_3_1 hv1) ((by rw [(la_19 (kr_3_1 hv1))]; exact c2) : bf_ok _ _).2) hCe3 ?_
        refine bf_if_eq 41 dX2_canFire_22 (by decide) (fun c5 => ?_) (fun c5 => ?_)
        · have hf := (if_pos c5).symm.trans hf
          refine bf_aload 0 dX2_canFire_41 rfl ?_
          refine bf_iload_n 3 dX2_canFire_43 rfl rfl ?_
          obtain ⟨r7, e6, hf⟩ := bf_bind hf
          have hCe6 := ok_X10_comesFrom (Γ := Γ) (ad := ad) (ka_19 (kr_3_1 hv1) ((by rw [(la_19 (kr_3_1 hv1))]; exact c2) : bf_ok _ _).2) e6
          refine cv_X2_34 0 dX2_canFire_44 rfl ⟨Nat.le_of_ble_eq_true rfl, Nat.le_of_ble_eq_true rfl⟩ (Nat.le_of_ble_eq_true rfl) (ka_19 (kr_3_1 hv1) ((by rw [(la_19 (kr_3_1 hv1))]; exact c2) : bf_ok _ _).2) hCe6 ?_
          refine bf_if_eq 70 dX2_canFire_47 (by decide) (fun c8 => ?_) (fun c8 => ?_)
          · have hf := (if_pos c8).symm.trans hf
            refine bf_iinc 4 (v := _ + (1 : Int32)) (lv2 := [(3, .int _), (4, .ref _), (0, .ref _), (1, .ref _), (2, .int _)]) dX2_canFire_70 rfl (by rfl) (by decide) rfl ?_
            refine bf_goto 2 dX2_canFire_73 (by decide) ?_
            refine bf_perm [2, 3, 4, 0] rfl ?_
            exact ih _ _ _ hf
          · have hf := (if_neg c8).symm.trans hf
            refine bf_aload_n 1 dX2_canFire_50 rfl rfl ?_
            refine fg_X2_9 dX2_canFire_51 rfl hv0 ?_
            refine bf_iload_n 4 dX2_canFire_54 rfl rfl ?_
            rcases Decidable.em (bf_ok v3 8) with c9 | c9
            · have hf := (if_pos c9).symm.trans hf
              refine bf_iald dX2_canFire_55 (kr_2_0 hv0) (by rw [(kl_2_0 hv0)]; exact c9) ?_
              refine bf_aload 0 dX2_canFire_56 rfl ?_
              refine bf_iload_n 3 dX2_canFire_58 rfl rfl ?_
              obtain ⟨r11, e10, hf⟩ := bf_bind hf
              have hCe10 := ok_X10_changeBy (Γ := Γ) (ad := ad) (ka_19 (kr_3_1 hv1) ((by rw [(la_19 (kr_3_1 hv1))]; exact c2) : bf_ok _ _).2) e10
              refine cv_X2_37 1 dX2_canFire_59 rfl ⟨Nat.le_of_ble_eq_true rfl, Nat.le_of_ble_eq_true rfl⟩ (Nat.le_of_ble_eq_true rfl) (ka_19 (kr_3_1 hv1) ((by rw [(la_19 (kr_3_1 hv1))]; exact c2) : bf_ok _ _).2) hCe10 ?_
              refine bf_iadd dX2_canFire_62 ?_
              refine bf_bipush (v := 99) dX2_canFire_63 (by decide) ?_
              refine bf_icmp_le 70 dX2_canFire_65 (by decide) (fun c12 => ?_) (fun c12 => ?_)
              · have hf := (if_pos c12).symm.trans hf
                refine bf_iinc 4 (v := _ + (1 : Int32)) (lv2 := [(3, .int _), (4, .ref _), (0, .ref _), (1, .ref _), (2, .int _)]) dX2_canFire_70 rfl (by rfl) (by decide) rfl ?_
                refine bf_goto 2 dX2_canFire_73 (by decide) ?_
                refine bf_perm [2, 3, 4, 0] rfl ?_
                exact ih _ _ _ hf
              · have hf := (if_neg c12).symm.trans hf
                refine bf_iconst (v := 0) dX2_canFire_68 (by decide) ?_
                obtain rfl := Option.some.inj hf
                exact bf_zret dX2_canFire_69 rfl rfl (Nat.le_refl _) (Nat.le_refl _) ⟨rfl, rfl⟩
            · exact absurd ((if_neg c9).symm.trans hf) (by simp)
        · have hf := (if_neg c5).symm.trans hf
          refine bf_aload_n 1 dX2_canFire_25 rfl rfl ?_
          refine fg_X2_9 dX2_canFire_26 rfl hv0 ?_
          refine bf_iload_n 4 dX2_canFire_29 rfl rfl ?_
          rcases Decidable.em (bf_ok v3 8) with c13 | c13
          · have hf := (if_pos c13).symm.trans hf
            refine bf_iald dX2_canFire_30 (kr_2_0 hv0) (by rw [(kl_2_0 hv0)]; exact c13) ?_
            refine bf_aload 0 dX2_canFire_31 rfl ?_
            refine fg_X2_31 dX2_canFire_33 rfl (ka_19 (kr_3_1 hv1) ((by rw [(la_19 (kr_3_1 hv1))]; exact c2) : bf_ok _ _).2) ?_
            refine bf_icmp_ge 41 dX2_canFire_36 (by decide) (fun c14 => ?_) (fun c14 => ?_)
            · have hf := (if_pos c14).symm.trans hf
              refine bf_aload 0 dX2_canFire_41 rfl ?_
              refine bf_iload_n 3 dX2_canFire_43 rfl rfl ?_
              obtain ⟨r16, e15, hf⟩ := bf_bind hf
              have hCe15 := ok_X10_comesFrom (Γ := Γ) (ad := ad) (ka_19 (kr_3_1 hv1) ((by rw [(la_19 (kr_3_1 hv1))]; exact c2) : bf_ok _ _).2) e15
              refine cv_X2_34 0 dX2_canFire_44 rfl ⟨Nat.le_of_ble_eq_true rfl, Nat.le_of_ble_eq_true rfl⟩ (Nat.le_of_ble_eq_true rfl) (ka_19 (kr_3_1 hv1) ((by rw [(la_19 (kr_3_1 hv1))]; exact c2) : bf_ok _ _).2) hCe15 ?_
              refine bf_if_eq 70 dX2_canFire_47 (by decide) (fun c17 => ?_) (fun c17 => ?_)
              · have hf := (if_pos c17).symm.trans hf
                refine bf_iinc 4 (v := _ + (1 : Int32)) (lv2 := [(3, .int _), (4, .ref _), (0, .ref _), (1, .ref _), (2, .int _)]) dX2_canFire_70 rfl (by rfl) (by decide) rfl ?_
                refine bf_goto 2 dX2_canFire_73 (by decide) ?_
                refine bf_perm [2, 3, 4, 0] rfl ?_
                exact ih _ _ _ hf
              · have hf := (if_neg c17).symm.trans hf
                refine bf_aload_n 1 dX2_canFire_50 rfl rfl ?_
                refine fg_X2_9 dX2_canFire_51 rfl hv0 ?_
                refine bf_iload_n 4 dX2_canFire_54 rfl rfl ?_
                rcases Decidable.em (bf_ok v3 8) with c18 | c18
                · have hf := (if_pos c18).symm.trans hf
                  refine bf_iald dX2_canFire_55 (kr_2_0 hv0) (by rw [(kl_2_0 hv0)]; exact c18) ?_
                  refine bf_aload 0 dX2_canFire_56 rfl ?_
                  refine bf_iload_n 3 dX2_canFire_58 rfl rfl ?_
                  obtain ⟨r20, e19, hf⟩ := bf_bind hf
                  have hCe19 := ok_X10_changeBy (Γ := Γ) (ad := ad) (ka_19 (kr_3_1 hv1) ((by rw [(la_19 (kr_3_1 hv1))]; exact c2) : bf_ok _ _).2) e19
                  refine cv_X2_37 1 dX2_canFire_59 rfl ⟨Nat.le_of_ble_eq_true rfl, Nat.le_of_ble_eq_true rfl⟩ (Nat.le_of_ble_eq_true rfl) (ka_19 (kr_3_1 hv1) ((by rw [(la_19 (kr_3_1 hv1))]; exact c2) : bf_ok _ _).2) hCe19 ?_
                  refine bf_iadd dX2_canFire_62 ?_
                  refine bf_bipush (v := 99) dX2_canFire_63 (by decide) ?_
                  refine bf_icmp_le 70 dX2_canFire_65 (by decide) (fun c21 => ?_) (fun c21 => ?_)
                  · have hf := (if_pos c21).symm.trans hf
                    refine bf_iinc 4 (v := _ + (1 : Int32)) (lv2 := [(3, .int _), (4, .ref _), (0, .ref _), (1, .ref _), (2, .int _)]) dX2_canFire_70 rfl (by rfl) (by decide) rfl ?_
                    refine bf_goto 2 dX2_canFire_73 (by decide) ?_
                    refine bf_perm [2, 3, 4, 0] rfl ?_
                    exact ih _ _ _ hf
                  · have hf := (if_neg c21).symm.trans hf
                    refine bf_iconst (v := 0) dX2_canFire_68 (by decide) ?_
                    obtain rfl := Option.some.inj hf
                    exact bf_zret dX2_canFire_69 rfl rfl (Nat.le_refl _) (Nat.le_refl _) ⟨rfl, rfl⟩
                · exact absurd ((if_neg c18).symm.trans hf) (by simp)
            · have hf := (if_neg c14).symm.trans hf
              refine bf_iconst (v := 0) dX2_canFire_39 (by decide) ?_
              obtain rfl := Option.some.inj hf
              exact bf_zret dX2_canFire_40 rfl rfl (Nat.le_refl _) (Nat.le_refl _) ⟨rfl, rfl⟩
          · exact absurd ((if_neg c13).symm.trans hf) (by simp)
      · exact absurd ((if_neg c2).symm.trans hf) (by simp)
def f_X2_canFire (o : Nat) (a0 : Nat) (a1 : Int32) (I : Nat → Nat → Int32) (L : Nat → Nat → Int64) : Option (Int32 × bf_St) :=
  (f_X2_canFire_2 o a0 a1 (fun I22 L22 => (some ((1 : Int32), I22, L22))) 400 (0 : Int32) I L)
set_option maxRecDepth 100000 in
set_option maxHeartbeats 4000000 in
theorem ok_X2_canFire {Γ : bf_Gm} {ad : Nat → Nat} {o : Nat} {a0 : Nat} {a1 : Int32} {I : Nat → Nat → Int32} {L : Nat → Nat → Int64} (hk : bf_kd o = 2) (hk0 : bf_kd a0 = 3) {r : Int32 × bf_St} (hf : f_X2_canFire o a0 a1 I L = some r) : bf_Cn Γ 2 mu_X2_canFire 0 0 [.ref (ad o), .ref (ad a0), .int a1] (bf_S ad I L) (fun q h => q = some (.int r.1) ∧ h = bf_S ad r.2.1 r.2.2) := by
  refine bf_met rfl (Nat.le_of_ble_eq_true rfl) ?_
  unfold f_X2_canFire at hf
  refine bf_iconst (v := 0) dX2_canFire_0 (by decide) ?_
  refine bf_istore_n (lv2 := [(3, .int _), (0, .ref _), (1, .ref _), (2, .int _)]) dX2_canFire_1 rfl (by decide) rfl ?_
  refine bf_perm [1, 2, 3, 0] rfl ?_
  refine ok_X2_canFire_2 hk hk0 (fun I22 L22 hf => ?_) _ _ _ _  hf
  refine bf_iconst (v := 1) dX2_canFire_76 (by decide) ?_
  obtain rfl := Option.some.inj hf
  exact bf_zret dX2_canFire_77 rfl rfl (Nat.le_refl _) (Nat.le_refl _) ⟨rfl, rfl⟩
def f_X2_fireBox_2 (v0 : Nat) (v1 : Nat) (v2 : Int32) (K : (Nat → Nat → Int32) → (Nat → Nat → Int64) → Option (bf_St)) : Nat → Int32 → (Nat → Nat → Int32) → (Nat → Nat → Int64) → Option (bf_St)
  | 0, _, _, _ => none
  | n + 1, v3, I, L =>
    (if (8 : Int32) ≤ v3 then (K I L) else (if bf_ok v3 8 then (if bf_ok v3 8 then ((f_X10_changeBy ((v1 + 8) + 1 + 2 * v3.toNatClampNeg) v2 I L).bind (fun r5 => (if bf_ok v3 8 then (f_X2_fireBox_2 v0 v1 v2 K n (v3 + (1 : Int32)) (bf_u r5.2.1 (v0 + 1) v3.toNatClampNeg ((I (v0 + 1) v3.toNatClampNeg) + r5.1)) r5.2.2) else none))) else none) else none))
set_option maxRecDepth 100000 in
set_option maxHeartbeats 4000000 in
theorem ok_X2_fireBox_2 {Γ : bf_Gm} {ad : Nat → Nat} {v0 : Nat} {v1 : Nat} {v2 : Int32} (hv0 : bf_kd v0 = 2) (hv1 : bf_kd v1 = 3) {r : bf_St} {K : (Nat → Nat → Int32) → (Nat → Nat → Int64) → Option (bf_St)} (hK : ∀ (I : Nat → Nat → Int32) (L : Nat → Nat → Int64), K  I L = some r → bf_Go Γ (bf_rm 2 0 0) mu_X2_fireBox bf_E0 (bf_Z Γ (fun q h => q = none ∧ h = bf_S ad r.1 r.2) 0 0) (0, 0) 33 [] [] (bf_S ad I L)) : ∀ (n : Nat) (v3 : Int32) (I : Nat → Nat → Int32) (L : Nat → Nat → Int64), f_X2_fireBox_2 v0 v1 v2 K n v3 I L = some r → bf_Go Γ (bf_rm 2 0 0) mu_X2_fireBox bf_E0 (bf_Z Γ (fun q h => q = none ∧ h = bf_S ad r.1 r.2) 0 0) (0, 0) 2 [(0, .ref (ad v0)), (1, .ref (ad v1)), (2, .int v2), (3, .int v3)] [] (bf_S ad I L) := by
  intro n
  induction n with
  | zero => intro v3 I L hf; exact absurd (show none = some r from hf) (by simp)
  | succ n ih =>
    intro v3 I L hf
    rw [f_X2_fireBox_2] at hf
    refine bf_iload_n 3 dX2_fireBox_2 rfl rfl ?_
    refine bf_bipush (v := 8) dX2_fireBox_3 (by decide) ?_
    refine bf_icmp_ge 33 dX2_fireBox_5 (by decide) (fun c1 => ?_) (fun c1 => ?_)
    · have hf := (if_pos c1).symm.trans hf
      refine bf_perm [] rfl ?_
      exact hK _ _ hf
    · have hf := (if_neg c1).symm.trans hf
      refine bf_aload_n 0 dX2_fireBox_8 rfl rfl ?_
      refine fg_X2_9 dX2_fireBox_9 rfl hv0 ?_
      refine bf_iload_n 3 dX2_fireBox_12 rfl rfl ?_
      refine bf_dup2 dX2_fireBox_13 rfl rfl ?_
      rcases Decidable.em (bf_ok v3 8) with c2 | c2
      · have hf := (if_pos c2).symm.trans hf
        refine bf_iald dX2_fireBox_14 (kr_2_0 hv0) (by rw [(kl_2_0 hv0)]; exact c2) ?_
        refine bf_aload_n 1 dX2_fireBox_15 rfl rfl ?_
        refine fg_X2_15 dX2_fireBox_16 rfl hv1 ?_
        refine bf_iload_n 3 dX2_fireBox_19 rfl rfl ?_
        rcases Decidable.em (bf_ok v3 8) with c3 | c3
        · have hf := (if_pos c3).symm.trans hf
          refine al_19 dX2_fireBox_20 (kr_3_1 hv1) (by rw [(la_19 (kr_3_1 hv1))]; exact c3) ?_
          refine bf_iload_n 2 dX2_fireBox_21 rfl rfl ?_
          obtain ⟨r5, e4, hf⟩ := bf_bind hf
          have hCe4 := ok_X10_changeBy (Γ := Γ) (ad := ad) (ka_19 (kr_3_1 hv1) ((by rw [(la_19 (kr_3_1 hv1))]; exact c3) : bf_ok _ _).2) e4
          refine cv_X2_37 1 dX2_fireBox_22 rfl ⟨Nat.le_of_ble_eq_true rfl, Nat.le_of_ble_eq_true rfl⟩ (Nat.le_of_ble_eq_true rfl) (ka_19 (kr_3_1 hv1) ((by rw [(la_19 (kr_3_1 hv1))]; exact c3) : bf_ok _ _).2) hCe4 ?_
          refine bf_iadd dX2_fireBox_25 ?_
          rcases Decidable.em (bf_ok v3 8) with c6 | c6
          · have hf := (if_pos c6).symm.trans hf
            refine bf_iast dX2_fireBox_26 (kr_2_0 hv0) (by rw [(kl_2_0 hv0)]; exact c6) ?_
            refine bf_iinc 3 (v := _ + (1 : Int32)) (lv2 := [(3, .int _), (0, .ref _), (1, .ref _), (2, .int _)]) dX2_fireBox_27 rfl (by rfl) (by decide) rfl ?_
            refine bf_goto 2 dX2_fireBox_30 (by decide) ?_
            refine bf_perm [1, 2, 3, 0] rfl ?_
            exact ih _ _ _ hf
          · exact absurd ((if_neg c6).symm.trans hf) (by simp)
        · exact absurd ((if_neg c3).symm.trans hf) (by simp)
      · exact absurd ((if_neg c2).symm.trans hf) (by simp)
def f_X2_fireBox (o : Nat) (a0 : Nat) (a1 : Int32) (I : Nat → Nat → Int32) (L : Nat → Nat → Int64) : Option (bf_St) :=
  (f_X2_fireBox_2 o a0 a1 (fun I7 L7 => (some (I7, L7))) 400 (0 : Int32) I L)
set_option maxRecDepth 100000 in
set_option maxHeartbeats 4000000 in
theorem ok_X2_fireBox {Γ : bf_Gm} {ad : Nat → Nat} {o : Nat} {a0 : Nat} {a1 : Int32} {I : Nat → Nat → Int32} {L : Nat → Nat → Int64} (hk : bf_kd o = 2) (hk0 : bf_kd a0 = 3) {r : bf_St} (hf : f_X2_fireBox o a0 a1 I L = some r) : bf_Cn Γ 2 mu_X2_fireBox 0 0 [.ref (ad o), .ref (ad a0), .int a1] (bf_S ad I L) (fun q h => q = none ∧ h = bf_S ad r.1 r.2) := by
  refine bf_met rfl (Nat.le_of_ble_eq_true rfl) ?_
  unfold f_X2_fireBox at hf
  refine bf_iconst (v := 0) dX2_fireBox_0 (by decide) ?_
  refine bf_istore_n (lv2 := [(3, .int _), (0, .ref _), (1, .ref _), (2, .int _)]) dX2_fireBox_1 rfl (by decide) rfl ?_
  refine bf_perm [1, 2, 3, 0] rfl ?_
  refine ok_X2_fireBox_2 hk hk0 (fun I7 L7 hf => ?_) _ _ _ _  hf
  obtain rfl := Option.some.inj hf
  exact bf_vret dX2_fireBox_33 rfl (Nat.le_refl _) (Nat.le_refl _) ⟨rfl, rfl⟩
def f_X2_takeBack_2 (v0 : Nat) (v1 : Nat) (v2 : Int32) (K : (Nat → Nat → Int32) → (Nat → Nat → Int64) → Option (bf_St)) : Nat → Int32 → (Nat → Nat → Int32) → (Nat → Nat → Int64) → Option (bf_St)
  | 0, _, _, _ => none
  | n + 1, v3, I, L =>
    (if (8 : Int32) ≤ v3 then (K I L) else (if bf_ok v3 8 then (if bf_ok v3 8 then ((f_X10_changeBy ((v1 + 8) + 1 + 2 * v3.toNatClampNeg) v2 I L).bind (fun r5 => (if bf_ok v3 8 then (f_X2_takeBack_2 v0 v1 v2 K n (v3 + (1 : Int32)) (bf_u r5.2.1 (v0 + 1) v3.toNatClampNeg ((I (v0 + 1) v3.toNatClampNeg) - r5.1)) r5.2.2) else none))) else none) else none))
set_option maxRecDepth 100000 in
set_option maxHeartbeats 4000000 in
theorem ok_X2_takeBack_2 {Γ : bf_Gm} {ad : Nat → Nat} {v0 : Nat} {v1 : Nat} {v2 : Int32} (hv0 : bf_kd v0 = 2) (hv1 : bf_kd v1 = 3) {r : bf_St} {K : (Nat → Nat → Int32) → (Nat → Nat → Int64) → Option (bf_St)} (hK : ∀ (I : Nat → Nat → Int32) (L : Nat → Nat → Int64), K  I L = some r → bf_Go Γ (bf_rm 2 0 0) mu_X2_takeBack bf_E0 (bf_Z Γ (fun q h => q = none ∧ h = bf_S ad r.1 r.2) 0 0) (0, 0) 33 [] [] (bf_S ad I L)) : ∀ (n : Nat) (v3 : Int32) (I : Nat → Nat → Int32) (L : Nat → Nat → Int64), f_X2_takeBack_2 v0 v1 v2 K n v3 I L = some r → bf_Go Γ (bf_rm 2 0 0) mu_X2_takeBack bf_E0 (bf_Z Γ (fun q h => q = none ∧ h = bf_S ad r.1 r.2) 0 0) (0, 0) 2 [(0, .ref (ad v0)), (1, .ref (ad v1)), (2, .int v2), (3, .int v3)] [] (bf_S ad I L) := by
  intro n
  induction n with
  | zero => intro v3 I L hf; exact absurd (show none = some r from hf) (by simp)
  | succ n ih =>
    intro v3 I L hf
    rw [f_X2_takeBack_2] at hf
    refine bf_iload_n 3 dX2_takeBack_2 rfl rfl ?_
    refine bf_bipush (v := 8) dX2_takeBack_3 (by decide) ?_
    refine bf_icmp_ge 33 dX2_takeBack_5 (by decide) (fun c1 => ?_) (fun c1 => ?_)
    · have hf := (if_pos c1).symm.trans hf
      refine bf_perm [] rfl ?_
      exact hK _ _ hf
    · have hf := (if_neg c1).symm.trans hf
      refine bf_aload_n 0 dX2_takeBack_8 rfl rfl ?_
      refine fg_X2_9 dX2_takeBack_9 rfl hv0 ?_
      refine bf_iload_n 3 dX2_takeBack_12 rfl rfl ?_
      refine bf_dup2 dX2_takeBack_13 rfl rfl ?_
      rcases Decidable.em (bf_ok v3 8) with c2 | c2
      · have hf := (if_pos c2).symm.trans hf
        refine bf_iald dX2_takeBack_14 (kr_2_0 hv0) (by rw [(kl_2_0 hv0)]; exact c2) ?_
        refine bf_aload_n 1 dX2_takeBack_15 rfl rfl ?_
        refine fg_X2_15 dX2_takeBack_16 rfl hv1 ?_
        refine bf_iload_n 3 dX2_takeBack_19 rfl rfl ?_
        rcases Decidable.em (bf_ok v3 8) with c3 | c3
        · have hf := (if_pos c3).symm.trans hf
          refine al_19 dX2_takeBack_20 (kr_3_1 hv1) (by rw [(la_19 (kr_3_1 hv1))]; exact c3) ?_
          refine bf_iload_n 2 dX2_takeBack_21 rfl rfl ?_
          obtain ⟨r5, e4, hf⟩ := bf_bind hf
          have hCe4 := ok_X10_changeBy (Γ := Γ) (ad := ad) (ka_19 (kr_3_1 hv1) ((by rw [(la_19 (kr_3_1 hv1))]; exact c3) : bf_ok _ _).2) e4
          refine cv_X2_37 1 dX2_takeBack_22 rfl ⟨Nat.le_of_ble_eq_true rfl, Nat.le_of_ble_eq_true rfl⟩ (Nat.le_of_ble_eq_true rfl) (ka_19 (kr_3_1 hv1) ((by rw [(la_19 (kr_3_1 hv1))]; exact c3) : bf_ok _ _).2) hCe4 ?_
          refine bf_isub dX2_takeBack_25 ?_
          rcases Decidable.em (bf_ok v3 8) with c6 | c6
          · have hf := (if_pos c6).symm.trans hf
            refine bf_iast dX2_takeBack_26 (kr_2_0 hv0) (by rw [(kl_2_0 hv0)]; exact c6) ?_
            refine bf_iinc 3 (v := _ + (1 : Int32)) (lv2 := [(3, .int _), (0, .ref _), (1, .ref _), (2, .int _)]) dX2_takeBack_27 rfl (by rfl) (by decide) rfl ?_
            refine bf_goto 2 dX2_takeBack_30 (by decide) ?_
            refine bf_perm [1, 2, 3, 0] rfl ?_
            exact ih _ _ _ hf
          · exact absurd ((if_neg c6).symm.trans hf) (by simp)
        · exact absurd ((if_neg c3).symm.trans hf) (by simp)
      · exact absurd ((if_neg c2).symm.trans hf) (by simp)
def f_X2_takeBack (o : Nat) (a0 : Nat) (a1 : Int32) (I : Nat → Nat → Int32) (L : Nat → Nat → Int64) : Option (bf_St) :=
  (f_X2_takeBack_2 o a0 a1 (fun I7 L7 => (some (I7, L7))) 400 (0 : Int32) I L)
set_option maxRecDepth 100000 in
set_option maxHeartbeats 4000000 in
theorem ok_X2_takeBack {Γ : bf_Gm} {ad : Nat → Nat} {o : Nat} {a0 : Nat} {a1 : Int32} {I : Nat → Nat → Int32} {L : Nat → Nat → Int64} (hk : bf_kd o = 2) (hk0 : bf_kd a0 = 3) {r : bf_St} (hf : f_X2_takeBack o a0 a1 I L = some r) : bf_Cn Γ 2 mu_X2_takeBack 0 0 [.ref (ad o), .ref (ad a0), .int a1] (bf_S ad I L) (fun q h => q = none ∧ h = bf_S ad r.1 r.2) := by
  refine bf_met rfl (Nat.le_of_ble_eq_true rfl) ?_
  unfold f_X2_takeBack at hf
  refine bf_iconst (v := 0) dX2_takeBack_0 (by decide) ?_
  refine bf_istore_n (lv2 := [(3, .int _), (0, .ref _), (1, .ref _), (2, .int _)]) dX2_takeBack_1 rfl (by decide) rfl ?_
  refine bf_perm [1, 2, 3, 0] rfl ?_
  refine ok_X2_takeBack_2 hk hk0 (fun I7 L7 hf => ?_) _ _ _ _  hf
  obtain rfl := Option.some.inj hf
  exact bf_vret dX2_takeBack_33 rfl (Nat.le_refl _) (Nat.le_refl _) ⟨rfl, rfl⟩
def f_X10_copyFrom (o : Nat) (a0 : Nat) (I : Nat → Nat → Int32) (L : Nat → Nat → Int64) : Option (bf_St) :=
  (if ((bf_u (bf_u (bf_u (bf_u I o 0 (I a0 0)) o 1 ((bf_u I o 0 (I a0 0)) a0 1)) o 2 ((bf_u (bf_u I o 0 (I a0 0)) o 1 ((bf_u I o 0 (I a0 0)) a0 1)) a0 2)) o 3 ((bf_u (bf_u (bf_u I o 0 (I a0 0)) o 1 ((bf_u I o 0 (I a0 0)) a0 1)) o 2 ((bf_u (bf_u I o 0 (I a0 0)) o 1 ((bf_u I o 0 (I a0 0)) a0 1)) a0 2)) a0 3)) a0 4) = 0 ∨ ((bf_u (bf_u (bf_u (bf_u I o 0 (I a0 0)) o 1 ((bf_u I o 0 (I a0 0)) a0 1)) o 2 ((bf_u (bf_u I o 0 (I a0 0)) o 1 ((bf_u I o 0 (I a0 0)) a0 1)) a0 2)) o 3 ((bf_u (bf_u (bf_u I o 0 (I a0 0)) o 1 ((bf_u I o 0 (I a0 0)) a0 1)) o 2 ((bf_u (bf_u I o 0 (I a0 0)) o 1 ((bf_u I o 0 (I a0 0)) a0 1)) a0 2)) a0 3)) a0 4) = 1 then (if ((bf_u (bf_u (bf_u (bf_u (bf_u (bf_u (bf_u I o 0 (I a0 0)) o 1 ((bf_u I o 0 (I a0 0)) a0 1)) o 2 ((bf_u (bf_u I o 0 (I a0 0)) o 1 ((bf_u I o 0 (I a0 0)) a0 1)) a0 2)) o 3 ((bf_u (bf_u (bf_u I o 0 (I a0 0)) o 1 ((bf_u I o 0 (I a0 0)) a0 1)) o 2 ((bf_u (bf_u I o 0 (I a0 0)) o 1 ((bf_u I o 0 (I a0 0)) a0 1)) a0 2)) a0 3)) o 4 ((bf_u (bf_u (bf_u (bf_u I o 0 (I a0 0)) o 1 ((bf_u I o 0 (I a0 0)) a0 1)) o 2 ((bf_u (bf_u I o 0 (I a0 0)) o 1 ((bf_u I o 0 (I a0 0)) a0 1)) a0 2)) o 3 ((bf_u (bf_u (bf_u I o 0 (I a0 0)) o 1 ((bf_u I o 0 (I a0 0)) a0 1)) o 2 ((bf_u (bf_u I o 0 (I a0 0)) o 1 ((bf_u I o 0 (I a0 0)) a0 1)) a0 2)) a0 3)) a0 4)) o 5 ((bf_u (bf_u (bf_u (bf_u (bf_u I o 0 (I a0 0)) o 1 ((bf_u I o 0 (I a0 0)) a0 1)) o 2 ((bf_u (bf_u I o 0 (I a0 0)) o 1 ((bf_u I o 0 (I a0 0)) a0 1)) a0 2)) o 3 ((bf_u (bf_u (bf_u I o 0 (I a0 0)) o 1 ((bf_u I o 0 (I a0 0)) a0 1)) o 2 ((bf_u (bf_u I o 0 (I a0 0)) o 1 ((bf_u I o 0 (I a0 0)) a0 1)) a0 2)) a0 3)) o 4 ((bf_u (bf_u (bf_u (bf_u I o 0 (I a0 0)) o 1 ((bf_u I o 0 (I a0 0)) a0 1)) o 2 ((bf_u (bf_u I o 0 (I a0 0)) o 1 ((bf_u I o 0 (I a0 0)) a0 1)) a0 2)) o 3 ((bf_u (bf_u (bf_u I o 0 (I a0 0)) o 1 ((bf_u I o 0 (I a0 0)) a0 1)) o 2 ((bf_u (bf_u I o 0 (I a0 0)) o 1 ((bf_u I o 0 (I a0 0)) a0 1)) a0 2)) a0 3)) a0 4)) a0 5)) o 6 ((bf_u (bf_u (bf_u (bf_u (bf_u (bf_u I o 0 (I a0 0)) o 1 ((bf_u I o 0 (I a0 0)) a0 1)) o 2 ((bf_u (bf_u I o 0 (I a0 0)) o 1 ((bf_u I o 0 (I a0 0)) a0 1)) a0 2)) o 3 ((bf_u (bf_u (bf_u I o 0 (I a0 0)) o 1 ((bf_u I o 0 (I a0 0)) a0 1)) o 2 ((bf_u (bf_u I o 0 (I a0 0)) o 1 ((bf_u I o 0 (I a0 0)) a0 1)) a0 2)) a0 3)) o 4 ((bf_u (bf_u (bf_u (bf_u I o 0 (I a0 0)) o 1 ((bf_u I o 0 (I a0 0)) a0 1)) o 2 ((bf_u (bf_u I o 0 (I a0 0)) o 1 ((bf_u I o 0 (I a0 0)) a0 1)) a0 2)) o 3 ((bf_u (bf_u (bf_u I o 0 (I a0 0)) o 1 ((bf_u I o 0 (I a0 0)) a0 1)) o 2 ((bf_u (bf_u I o 0 (I a0 0)) o 1 ((bf_u I o 0 (I a0 0)) a0 1)) a0 2)) a0 3)) a0 4)) o 5 ((bf_u (bf_u (bf_u (bf_u (bf_u I o 0 (I a0 0)) o 1 ((bf_u I o 0 (I a0 0)) a0 1)) o 2 ((bf_u (bf_u I o 0 (I a0 0)) o 1 ((bf_u I o 0 (I a0 0)) a0 1)) a0 2)) o 3 ((bf_u (bf_u (bf_u I o 0 (I a0 0)) o 1 ((bf_u I o 0 (I a0 0)) a0 1)) o 2 ((bf_u (bf_u I o 0 (I a0 0)) o 1 ((bf_u I o 0 (I a0 0)) a0 1)) a0 2)) a0 3)) o 4 ((bf_u (bf_u (bf_u (bf_u I o 0 (I a0 0)) o 1 ((bf_u I o 0 (I a0 0)) a0 1)) o 2 ((bf_u (bf_u I o 0 (I a0 0)) o 1 ((bf_u I o 0 (I a0 0)) a0 1)) a0 2)) o 3 ((bf_u (bf_u (bf_u I o 0 (I a0 0)) o 1 ((bf_u I o 0 (I a0 0)) a0 1)) o 2 ((bf_u (bf_u I o 0 (I a0 0)) o 1 ((bf_u I o 0 (I a0 0)) a0 1)) a0 2)) a0 3)) a0 4)) a0 5)) a0 6)) o 5) ≤ 0 then (some ((bf_u (bf_u (bf_u (bf_u (bf_u (bf_u (bf_u I o 0 (I a0 0)) o 1 ((bf_u I o 0 (I a0 0)) a0 1)) o 2 ((bf_u (bf_u I o 0 (I a0 0)) o 1 ((bf_u I o 0 (I a0 0)) a0 1)) a0 2)) o 3 ((bf_u (bf_u (bf_u I o 0 (I a0 0)) o 1 ((bf_u I o 0 (I a0 0)) a0 1)) o 2 ((bf_u (bf_u I o 0 (I a0 0)) o 1 ((bf_u I o 0 (I a0 0)) a0 1)) a0 2)) a0 3)) o 4 ((bf_u (bf_u (bf_u (bf_u I o 0 (I a0 0)) o 1 ((bf_u I o 0 (I a0 0)) a0 1)) o 2 ((bf_u (bf_u I o 0 (I a0 0)) o 1 ((bf_u I o 0 (I a0 0)) a0 1)) a0 2)) o 3 ((bf_u (bf_u (bf_u I o 0 (I a0 0)) o 1 ((bf_u I o 0 (I a0 0)) a0 1)) o 2 ((bf_u (bf_u I o 0 (I a0 0)) o 1 ((bf_u I o 0 (I a0 0)) a0 1)) a0 2)) a0 3)) a0 4)) o 5 ((bf_u (bf_u (bf_u (bf_u (bf_u I o 0 (I a0 0)) o 1 ((bf_u I o 0 (I a0 0)) a0 1)) o 2 ((bf_u (bf_u I o 0 (I a0 0)) o 1 ((bf_u I o 0 (I a0 0)) a0 1)) a0 2)) o 3 ((bf_u (bf_u (bf_u I o 0 (I a0 0)) o 1 ((bf_u I o 0 (I a0 0)) a0 1)) o 2 ((bf_u (bf_u I o 0 (I a0 0)) o 1 ((bf_u I o 0 (I a0 0)) a0 1)) a0 2)) a0 3)) o 4 ((bf_u (bf_u (bf_u (bf_u I o 0 (I a0 0)) o 1 ((bf_u I o 0 (I a0 0)) a0 1)) o 2 ((bf_u (bf_u I o 0 (I a0 0)) o 1 ((bf_u I o 0 (I a0 0)) a0 1)) a0 2)) o 3 ((bf_u (bf_u (bf_u I o 0 (I a0 0)) o 1 ((bf_u I o 0 (I a0 0)) a0 1)) o 2 ((bf_u (bf_u I o 0 (I a0 0)) o 1 ((bf_u I o 0 (I a0 0)) a0 1)) a0 2)) a0 3)) a0 4)) a0 5)) o 6 ((bf_u (bf_u (bf_u (bf_u (bf_u (bf_u I o 0 (I a0 0)) o 1 ((bf_u I o 0 (I a0 0)) a0 1)) o 2 ((bf_u (bf_u I o 0 (I a0 0)) o 1 ((bf_u I o 0 (I a0 0)) a0 1)) a0 2)) o 3 ((bf_u (bf_u (bf_u I o 0 (I a0 0)) o 1 ((bf_u I o 0 (I a0 0)) a0 1)) o 2 ((bf_u (bf_u I o 0 (I a0 0)) o 1 ((bf_u I o 0 (I a0 0)) a0 1)) a0 2)) a0 3)) o 4 ((bf_u (bf_u (bf_u (bf_u I o 0 (I a0 0)) o 1 ((bf_u I o 0 (I a0 0)) a0 1)) o 2 ((bf_u (bf_u I o 0 (I a0 0)) o 1 ((bf_u I o 0 (I a0 0)) a0 1)) a0 2)) o 3 ((bf_u (bf_u (bf_u I o 0 (I a0 0)) o 1 ((bf_u I o 0 (I a0 0)) a0 1)) o 2 ((bf_u (bf_u I o 0 (I a0 0)) o 1 ((bf_u I o 0 (I a0 0)) a0 1)) a0 2)) a0 3)) a0 4)) o 5 ((bf_u (bf_u (bf_u (bf_u (bf_u I o 0 (I a0 0)) o 1 ((bf_u I o 0 (I a0 0)) a0 1)) o 2 ((bf_u (bf_u I o 0 (I a0 0)) o 1 ((bf_u I o 0 (I a0 0)) a0 1)) a0 2)) o 3 ((bf_u (bf_u (bf_u I o 0 (I a0 0)) o 1 ((bf_u I o 0 (I a0 0)) a0 1)) o 2 ((bf_u (bf_u I o 0 (I a0 0)) o 1 ((bf_u I o 0 (I a0 0)) a0 1)) a0 2)) a0 3)) o 4 ((bf_u (bf_u (bf_u (bf_u I o 0 (I a0 0)) o 1 ((bf_u I o 0 (I a0 0)) a0 1)) o 2 ((bf_u (bf_u I o 0 (I a0 0)) o 1 ((bf_u I o 0 (I a0 0)) a0 1)) a0 2)) o 3 ((bf_u (bf_u (bf_u I o 0 (I a0 0)) o 1 ((bf_u I o 0 (I a0 0)) a0 1)) o 2 ((bf_u (bf_u I o 0 (I a0 0)) o 1 ((bf_u I o 0 (I a0 0)) a0 1)) a0 2)) a0 3)) a0 4)) a0 5)) a0 6)), L)) else (if bf_cpOK (0 : Int32) (0 : Int32) (99 : Int32) (a0 + 1) (o + 1) then (some ((bf_w (bf_u (bf_u (bf_u (bf_u (bf_u (bf_u (bf_u I o 0 (I a0 0)) o 1 ((bf_u I o 0 (I a0 0)) a0 1)) o 2 ((bf_u (bf_u I o 0 (I a0 0)) o 1 ((bf_u I o 0 (I a0 0)) a0 1)) a0 2)) o 3 ((bf_u (bf_u (bf_u I o 0 (I a0 0)) o 1 ((bf_u I o 0 (I a0 0)) a0 1)) o 2 ((bf_u (bf_u I o 0 (I a0 0)) o 1 ((bf_u I o 0 (I a0 0)) a0 1)) a0 2)) a0 3)) o 4 ((bf_u (bf_u (bf_u (bf_u I o 0 (I a0 0)) o 1 ((bf_u I o 0 (I a0 0)) a0 1)) o 2 ((bf_u (bf_u I o 0 (I a0 0)) o 1 ((bf_u I o 0 (I a0 0)) a0 1)) a0 2)) o 3 ((bf_u (bf_u (bf_u I o 0 (I a0 0)) o 1 ((bf_u I o 0 (I a0 0)) a0 1)) o 2 ((bf_u (bf_u I o 0 (I a0 0)) o 1 ((bf_u I o 0 (I a0 0)) a0 1)) a0 2)) a0 3)) a0 4)) o 5 ((bf_u (bf_u (bf_u (bf_u (bf_u I o 0 (I a0 0)) o 1 ((bf_u I o 0 (I a0 0)) a0 1)) o 2 ((bf_u (bf_u I o 0 (I a0 0)) o 1 ((bf_u I o 0 (I a0 0)) a0 1)) a0 2)) o 3 ((bf_u (bf_u (bf_u I o 0 (I a0 0)) o 1 ((bf_u I o 0 (I a0 0)) a0 1)) o 2 ((bf_u (bf_u I o 0 (I a0 0)) o 1 ((bf_u I o 0 (I a0 0)) a0 1)) a0 2)) a0 3)) o 4 ((bf_u (bf_u (bf_u (bf_u I o 0 (I a0 0)) o 1 ((bf_u I o 0 (I a0 0)) a0 1)) o 2 ((bf_u (bf_u I o 0 (I a0 0)) o 1 ((bf_u I o 0 (I a0 0)) a0 1)) a0 2)) o 3 ((bf_u (bf_u (bf_u I o 0 (I a0 0)) o 1 ((bf_u I o 0 (I a0 0)) a0 1)) o 2 ((bf_u (bf_u I o 0 (I a0 0)) o 1 ((bf_u I o 0 (I a0 0)) a0 1)) a0 2)) a0 3)) a0 4)) a0 5)) o 6 ((bf_u (bf_u (bf_u (bf_u (bf_u (bf_u I o 0 (I a0 0)) o 1 ((bf_u I o 0 (I a0 0)) a0 1)) o 2 ((bf_u (bf_u I o 0 (I a0 0)) o 1 ((bf_u I o 0 (I a0 0)) a0 1)) a0 2)) o 3 ((bf_u (bf_u (bf_u I o 0 (I a0 0)) o 1 ((bf_u I o 0 (I a0 0)) a0 1)) o 2 ((bf_u (bf_u I o 0 (I a0 0)) o 1 ((bf_u I o 0 (I a0 0)) a0 1)) a0 2)) a0 3)) o 4 ((bf_u (bf_u (bf_u (bf_u I o 0 (I a0 0)) o 1 ((bf_u I o 0 (I a0 0)) a0 1)) o 2 ((bf_u (bf_u I o 0 (I a0 0)) o 1 ((bf_u I o 0 (I a0 0)) a0 1)) a0 2)) o 3 ((bf_u (bf_u (bf_u I o 0 (I a0 0)) o 1 ((bf_u I o 0 (I a0 0)) a0 1)) o 2 ((bf_u (bf_u I o 0 (I a0 0)) o 1 ((bf_u I o 0 (I a0 0)) a0 1)) a0 2)) a0 3)) a0 4)) o 5 ((bf_u (bf_u (bf_u (bf_u (bf_u I o 0 (I a0 0)) o 1 ((bf_u I o 0 (I a0 0)) a0 1)) o 2 ((bf_u (bf_u I o 0 (I a0 0)) o 1 ((bf_u I o 0 (I a0 0)) a0 1)) a0 2)) o 3 ((bf_u (bf_u (bf_u I o 0 (I a0 0)) o 1 ((bf_u I o 0 (I a0 0)) a0 1)) o 2 ((bf_u (bf_u I o 0 (I a0 0)) o 1 ((bf_u I o 0 (I a0 0)) a0 1)) a0 2)) a0 3)) o 4 ((bf_u (bf_u (bf_u (bf_u I o 0 (I a0 0)) o 1 ((bf_u I o 0 (I a0 0)) a0 1)) o 2 ((bf_u (bf_u I o 0 (I a0 0)) o 1 ((bf_u I o 0 (I a0 0)) a0 1)) a0 2)) o 3 ((bf_u (bf_u (bf_u I o 0 (I a0 0)) o 1 ((bf_u I o 0 (I a0 0)) a0 1)) o 2 ((bf_u (bf_u I o 0 (I a0 0)) o 1 ((bf_u I o 0 (I a0 0)) a0 1)) a0 2)) a0 3)) a0 4)) a0 5)) a0 6)) (o + 1) (va_cpy ((bf_u (bf_u (bf_u (bf_u (bf_u (bf_u (bf_u I o 0 (I a0 0)) o 1 ((bf_u I o 0 (I a0 0)) a0 1)) o 2 ((bf_u (bf_u I o 0 (I a0 0)) o 1 ((bf_u I o 0 (I a0 0)) a0 1)) a0 2)) o 3 ((bf_u (bf_u (bf_u I o 0 (I a0 0)) o 1 ((bf_u I o 0 (I a0 0)) a0 1)) o 2 ((bf_u (bf_u I o 0 (I a0 0)) o 1 ((bf_u I o 0 (I a0 0)) a0 1)) a0 2)) a0 3)) o 4 ((bf_u (bf_u (bf_u (bf_u I o 0 (I a0 0)) o 1 ((bf_u I o 0 (I a0 0)) a0 1)) o 2 ((bf_u (bf_u I o 0 (I a0 0)) o 1 ((bf_u I o 0 (I a0 0)) a0 1)) a0 2)) o 3 ((bf_u (bf_u (bf_u I o 0 (I a0 0)) o 1 ((bf_u I o 0 (I a0 0)) a0 1)) o 2 ((bf_u (bf_u I o 0 (I a0 0)) o 1 ((bf_u I o 0 (I a0 0)) a0 1)) a0 2)) a0 3)) a0 4)) o 5 ((bf_u (bf_u (bf_u (bf_u (bf_u I o 0 (I a0 0)) o 1 ((bf_u I o 0 (I a0 0)) a0 1)) o 2 ((bf_u (bf_u I o 0 (I a0 0)) o 1 ((bf_u I o 0 (I a0 0)) a0 1)) a0 2)) o 3 ((bf_u (bf_u (bf_u I o 0 (I a0 0)) o 1 ((bf_u I o 0 (I a0 0)) a0 1)) o 2 ((bf_u (bf_u I o 0 (I a0 0)) o 1 ((bf_u I o 0 (I a0 0)) a0 1)) a0 2)) a0 3)) o 4 ((bf_u (bf_u (bf_u (bf_u I o 0 (I a0 0)) o 1 ((bf_u I o 0 (I a0 0)) a0 1)) o 2 ((bf_u (bf_u I o 0 (I a0 0)) o 1 ((bf_u I o 0 (I a0 0)) a0 1)) a0 2)) o 3 ((bf_u (bf_u (bf_u I o 0 (I a0 0)) o 1 ((bf_u I o 0 (I a0 0)) a0 1)) o 2 ((bf_u (bf_u I o 0 (I a0 0)) o 1 ((bf_u I o 0 (I a0 0)) a0 1)) a0 2)) a0 3)) a0 4)) a0 5)) o 6 ((bf_u (bf_u (bf_u (bf_u (bf_u (bf_u I o 0 (I a0 0)) o 1 ((bf_u I o 0 (I a0 0)) a0 1)) o 2 ((bf_u (bf_u I o 0 (I a0 0)) o 1 ((bf_u I o 0 (I a0 0)) a0 1)) a0 2)) o 3 ((bf_u (bf_u (bf_u I o 0 (I a0 0)) o 1 ((bf_u I o 0 (I a0 0)) a0 1)) o 2 ((bf_u (bf_u I o 0 (I a0 0)) o 1 ((bf_u I o 0 (I a0 0)) a0 1)) a0 2)) a0 3)) o 4 ((bf_u (bf_u (bf_u (bf_u I o 0 (I a0 0)) o 1 ((bf_u I o 0 (I a0 0)) a0 1)) o 2 ((bf_u (bf_u I o 0 (I a0 0)) o 1 ((bf_u I o 0 (I a0 0)) a0 1)) a0 2)) o 3 ((bf_u (bf_u (bf_u I o 0 (I a0 0)) o 1 ((bf_u I o 0 (I a0 0)) a0 1)) o 2 ((bf_u (bf_u I o 0 (I a0 0)) o 1 ((bf_u I o 0 (I a0 0)) a0 1)) a0 2)) a0 3)) a0 4)) o 5 ((bf_u (bf_u (bf_u (bf_u (bf_u I o 0 (I a0 0)) o 1 ((bf_u I o 0 (I a0 0)) a0 1)) o 2 ((bf_u (bf_u I o 0 (I a0 0)) o 1 ((bf_u I o 0 (I a0 0)) a0 1)) a0 2)) o 3 ((bf_u (bf_u (bf_u I o 0 (I a0 0)) o 1 ((bf_u I o 0 (I a0 0)) a0 1)) o 2 ((bf_u (bf_u I o 0 (I a0 0)) o 1 ((bf_u I o 0 (I a0 0)) a0 1)) a0 2)) a0 3)) o 4 ((bf_u (bf_u (bf_u (bf_u I o 0 (I a0 0)) o 1 ((bf_u I o 0 (I a0 0)) a0 1)) o 2 ((bf_u (bf_u I o 0 (I a0 0)) o 1 ((bf_u I o 0 (I a0 0)) a0 1)) a0 2)) o 3 ((bf_u (bf_u (bf_u I o 0 (I a0 0)) o 1 ((bf_u I o 0 (I a0 0)) a0 1)) o 2 ((bf_u (bf_u I o 0 (I a0 0)) o 1 ((bf_u I o 0 (I a0 0)) a0 1)) a0 2)) a0 3)) a0 4)) a0 5)) a0 6)) (a0 + 1)) ((bf_u (bf_u (bf_u (bf_u (bf_u (bf_u (bf_u I o 0 (I a0 0)) o 1 ((bf_u I o 0 (I a0 0)) a0 1)) o 2 ((bf_u (bf_u I o 0 (I a0 0)) o 1 ((bf_u I o 0 (I a0 0)) a0 1)) a0 2)) o 3 ((bf_u (bf_u (bf_u I o 0 (I a0 0)) o 1 ((bf_u I o 0 (I a0 0)) a0 1)) o 2 ((bf_u (bf_u I o 0 (I a0 0)) o 1 ((bf_u I o 0 (I a0 0)) a0 1)) a0 2)) a0 3)) o 4 ((bf_u (bf_u (bf_u (bf_u I o 0 (I a0 0)) o 1 ((bf_u I o 0 (I a0 0)) a0 1)) o 2 ((bf_u (bf_u I o 0 (I a0 0)) o 1 ((bf_u I o 0 (I a0 0)) a0 1)) a0 2)) o 3 ((bf_u (bf_u (bf_u I o 0 (I a0 0)) o 1 ((bf_u I o 0 (I a0 0)) a0 1)) o 2 ((bf_u (bf_u I o 0 (I a0 0)) o 1 ((bf_u I o 0 (I a0 0)) a0 1)) a0 2)) a0 3)) a0 4)) o 5 ((bf_u (bf_u (bf_u (bf_u (bf_u I o 0 (I a0 0)) o 1 ((bf_u I o 0 (I a0 0)) a0 1)) o 2 ((bf_u (bf_u I o 0 (I a0 0)) o 1 ((bf_u I o 0 (I a0 0)) a0 1)) a0 2)) o 3 ((bf_u (bf_u (bf_u I o 0 (I a0 0)) o 1 ((bf_u I o 0 (I a0 0)) a0 1)) o 2 ((bf_u (bf_u I o 0 (I a0 0)) o 1 ((bf_u I o 0 (I a0 0)) a0 1)) a0 2)) a0 3)) o 4 ((bf_u (bf_u (bf_u (bf_u I o 0 (I a0 0)) o 1 ((bf_u I o 0 (I a0 0)) a0 1)) o 2 ((bf_u (bf_u I o 0 (I a0 0)) o 1 ((bf_u I o 0 (I a0 0)) a0 1)) a0 2)) o 3 ((bf_u (bf_u (bf_u I o 0 (I a0 0)) o 1 ((bf_u I o 0 (I a0 0)) a0 1)) o 2 ((bf_u (bf_u I o 0 (I a0 0)) o 1 ((bf_u I o 0 (I a0 0)) a0 1)) a0 2)) a0 3)) a0 4)) a0 5)) o 6 ((bf_u (bf_u (bf_u (bf_u (bf_u (bf_u I o 0 (I a0 0)) o 1 ((bf_u I o 0 (I a0 0)) a0 1)) o 2 ((bf_u (bf_u I o 0 (I a0 0)) o 1 ((bf_u I o 0 (I a0 0)) a0 1)) a0 2)) o 3 ((bf_u (bf_u (bf_u I o 0 (I a0 0)) o 1 ((bf_u I o 0 (I a0 0)) a0 1)) o 2 ((bf_u (bf_u I o 0 (I a0 0)) o 1 ((bf_u I o 0 (I a0 0)) a0 1)) a0 2)) a0 3)) o 4 ((bf_u (bf_u (bf_u (bf_u I o 0 (I a0 0)) o 1 ((bf_u I o 0 (I a0 0)) a0 1)) o 2 ((bf_u (bf_u I o 0 (I a0 0)) o 1 ((bf_u I o 0 (I a0 0)) a0 1)) a0 2)) o 3 ((bf_u (bf_u (bf_u I o 0 (I a0 0)) o 1 ((bf_u I o 0 (I a0 0)) a0 1)) o 2 ((bf_u (bf_u I o 0 (I a0 0)) o 1 ((bf_u I o 0 (I a0 0)) a0 1)) a0 2)) a0 3)) a0 4)) o 5 ((bf_u (bf_u (bf_u (bf_u (bf_u I o 0 (I a0 0)) o 1 ((bf_u I o 0 (I a0 0)) a0 1)) o 2 ((bf_u (bf_u I o 0 (I a0 0)) o 1 ((bf_u I o 0 (I a0 0)) a0 1)) a0 2)) o 3 ((bf_u (bf_u (bf_u I o 0 (I a0 0)) o 1 ((bf_u I o 0 (I a0 0)) a0 1)) o 2 ((bf_u (bf_u I o 0 (I a0 0)) o 1 ((bf_u I o 0 (I a0 0)) a0 1)) a0 2)) a0 3)) o 4 ((bf_u (bf_u (bf_u (bf_u I o 0 (I a0 0)) o 1 ((bf_u I o 0 (I a0 0)) a0 1)) o 2 ((bf_u (bf_u I o 0 (I a0 0)) o 1 ((bf_u I o 0 (I a0 0)) a0 1)) a0 2)) o 3 ((bf_u (bf_u (bf_u I o 0 (I a0 0)) o 1 ((bf_u I o 0 (I a0 0)) a0 1)) o 2 ((bf_u (bf_u I o 0 (I a0 0)) o 1 ((bf_u I o 0 (I a0 0)) a0 1)) a0 2)) a0 3)) a0 4)) a0 5)) a0 6)) (o + 1)) (0 : Int32).toNatClampNeg (0 : Int32).toNatClampNeg (99 : Int32).toNatClampNeg)), L)) else none)) else none)
set_option maxRecDepth 100000 in
set_option maxHeartbeats 4000000 in
theorem ok_X10_copyFrom {Γ : bf_Gm} {ad : Nat → Nat} {o : Nat} {a0 : Nat} {I : Nat → Nat → Int32} {L : Nat → Nat → Int64} (hk : bf_kd o = 10) (hk0 : bf_kd a0 = 10) {r : bf_St} (hf : f_X10_copyFrom o a0 I L = some r) : bf_Cn Γ 1 mu_X10_copyFrom 0 0 [.ref (ad o), .ref (ad a0)] (bf_S ad I L) (fun q h => q = none ∧ h = bf_S ad r.1 r.2) := by
  refine bf_met rfl (Nat.le_of_ble_eq_true rfl) ?_
  unfold f_X10_copyFrom at hf
  refine bf_aload_n 0 dX10_copyFrom_0 rfl rfl ?_
  refine bf_aload_n 1 dX10_copyFrom_1 rfl rfl ?_
  refine fg_X10_22 dX10_copyFrom_2 rfl hk0 ?_
  refine fp_X10_22 dX10_copyFrom_5 rfl hk ?_
  refine bf_aload_n 0 dX10_copyFrom_8 rfl rfl ?_
  refine bf_aload_n 1 dX10_copyFrom_9 rfl rfl ?_
  refine fg_X10_26 dX10_copyFrom_10 rfl hk0 ?_
  refine fp_X10_26 dX10_copyFrom_13 rfl hk ?_
  refine bf_aload_n 0 dX10_copyFrom_16 rfl rfl ?_
  refine bf_aload_n 1 dX10_copyFrom_17 rfl rfl ?_
  refine fg_X10_29 dX10_copyFrom_18 rfl hk0 ?_
  refine fp_X10_29 dX10_copyFrom_21 rfl hk ?_
  refine bf_aload_n 0 dX10_copyFrom_24 rfl rfl ?_
  refine bf_aload_n 1 dX10_copyFrom_25 rfl rfl ?_
  refine fg_X10_32 dX10_copyFrom_26 rfl hk0 ?_
  refine fp_X10_32 dX10_copyFrom_29 rfl hk ?_
  refine bf_aload_n 0 dX10_copyFrom_32 rfl rfl ?_
  refine bf_aload_n 1 dX10_copyFrom_33 rfl rfl ?_
  refine fg_X10_15 dX10_copyFrom_34 rfl hk0 ?_
  rcases Decidable.em (((bf_u (bf_u (bf_u (bf_u I o 0 (I a0 0)) o 1 ((bf_u I o 0 (I a0 0)) a0 1)) o 2 ((bf_u (bf_u I o 0 (I a0 0)) o 1 ((bf_u I o 0 (I a0 0)) a0 1)) a0 2)) o 3 ((bf_u (bf_u (bf_u I o 0 (I a0 0)) o 1 ((bf_u I o 0 (I a0 0)) a0 1)) o 2 ((bf_u (bf_u I o 0 (I a0 0)) o 1 ((bf_u I o 0 (I a0 0)) a0 1)) a0 2)) a0 3)) a0 4) = 0 ∨ ((bf_u (bf_u (bf_u (bf_u I o 0 (I a0 0)) o 1 ((bf_u I o 0 (I a0 0)) a0 1)) o 2 ((bf_u (bf_u I o 0 (I a0 0)) o 1 ((bf_u I o 0 (I a0 0)) a0 1)) a0 2)) o 3 ((bf_u (bf_u (bf_u I o 0 (I a0 0)) o 1 ((bf_u I o 0 (I a0 0)) a0 1)) o 2 ((bf_u (bf_u I o 0 (I a0 0)) o 1 ((bf_u I o 0 (I a0 0)) a0 1)) a0 2)) a0 3)) a0 4) = 1) with c1 | c1
  · have hf := (if_pos c1).symm.trans hf
    refine fp_X10_15 c1 dX10_copyFrom_37 rfl hk ?_
    refine bf_aload_n 0 dX10_copyFrom_40 rfl rfl ?_
    refine bf_aload_n 1 dX10_copyFrom_41 rfl rfl ?_
    refine fg_X10_35 dX10_copyFrom_42 rfl hk0 ?_
    refine fp_X10_35 dX10_copyFrom_45 rfl hk ?_
    refine bf_aload_n 0 dX10_copyFrom_48 rfl rfl ?_
    refine bf_aload_n 1 dX10_copyFrom_49 rfl rfl ?_
    refine fg_X10_38 dX10_copyFrom_50 rfl hk0 ?_
    refine fp_X10_38 dX10_copyFrom_53 rfl hk ?_
    refine bf_aload_n 0 dX10_copyFrom_56 rfl rfl ?_
    refine fg_X10_35 dX10_copyFrom_57 rfl hk ?_
    refine bf_if_le 78 dX10_copyFrom_60 (by decide) (fun c2 => ?_) (fun c2 => ?_)
    · have hf := (if_pos c2).symm.trans hf
      obtain rfl := Option.some.inj hf
      exact bf_vret dX10_copyFrom_78 rfl (Nat.le_refl _) (Nat.le_refl _) ⟨rfl, rfl⟩
    · have hf := (if_neg c2).symm.trans hf
      refine bf_aload_n 1 dX10_copyFrom_63 rfl rfl ?_
      refine fg_X10_9 dX10_copyFrom_64 rfl hk0 ?_
      refine bf_iconst (v := 0) dX10_copyFrom_67 (by decide) ?_
      refine bf_aload_n 0 dX10_copyFrom_68 rfl rfl ?_
      refine fg_X10_9 dX10_copyFrom_69 rfl hk ?_
      refine bf_iconst (v := 0) dX10_copyFrom_72 (by decide) ?_
      refine bf_bipush (v := 99) dX10_copyFrom_73 (by decide) ?_
      rcases Decidable.em (bf_cpOK (0 : Int32) (0 : Int32) (99 : Int32) (a0 + 1) (o + 1)) with c3 | c3
      · have hf := (if_pos c3).symm.trans hf
        refine bf_copyi dX10_copyFrom_75 wl_X10_41 wn_Jcopy wt_Jcopy wi_J10 (kr_10_7 hk0) (kr_10_7 hk) c3 (Nat.le_of_ble_eq_true rfl) (Nat.le_of_ble_eq_true rfl) ?_
        obtain rfl := Option.some.inj hf
        exact bf_vret dX10_copyFrom_78 rfl (Nat.le_refl _) (Nat.le_refl _) ⟨rfl, rfl⟩
      · exact absurd ((if_neg c3).symm.trans hf) (by simp)
  · exact absurd ((if_neg c1).symm.trans hf) (by simp)
def f_X3_copyFrom_2 (v0 : Nat) (v1 : Nat) (K : (Nat → Nat → Int32) → (Nat → Nat → Int64) → Option (bf_St)) : Nat → Int32 → (Nat → Nat → Int32) → (Nat → Nat → Int64) → Option (bf_St)
  | 0, _, _, _ => none
  | n + 1, v2, I, L =>
    (if (6 : Int32) ≤ v2 then (K I L) else (if bf_ok v2 6 then (if bf_ok v2 6 then ((f_X0_copyFrom ((v0 + 1) + 1 + v2.toNatClampNeg) ((v1 + 1) + 1 + v2.toNatClampNeg) I L).bind (fun r5 => (f_X3_copyFrom_2 v0 v1 K n (v2 + (1 : Int32)) r5.1 r5.2))) else none) else none))
set_option maxRecDepth 100000 in
set_option maxHeartbeats 4000000 in
theorem ok_X3_copyFrom_2 {Γ : bf_Gm} {ad : Nat → Nat} {v0 : Nat} {v1 : Nat} (hv0 : bf_kd v0 = 3) (hv1 : bf_kd v1 = 3) {r : bf_St} {K : (Nat → Nat → Int32) → (Nat → Nat → Int64) → Option (bf_St)} (hK : ∀ (I : Nat → Nat → Int32) (L : Nat → Nat → Int64), K  I L = some r → bf_Go Γ (bf_rm 2 0 0) mu_X3_copyFrom bf_E0 (bf_Z Γ (fun q h => q = none ∧ h = bf_S ad r.1 r.2) 0 0) (0, 0) 29 [(0, .ref (ad v0)), (1, .ref (ad v1))] [] (bf_S ad I L)) : ∀ (n : Nat) (v2 : Int32) (I : Nat → Nat → Int32) (L : Nat → Nat → Int64), f_X3_copyFrom_2 v0 v1 K n v2 I L = some r → bf_Go Γ (bf_rm 2 0 0) mu_X3_copyFrom bf_E0 (bf_Z Γ (fun q h => q = none ∧ h = bf_S ad r.1 r.2) 0 0) (0, 0) 2 [(0, .ref (ad v0)), (1, .ref (ad v1)), (2, .int v2)] [] (bf_S ad I L) := by
  intro n
  induction n with
  | zero => intro v2 I L hf; exact absurd (show none = some r from hf) (by simp)
  | succ n ih =>
    intro v2 I L hf
    rw [f_X3_copyFrom_2] at hf
    refine bf_iload_n 2 dX3_copyFrom_2 rfl rfl ?_
    refine bf_bipush (v := 6) dX3_copyFrom_3 (by decide) ?_
    refine bf_icmp_ge 29 dX3_copyFrom_5 (by decide) (fun c1 => ?_) (fun c1 => ?_)
    · have hf := (if_pos c1).symm.trans hf
      refine bf_perm [0, 1] rfl ?_
      exact hK _ _ hf
    · have hf := (if_neg c1).symm.trans hf
      refine bf_aload_n 0 dX3_copyFrom_8 rfl rfl ?_
      refine fg_X3_11 dX3_copyFrom_9 rfl hv0 ?_
      refine bf_iload_n 2 dX3_copyFrom_12 rfl rfl ?_
      rcases Decidable.em (bf_ok v2 6) with c2 | c2
      · have hf := (if_pos c2).symm.trans hf
        refine al_16 dX3_copyFrom_13 (kr_3_0 hv0) (by rw [(la_16 (kr_3_0 hv0))]; exact c2) ?_
        refine bf_aload_n 1 dX3_copyFrom_14 rfl rfl ?_
        refine fg_X3_11 dX3_copyFrom_15 rfl hv1 ?_
        refine bf_iload_n 2 dX3_copyFrom_18 rfl rfl ?_
        rcases Decidable.em (bf_ok v2 6) with c3 | c3
        · have hf := (if_pos c3).symm.trans hf
          refine al_16 dX3_copyFrom_19 (kr_3_0 hv1) (by rw [(la_16 (kr_3_0 hv1))]; exact c3) ?_
          obtain ⟨r5, e4, hf⟩ := bf_bind hf
          have hCe4 := ok_X0_copyFrom (Γ := Γ) (ad := ad) (ka_16 (kr_3_0 hv0) ((by rw [(la_16 (kr_3_0 hv0))]; exact c2) : bf_ok _ _).2) (ka_16 (kr_3_0 hv1) ((by rw [(la_16 (kr_3_0 hv1))]; exact c3) : bf_ok _ _).2) e4
          refine cv_X3_32 0 dX3_copyFrom_20 rfl ⟨Nat.le_of_ble_eq_true rfl, Nat.le_of_ble_eq_true rfl⟩ (Nat.le_of_ble_eq_true rfl) (ka_16 (kr_3_0 hv0) ((by rw [(la_16 (kr_3_0 hv0))]; exact c2) : bf_ok _ _).2) hCe4 ?_
          refine bf_iinc 2 (v := _ + (1 : Int32)) (lv2 := [(2, .int _), (0, .ref _), (1, .ref _)]) dX3_copyFrom_23 rfl (by rfl) (by decide) rfl ?_
          refine bf_goto 2 dX3_copyFrom_26 (by decide) ?_
          refine bf_perm [1, 2, 0] rfl ?_
          exact ih _ _ _ hf
        · exact absurd ((if_neg c3).symm.trans hf) (by simp)
      · exact absurd ((if_neg c2).symm.trans hf) (by simp)
def f_X3_copyFrom_31 (v0 : Nat) (v1 : Nat) (K : (Nat → Nat → Int32) → (Nat → Nat → Int64) → Option (bf_St)) : Nat → Int32 → (Nat → Nat → Int32) → (Nat → Nat → Int64) → Option (bf_St)
  | 0, _, _, _ => none
  | n + 1, v2, I, L =>
    (if (8 : Int32) ≤ v2 then (K I L) else (if bf_ok v2 8 then (if bf_ok v2 8 then ((f_X10_copyFrom ((v0 + 8) + 1 + 2 * v2.toNatClampNeg) ((v1 + 8) + 1 + 2 * v2.toNatClampNeg) I L).bind (fun r11 => (f_X3_copyFrom_31 v0 v1 K n (v2 + (1 : Int32)) r11.1 r11.2))) else none) else none))
set_option maxRecDepth 100000 in
set_option maxHeartbeats 4000000 in
theorem ok_X3_copyFrom_31 {Γ : bf_Gm} {ad : Nat → Nat} {v0 : Nat} {v1 : Nat} (hv0 : bf_kd v0 = 3) (hv1 : bf_kd v1 = 3) {r : bf_St} {K : (Nat → Nat → Int32) → (Nat → Nat → Int64) → Option (bf_St)} (hK : ∀ (I : Nat → Nat → Int32) (L : Nat → Nat → Int64), K  I L = some r → bf_Go Γ (bf_rm 2 0 0) mu_X3_copyFrom bf_E0 (bf_Z Γ (fun q h => q = none ∧ h = bf_S ad r.1 r.2) 0 0) (0, 0) 58 [(0, .ref (ad v0)), (1, .ref (ad v1))] [] (bf_S ad I L)) : ∀ (n : Nat) (v2 : Int32) (I : Nat → Nat → Int32) (L : Nat → Nat → Int64), f_X3_copyFrom_31 v0 v1 K n v2 I L = some r → bf_Go Γ (bf_rm 2 0 0) mu_X3_copyFrom bf_E0 (bf_Z Γ (fun q h => q = none ∧ h = bf_S ad r.1 r.2) 0 0) (0, 0) 31 [(0, .ref (ad v0)), (1, .ref (ad v1)), (2, .int v2)] [] (bf_S ad I L) := by
  intro n
  induction n with
  | zero => intro v2 I L hf; exact absurd (show none = some r from hf) (by simp)
  | succ n ih =>
    intro v2 I L hf
    rw [f_X3_copyFrom_31] at hf
    refine bf_iload_n 2 dX3_copyFrom_31 rfl rfl ?_
    refine bf_bipush (v := 8) dX3_copyFrom_32 (by decide) ?_
    refine bf_icmp_ge 58 dX3_copyFrom_34 (by decide) (fun c7 => ?_) (fun c7 => ?_)
    · have hf := (if_pos c7).symm.trans hf
      refine bf_perm [0, 1] rfl ?_
      exact hK _ _ hf
    · have hf := (if_neg c7).symm.trans hf
      refine bf_aload_n 0 dX3_copyFrom_37 rfl rfl ?_
      refine fg_X3_20 dX3_copyFrom_38 rfl hv0 ?_
      refine bf_iload_n 2 dX3_copyFrom_41 rfl rfl ?_
      rcases Decidable.em (bf_ok v2 8) with c8 | c8
      · have hf := (if_pos c8).symm.trans hf
        refine al_19 dX3_copyFrom_42 (kr_3_1 hv0) (by rw [(la_19 (kr_3_1 hv0))]; exact c8) ?_
        refine bf_aload_n 1 dX3_copyFrom_43 rfl rfl ?_
        refine fg_X3_20 dX3_copyFrom_44 rfl hv1 ?_
        refine bf_iload_n 2 dX3_copyFrom_47 rfl rfl ?_
        rcases Decidable.em (bf_ok v2 8) with c9 | c9
        · have hf := (if_pos c9).symm.trans hf
          refine al_19 dX3_copyFrom_48 (kr_3_1 hv1) (by rw [(la_19 (kr_3_1 hv1))]; exact c9) ?_
          obtain ⟨r11, e10, hf⟩ := bf_bind hf
          have hCe10 := ok_X10_copyFrom (Γ := Γ) (ad := ad) (ka_19 (kr_3_1 hv0) ((by rw [(la_19 (kr_3_1 hv0))]; exact c8) : bf_ok _ _).2) (ka_19 (kr_3_1 hv1) ((by rw [(la_19 (kr_3_1 hv1))]; exact c9) : bf_ok _ _).2) e10
          refine cv_X3_36 1 dX3_copyFrom_49 rfl ⟨Nat.le_of_ble_eq_true rfl, Nat.le_of_ble_eq_true rfl⟩ (Nat.le_of_ble_eq_true rfl) (ka_19 (kr_3_1 hv0) ((by rw [(la_19 (kr_3_1 hv0))]; exact c8) : bf_ok _ _).2) hCe10 ?_
          refine bf_iinc 2 (v := _ + (1 : Int32)) (lv2 := [(2, .int _), (0, .ref _), (1, .ref _)]) dX3_copyFrom_52 rfl (by rfl) (by decide) rfl ?_
          refine bf_goto 31 dX3_copyFrom_55 (by decide) ?_
          refine bf_perm [1, 2, 0] rfl ?_
          exact ih _ _ _ hf
        · exact absurd ((if_neg c9).symm.trans hf) (by simp)
      · exact absurd ((if_neg c8).symm.trans hf) (by simp)
def f_X3_copyFrom_p29 (v0 : Nat) (v1 : Nat) (I : Nat → Nat → Int32) (L : Nat → Nat → Int64) : Option (bf_St) :=
  (f_X3_copyFrom_31 v0 v1 (fun I12 L12 => (some ((bf_u (bf_u I12 v0 2 (I12 v1 2)) v0 3 ((bf_u I12 v0 2 (I12 v1 2)) v1 3)), L12))) 400 (0 : Int32) I L)
set_option maxRecDepth 100000 in
set_option maxHeartbeats 4000000 in
theorem ok_X3_copyFrom_p29 {Γ : bf_Gm} {ad : Nat → Nat} {v0 : Nat} {v1 : Nat} {I : Nat → Nat → Int32} {L : Nat → Nat → Int64} (hv0 : bf_kd v0 = 3) (hv1 : bf_kd v1 = 3) {r : bf_St} (hf : f_X3_copyFrom_p29 v0 v1 I L = some r) : bf_Go Γ (bf_rm 2 0 0) mu_X3_copyFrom bf_E0 (bf_Z Γ (fun q h => q = none ∧ h = bf_S ad r.1 r.2) 0 0) (0, 0) 29 [(0, .ref (ad v0)), (1, .ref (ad v1))] [] (bf_S ad I L) := by
  unfold f_X3_copyFrom_p29 at hf
  refine bf_iconst (v := 0) dX3_copyFrom_29 (by decide) ?_
  refine bf_istore_n (lv2 := [(2, .int _), (0, .ref _), (1, .ref _)]) dX3_copyFrom_30 rfl (by decide) rfl ?_
  refine bf_perm [1, 2, 0] rfl ?_
  refine ok_X3_copyFrom_31 hv0 hv1 (fun I12 L12 hf => ?_) _ _ _ _  hf
  refine bf_aload_n 0 dX3_copyFrom_58 rfl rfl ?_
  refine bf_aload_n 1 dX3_copyFrom_59 rfl rfl ?_
  refine fg_X3_25 dX3_copyFrom_60 rfl hv1 ?_
  refine fp_X3_25 dX3_copyFrom_63 rfl hv0 ?_
  refine bf_aload_n 0 dX3_copyFrom_66 rfl rfl ?_
  refine bf_aload_n 1 dX3_copyFrom_67 rfl rfl ?_
  refine fg_X3_29 dX3_copyFrom_68 rfl hv1 ?_
  refine fp_X3_29 dX3_copyFrom_71 rfl hv0 ?_
  obtain rfl := Option.some.inj hf
  exact bf_vret dX3_copyFrom_74 rfl (Nat.le_refl _) (Nat.le_refl _) ⟨rfl, rfl⟩
def f_X3_copyFrom (o : Nat) (a0 : Nat) (I : Nat → Nat → Int32) (L : Nat → Nat → Int64) : Option (bf_St) :=
  (f_X3_copyFrom_2 o a0 (fun I6 L6 => (f_X3_copyFrom_p29 o a0 I6 L6)) 400 (0 : Int32) I L)
set_option maxRecDepth 100000 in
set_option maxHeartbeats 4000000 in
theorem ok_X3_copyFrom {Γ : bf_Gm} {ad : Nat → Nat} {o : Nat} {a0 : Nat} {I : Nat → Nat → Int32} {L : Nat → Nat → Int64} (hk : bf_kd o = 3) (hk0 : bf_kd a0 = 3) {r : bf_St} (hf : f_X3_copyFrom o a0 I L = some r) : bf_Cn Γ 2 mu_X3_copyFrom 0 0 [.ref (ad o), .ref (ad a0)] (bf_S ad I L) (fun q h => q = none ∧ h = bf_S ad r.1 r.2) := by
  refine bf_met rfl (Nat.le_of_ble_eq_true rfl) ?_
  unfold f_X3_copyFrom at hf
  refine bf_iconst (v := 0) dX3_copyFrom_0 (by decide) ?_
  refine bf_istore_n (lv2 := [(2, .int _), (0, .ref _), (1, .ref _)]) dX3_copyFrom_1 rfl (by decide) rfl ?_
  refine bf_perm [1, 2, 0] rfl ?_
  refine ok_X3_copyFrom_2 hk hk0 (fun I6 L6 hf => ?_) _ _ _ _  hf
  exact ok_X3_copyFrom_p29 hk hk0  hf
def f_X3_hasBox (o : Nat) (a0 : Int32) (I : Nat → Nat → Int32) (L : Nat → Nat → Int64) : Option (Int32 × bf_St) :=
  (if a0 < 0 then (some ((0 : Int32), I, L)) else (if (I o 2) ≤ a0 then (some ((0 : Int32), I, L)) else (if (6 : Int32) ≤ a0 then (some ((0 : Int32), I, L)) else (some ((1 : Int32), I, L)))))
set_option maxRecDepth 100000 in
set_option maxHeartbeats 4000000 in
theorem ok_X3_hasBox {Γ : bf_Gm} {ad : Nat → Nat} {o : Nat} {a0 : Int32} {I : Nat → Nat → Int32} {L : Nat → Nat → Int64} (hk : bf_kd o = 3) {r : Int32 × bf_St} (hf : f_X3_hasBox o a0 I L = some r) : bf_Cn Γ 0 mu_X3_hasBox 0 0 [.ref (ad o), .int a0] (bf_S ad I L) (fun q h => q = some (.int r.1) ∧ h = bf_S ad r.2.1 r.2.2) := by
  refine bf_met rfl (Nat.le_of_ble_eq_true rfl) ?_
  unfold f_X3_hasBox at hf
  refine bf_iload_n 1 dX3_hasBox_0 rfl rfl ?_
  refine bf_if_lt 22 dX3_hasBox_1 (by decide) (fun c1 => ?_) (fun c1 => ?_)
  · have hf := (if_pos c1).symm.trans hf
    refine bf_iconst (v := 0) dX3_hasBox_22 (by decide) ?_
    obtain rfl := Option.some.inj hf
    exact bf_zret dX3_hasBox_23 rfl rfl (Nat.le_refl _) (Nat.le_refl _) ⟨rfl, rfl⟩
  · have hf := (if_neg c1).symm.trans hf
    refine bf_iload_n 1 dX3_hasBox_4 rfl rfl ?_
    refine bf_aload_n 0 dX3_hasBox_5 rfl rfl ?_
    refine fg_X3_25 dX3_hasBox_6 rfl hk ?_
    refine bf_icmp_ge 22 dX3_hasBox_9 (by decide) (fun c2 => ?_) (fun c2 => ?_)
    · have hf := (if_pos c2).symm.trans hf
      refine bf_iconst (v := 0) dX3_hasBox_22 (by decide) ?_
      obtain rfl := Option.some.inj hf
      exact bf_zret dX3_hasBox_23 rfl rfl (Nat.le_refl _) (Nat.le_refl _) ⟨rfl, rfl⟩
    · have hf := (if_neg c2).symm.trans hf
      refine bf_iload_n 1 dX3_hasBox_12 rfl rfl ?_
      refine bf_bipush (v := 6) dX3_hasBox_13 (by decide) ?_
      refine bf_icmp_ge 22 dX3_hasBox_15 (by decide) (fun c3 => ?_) (fun c3 => ?_)
      · have hf := (if_pos c3).symm.trans hf
        refine bf_iconst (v := 0) dX3_hasBox_22 (by decide) ?_
        obtain rfl := Option.some.inj hf
        exact bf_zret dX3_hasBox_23 rfl rfl (Nat.le_refl _) (Nat.le_refl _) ⟨rfl, rfl⟩
      · have hf := (if_neg c3).symm.trans hf
        refine bf_iconst (v := 1) dX3_hasBox_18 (by decide) ?_
        refine bf_goto 23 dX3_hasBox_19 (by decide) ?_
        obtain rfl := Option.some.inj hf
        exact bf_zret dX3_hasBox_23 rfl rfl (Nat.le_refl _) (Nat.le_refl _) ⟨rfl, rfl⟩
def f_X3_hasWire (o : Nat) (a0 : Int32) (I : Nat → Nat → Int32) (L : Nat → Nat → Int64) : Option (Int32 × bf_St) :=
  (if a0 < 0 then (some ((0 : Int32), I, L)) else (if (8 : Int32) ≤ a0 then (some ((0 : Int32), I, L)) else (if bf_ok a0 8 then (if (I ((o + 8) + 1 + 2 * a0.toNatClampNeg) 4) = 0 then (some ((0 : Int32), I, L)) else (some ((1 : Int32), I, L))) else none)))
set_option maxRecDepth 100000 in
set_option maxHeartbeats 4000000 in
theorem ok_X3_hasWire {Γ : bf_Gm} {ad : Nat → Nat} {o : Nat} {a0 : Int32} {I : Nat → Nat → Int32} {L : Nat → Nat → Int64} (hk : bf_kd o = 3) {r : Int32 × bf_St} (hf : f_X3_hasWire o a0 I L = some r) : bf_Cn Γ 0 mu_X3_hasWire 0 0 [.ref (ad o), .int a0] (bf_S ad I L) (fun q h => q = some (.int r.1) ∧ h = bf_S ad r.2.1 r.2.2) := by
  refine bf_met rfl (Nat.le_of_ble_eq_true rfl) ?_
  unfold f_X3_hasWire at hf
  refine bf_iload_n 1 dX3_hasWire_0 rfl rfl ?_
  refine bf_if_lt 26 dX3_hasWire_1 (by decide) (fun c1 => ?_) (fun c1 => ?_)
  · have hf := (if_pos c1).symm.trans hf
    refine bf_iconst (v := 0) dX3_hasWire_26 (by decide) ?_
    obtain rfl := Option.some.inj hf
    exact bf_zret dX3_hasWire_27 rfl rfl (Nat.le_refl _) (Nat.le_refl _) ⟨rfl, rfl⟩
  · have hf := (if_neg c1).symm.trans hf
    refine bf_iload_n 1 dX3_hasWire_4 rfl rfl ?_
    refine bf_bipush (v := 8) dX3_hasWire_5 (by decide) ?_
    refine bf_icmp_ge 26 dX3_hasWire_7 (by decide) (fun c2 => ?_) (fun c2 => ?_)
    · have hf := (if_pos c2).symm.trans hf
      refine bf_iconst (v := 0) dX3_hasWire_26 (by decide) ?_
      obtain rfl := Option.some.inj hf
      exact bf_zret dX3_hasWire_27 rfl rfl (Nat.le_refl _) (Nat.le_refl _) ⟨rfl, rfl⟩
    · have hf := (if_neg c2).symm.trans hf
      refine bf_aload_n 0 dX3_hasWire_10 rfl rfl ?_
      refine fg_X3_20 dX3_hasWire_11 rfl hk ?_
      refine bf_iload_n 1 dX3_hasWire_14 rfl rfl ?_
      rcases Decidable.em (bf_ok a0 8) with c3 | c3
      · have hf := (if_pos c3).symm.trans hf
        refine al_19 dX3_hasWire_15 (kr_3_1 hk) (by rw [(la_19 (kr_3_1 hk))]; exact c3) ?_
        refine fg_X3_39 dX3_hasWire_16 rfl (ka_19 (kr_3_1 hk) ((by rw [(la_19 (kr_3_1 hk))]; exact c3) : bf_ok _ _).2) ?_
        refine bf_if_eq 26 dX3_hasWire_19 (by decide) (fun c4 => ?_) (fun c4 => ?_)
        · have hf := (if_pos c4).symm.trans hf
          refine bf_iconst (v := 0) dX3_hasWire_26 (by decide) ?_
          obtain rfl := Option.some.inj hf
          exact bf_zret dX3_hasWire_27 rfl rfl (Nat.le_refl _) (Nat.le_refl _) ⟨rfl, rfl⟩
        · have hf := (if_neg c4).symm.trans hf
          refine bf_iconst (v := 1) dX3_hasWire_22 (by decide) ?_
          refine bf_goto 27 dX3_hasWire_23 (by decide) ?_
          obtain rfl := Option.some.inj hf
          exact bf_zret dX3_hasWire_27 rfl rfl (Nat.le_refl _) (Nat.le_refl _) ⟨rfl, rfl⟩
      · exact absurd ((if_neg c3).symm.trans hf) (by simp)
def f_X3_addBox (o : Nat) (a0 : Int32) (a1 : Int32) (I : Nat → Nat → Int32) (L : Nat → Nat → Int64) : Option (Int32 × bf_St) :=
  (if (I o 2) < (6 : Int32) then (if bf_ok (I o 2) 6 then ((f_X0_become ((o + 1) + 1 + (I o 2).toNatClampNeg) a0 a1 I L).bind (fun r4 => (some ((((bf_u r4.1 o 2 ((r4.1 o 2) + (1 : Int32))) o 2) - (1 : Int32)), (bf_u r4.1 o 2 ((r4.1 o 2) + (1 : Int32))), r4.2)))) else none) else (some ((-4 : Int32), I, L)))
set_option maxRecDepth 100000 in
set_option maxHeartbeats 4000000 in
theorem ok_X3_addBox {Γ : bf_Gm} {ad : Nat → Nat} {o : Nat} {a0 : Int32} {a1 : Int32} {I : Nat → Nat → Int32} {L : Nat → Nat → Int64} (hk : bf_kd o = 3) {r : Int32 × bf_St} (hf : f_X3_addBox o a0 a1 I L = some r) : bf_Cn Γ 1 mu_X3_addBox 0 0 [.ref (ad o), .int a0, .int a1] (bf_S ad I L) (fun q h => q = some (.int r.1) ∧ h = bf_S ad r.2.1 r.2.2) := by
  refine bf_met rfl (Nat.le_of_ble_eq_true rfl) ?_
  unfold f_X3_addBox at hf
  refine bf_aload_n 0 dX3_addBox_0 rfl rfl ?_
  refine fg_X3_25 dX3_addBox_1 rfl hk ?_
  refine bf_bipush (v := 6) dX3_addBox_4 (by decide) ?_
  refine bf_icmp_lt 12 dX3_addBox_6 (by decide) (fun c1 => ?_) (fun c1 => ?_)
  · have hf := (if_pos c1).symm.trans hf
    refine bf_aload_n 0 dX3_addBox_12 rfl rfl ?_
    refine fg_X3_11 dX3_addBox_13 rfl hk ?_
    refine bf_aload_n 0 dX3_addBox_16 rfl rfl ?_
    refine fg_X3_25 dX3_addBox_17 rfl hk ?_
    rcases Decidable.em (bf_ok (I o 2) 6) with c2 | c2
    · have hf := (if_pos c2).symm.trans hf
      refine al_16 dX3_addBox_20 (kr_3_0 hk) (by rw [(la_16 (kr_3_0 hk))]; exact c2) ?_
      refine bf_iload_n 1 dX3_addBox_21 rfl rfl ?_
      refine bf_iload_n 2 dX3_addBox_22 rfl rfl ?_
      obtain ⟨r4, e3, hf⟩ := bf_bind hf
      have hCe3 := ok_X0_become (Γ := Γ) (ad := ad) (ka_16 (kr_3_0 hk) ((by rw [(la_16 (kr_3_0 hk))]; exact c2) : bf_ok _ _).2) e3
      refine cv_X3_43 0 dX3_addBox_23 rfl ⟨Nat.le_of_ble_eq_true rfl, Nat.le_of_ble_eq_true rfl⟩ (Nat.le_of_ble_eq_true rfl) (ka_16 (kr_3_0 hk) ((by rw [(la_16 (kr_3_0 hk))]; exact c2) : bf_ok _ _).2) hCe3 ?_
      refine bf_aload_n 0 dX3_addBox_26 rfl rfl ?_
      refine bf_dup dX3_addBox_27 rfl ?_
      refine fg_X3_25 dX3_addBox_28 rfl hk ?_
      refine bf_iconst (v := 1) dX3_addBox_31 (by decide) ?_
      refine bf_iadd dX3_addBox_32 ?_
      refine fp_X3_25 dX3_addBox_33 rfl hk ?_
      refine bf_aload_n 0 dX3_addBox_36 rfl rfl ?_
      refine fg_X3_25 dX3_addBox_37 rfl hk ?_
      refine bf_iconst (v := 1) dX3_addBox_40 (by decide) ?_
      refine bf_isub dX3_addBox_41 ?_
      obtain rfl := Option.some.inj hf
      exact bf_iret dX3_addBox_42 rfl (Nat.le_refl _) (Nat.le_refl _) ⟨rfl, rfl⟩
    · exact absurd ((if_neg c2).symm.trans hf) (by simp)
  · have hf := (if_neg c1).symm.trans hf
    refine bf_bipush (v := -4) dX3_addBox_9 (by decide) ?_
    obtain rfl := Option.some.inj hf
    exact bf_iret dX3_addBox_11 rfl (Nat.le_refl _) (Nat.le_refl _) ⟨rfl, rfl⟩
def f_X10_clear (o : Nat) (I : Nat → Nat → Int32) (L : Nat → Nat → Int64) : Option (bf_St) :=
  (some ((bf_u (bf_u I o 5 (0 : Int32)) o 6 (0 : Int32)), L))
set_option maxRecDepth 100000 in
set_option maxHeartbeats 4000000 in
theorem ok_X10_clear {Γ : bf_Gm} {ad : Nat → Nat} {o : Nat} {I : Nat → Nat → Int32} {L : Nat → Nat → Int64} (hk : bf_kd o = 10) {r : bf_St} (hf : f_X10_clear o I L = some r) : bf_Cn Γ 0 mu_X10_clear 0 0 [.ref (ad o)] (bf_S ad I L) (fun q h => q = none ∧ h = bf_S ad r.1 r.2) := by
  refine bf_met rfl (Nat.le_of_ble_eq_true rfl) ?_
  unfold f_X10_clear at hf
  refine bf_aload_n 0 dX10_clear_0 rfl rfl ?_
  refine bf_iconst (v := 0) dX10_clear_1 (by decide) ?_
  refine fp_X10_35 dX10_clear_2 rfl hk ?_
  refine bf_aload_n 0 dX10_clear_5 rfl rfl ?_
  refine bf_iconst (v := 0) dX10_clear_6 (by decide) ?_
  refine fp_X10_38 dX10_clear_7 rfl hk ?_
  obtain rfl := Option.some.inj hf
  exact bf_vret dX10_clear_10 rfl (Nat.le_refl _) (Nat.le_refl _) ⟨rfl, rfl⟩
def f_X10_become (o : Nat) (a0 : Int32) (a1 : Int32) (a2 : Int32) (a3 : Int32) (I : Nat → Nat → Int32) (L : Nat → Nat → Int64) : Option (bf_St) :=
  ((f_X10_clear o (bf_u (bf_u (bf_u (bf_u (bf_u I o 0 a0) o 1 a1) o 2 a2) o 3 a3) o 4 (1 : Int32)) L).bind (fun r2 => (some (r2.1, r2.2))))
set_option maxRecDepth 100000 in
set_option maxHeartbeats 4000000 in
theorem ok_X10_become {Γ : bf_Gm} {ad : Nat → Nat} {o : Nat} {a0 : Int32} {a1 : Int32} {a2 : Int32} {a3 : Int32} {I : Nat → Nat → Int32} {L : Nat → Nat → Int64} (hk : bf_kd o = 10) {r : bf_St} (hf : f_X10_become o a0 a1 a2 a3 I L = some r) : bf_Cn Γ 1 mu_X10_become 0 0 [.ref (ad o), .int a0, .int a1, .int a2, .int a3] (bf_S ad I L) (fun q h => q = none ∧ h = bf_S ad r.1 r.2) := by
  refine bf_met rfl (Nat.le_of_ble_eq_true rfl) ?_
  unfold f_X10_become at hf
  refine bf_aload_n 0 dX10_become_0 rfl rfl ?_
  refine bf_iload_n 1 dX10_become_1 rfl rfl ?_
  refine fp_X10_22 dX10_become_2 rfl hk ?_
  refine bf_aload_n 0 dX10_become_5 rfl rfl ?_
  refine bf_iload_n 2 dX10_become_6 rfl rfl ?_
  refine fp_X10_26 dX10_become_7 rfl hk ?_
  refine bf_aload_n 0 dX10_become_10 rfl rfl ?_
  refine bf_iload_n 3 dX10_become_11 rfl rfl ?_
  refine fp_X10_29 dX10_become_12 rfl hk ?_
  refine bf_aload_n 0 dX10_become_15 rfl rfl ?_
  refine bf_iload 4 dX10_become_16 rfl ?_
  refine fp_X10_32 dX10_become_18 rfl hk ?_
  refine bf_aload_n 0 dX10_become_21 rfl rfl ?_
  refine bf_iconst (v := 1) dX10_become_22 (by decide) ?_
  refine fp_X10_15 (by decide) dX10_become_23 rfl hk ?_
  refine bf_aload_n 0 dX10_become_26 rfl rfl ?_
  obtain ⟨r2, e1, hf⟩ := bf_bind hf
  have hCe1 := ok_X10_clear (Γ := Γ) (ad := ad) hk e1
  refine cv_X10_19 0 dX10_become_27 rfl ⟨Nat.le_of_ble_eq_true rfl, Nat.le_of_ble_eq_true rfl⟩ (Nat.le_of_ble_eq_true rfl) hk hCe1 ?_
  obtain rfl := Option.some.inj hf
  exact bf_vret dX10_become_30 rfl (Nat.le_refl _) (Nat.le_refl _) ⟨rfl, rfl⟩
def f_X3_addWire (o : Nat) (a0 : Int32) (a1 : Int32) (a2 : Int32) (a3 : Int32) (I : Nat → Nat → Int32) (L : Nat → Nat → Int64) : Option (Int32 × bf_St) :=
  ((f_X3_hasBox o a0 I L).bind (fun r2 => (if r2.1 = 0 then (some ((-1 : Int32), r2.2.1, r2.2.2)) else ((f_X3_hasBox o a1 r2.2.1 r2.2.2).bind (fun r5 => (if r5.1 = 0 then (some ((-1 : Int32), r5.2.1, r5.2.2)) else (if a2 < (1 : Int32) then (some ((-2 : Int32), r5.2.1, r5.2.2)) else (if (4 : Int32) < a2 then (some ((-2 : Int32), r5.2.1, r5.2.2)) else (if a3 < (1 : Int32) then (some ((-2 : Int32), r5.2.1, r5.2.2)) else (if a3 ≤ (4 : Int32) then (if (r5.2.1 o 3) < (8 : Int32) then (if bf_ok (r5.2.1 o 3) 8 then ((f_X10_become ((o + 8) + 1 + 2 * (r5.2.1 o 3).toNatClampNeg) a0 a1 a2 a3 r5.2.1 r5.2.2).bind (fun r14 => (some ((((bf_u r14.1 o 3 ((r14.1 o 3) + (1 : Int32))) o 3) - (1 : Int32)), (bf_u r14.1 o 3 ((r14.1 o 3) + (1 : Int32))), r14.2)))) else none) else (some ((-4 : Int32), r5.2.1, r5.2.2))) else (some ((-2 : Int32), r5.2.1, r5.2.2))))))))))))
set_option maxRecDepth 100000 in
set_option maxHeartbeats 4000000 in
theorem ok_X3_addWire {Γ : bf_Gm} {ad : Nat → Nat} {o : Nat} {a0 : Int32} {a1 : Int32} {a2 : Int32} {a3 : Int32} {I : Nat → Nat → Int32} {L : Nat → Nat → Int64} (hk : bf_kd o = 3) {r : Int32 × bf_St} (hf : f_X3_addWire o a0 a1 a2 a3 I L = some r) : bf_Cn Γ 2 mu_X3_addWire 0 0 [.ref (ad o), .int a0, .int a1, .int a2, .int a3] (bf_S ad I L) (fun q h => q = some (.int r.1) ∧ h = bf_S ad r.2.1 r.2.2) := by
  refine bf_met rfl (Nat.le_of_ble_eq_true rfl) ?_
  unfold f_X3_addWire at hf
  refine bf_aload_n 0 dX3_addWire_0 rfl rfl ?_
  refine bf_iload_n 1 dX3_addWire_1 rfl rfl ?_
  obtain ⟨r2, e1, hf⟩ := bf_bind hf
  have hCe1 := ok_X3_hasBox (Γ := Γ) (ad := ad) hk e1
  refine cv_X3_47 0 dX3_addWire_2 rfl ⟨Nat.le_of_ble_eq_true rfl, Nat.le_of_ble_eq_true rfl⟩ (Nat.le_of_ble_eq_true rfl) hk hCe1 ?_
  refine bf_if_eq 16 dX3_addWire_5 (by decide) (fun c3 => ?_) (fun c3 => ?_)
  · have hf := (if_pos c3).symm.trans hf
    refine bf_iconst (v := -1) dX3_addWire_16 (by decide) ?_
    obtain rfl := Option.some.inj hf
    exact bf_iret dX3_addWire_17 rfl (Nat.le_refl _) (Nat.le_refl _) ⟨rfl, rfl⟩
  · have hf := (if_neg c3).symm.trans hf
    refine bf_aload_n 0 dX3_addWire_8 rfl rfl ?_
    refine bf_iload_n 2 dX3_addWire_9 rfl rfl ?_
    obtain ⟨r5, e4, hf⟩ := bf_bind hf
    have hCe4 := ok_X3_hasBox (Γ := Γ) (ad := ad) hk e4
    refine cv_X3_47 0 dX3_addWire_10 rfl ⟨Nat.le_of_ble_eq_true rfl, Nat.le_of_ble_eq_true rfl⟩ (Nat.le_of_ble_eq_true rfl) hk hCe4 ?_
    refine bf_if_ne 18 dX3_addWire_13 (by decide) (fun c6 => ?_) (fun c6 => ?_)
    · have hf := (if_neg c6).symm.trans hf
      refine bf_iload_n 3 dX3_addWire_18 rfl rfl ?_
      refine bf_iconst (v := 1) dX3_addWire_19 (by decide) ?_
      refine bf_icmp_lt 40 dX3_addWire_20 (by decide) (fun c7 => ?_) (fun c7 => ?_)
      · have hf := (if_pos c7).symm.trans hf
        refine bf_bipush (v := -2) dX3_addWire_40 (by decide) ?_
        obtain rfl := Option.some.inj hf
        exact bf_iret dX3_addWire_42 rfl (Nat.le_refl _) (Nat.le_refl _) ⟨rfl, rfl⟩
      · have hf := (if_neg c7).symm.trans hf
        refine bf_iload_n 3 dX3_addWire_23 rfl rfl ?_
        refine bf_iconst (v := 4) dX3_addWire_24 (by decide) ?_
        refine bf_icmp_gt 40 dX3_addWire_25 (by decide) (fun c8 => ?_) (fun c8 => ?_)
        · have hf := (if_pos c8).symm.trans hf
          refine bf_bipush (v := -2) dX3_addWire_40 (by decide) ?_
          obtain rfl := Option.some.inj hf
          exact bf_iret dX3_addWire_42 rfl (Nat.le_refl _) (Nat.le_refl _) ⟨rfl, rfl⟩
        · have hf := (if_neg c8).symm.trans hf
          refine bf_iload 4 dX3_addWire_28 rfl ?_
          refine bf_iconst (v := 1) dX3_addWire_30 (by decide) ?_
          refine bf_icmp_lt 40 dX3_addWire_31 (by decide) (fun c9 => ?_) (fun c9 => ?_)
          · have hf := (if_pos c9).symm.trans hf
            refine bf_bipush (v := -2) dX3_addWire_40 (by decide) ?_
            obtain rfl := Option.some.inj hf
            exact bf_iret dX3_addWire_42 rfl (Nat.le_refl _) (Nat.le_refl _) ⟨rfl, rfl⟩
          · have hf := (if_neg c9).symm.trans hf
            refine bf_iload 4 dX3_addWire_34 rfl ?_
            refine bf_iconst (v := 4) dX3_addWire_36 (by decide) ?_
            refine bf_icmp_le 43 dX3_addWire_37 (by decide) (fun c10 => ?_) (fun c10 => ?_)
            · have hf := (if_pos c10).symm.trans hf
              refine bf_aload_n 0 dX3_addWire_43 rfl rfl ?_
              refine fg_X3_29 dX3_addWire_44 rfl hk ?_
              refine bf_bipush (v := 8) dX3_addWire_47 (by decide) ?_
              refine bf_icmp_lt 55 dX3_addWire_49 (by decide) (fun c11 => ?_) (fun c11 => ?_)
              · have hf := (if_pos c11).symm.trans hf
                refine bf_aload_n 0 dX3_addWire_55 rfl rfl ?_
                refine fg_X3_20 dX3_addWire_56 rfl hk ?_
                refine bf_aload_n 0 dX3_addWire_59 rfl rfl ?_
                refine fg_X3_29 dX3_addWire_60 rfl hk ?_
                rcases Decidable.em (bf_ok (r5.2.1 o 3) 8) with c12 | c12
                · have hf := (if_pos c12).symm.trans hf
                  refine al_19 dX3_addWire_63 (kr_3_1 hk) (by rw [(la_19 (kr_3_1 hk))]; exact c12) ?_
                  refine bf_iload_n 1 dX3_addWire_64 rfl rfl ?_
                  refine bf_iload_n 2 dX3_addWire_65 rfl rfl ?_
                  refine bf_iload_n 3 dX3_addWire_66 rfl rfl ?_
                  refine bf_iload 4 dX3_addWire_67 rfl ?_
                  obtain ⟨r14, e13, hf⟩ := bf_bind hf
                  have hCe13 := ok_X10_become (Γ := Γ) (ad := ad) (ka_19 (kr_3_1 hk) ((by rw [(la_19 (kr_3_1 hk))]; exact c12) : bf_ok _ _).2) e13
                  refine cv_X3_51 1 dX3_addWire_69 rfl ⟨Nat.le_of_ble_eq_true rfl, Nat.le_of_ble_eq_true rfl⟩ (Nat.le_of_ble_eq_true rfl) (ka_19 (kr_3_1 hk) ((by rw [(la_19 (kr_3_1 hk))]; exact c12) : bf_ok _ _).2) hCe13 ?_
                  refine bf_aload_n 0 dX3_addWire_72 rfl rfl ?_
                  refine bf_dup dX3_addWire_73 rfl ?_
                  refine fg_X3_29 dX3_addWire_74 rfl hk ?_
                  refine bf_iconst (v := 1) dX3_addWire_77 (by decide) ?_
                  refine bf_iadd dX3_addWire_78 ?_
                  refine fp_X3_29 dX3_addWire_79 rfl hk ?_
                  refine bf_aload_n 0 dX3_addWire_82 rfl rfl ?_
                  refine fg_X3_29 dX3_addWire_83 rfl hk ?_
                  refine bf_iconst (v := 1) dX3_addWire_86 (by decide) ?_
                  refine bf_isub dX3_addWire_87 ?_
                  obtain rfl := Option.some.inj hf
                  exact bf_iret dX3_addWire_88 rfl (Nat.le_refl _) (Nat.le_refl _) ⟨rfl, rfl⟩
                · exact absurd ((if_neg c12).symm.trans hf) (by simp)
              · have hf := (if_neg c11).symm.trans hf
                refine bf_bipush (v := -4) dX3_addWire_52 (by decide) ?_
                obtain rfl := Option.some.inj hf
                exact bf_iret dX3_addWire_54 rfl (Nat.le_refl _) (Nat.le_refl _) ⟨rfl, rfl⟩
            · have hf := (if_neg c10).symm.trans hf
              refine bf_bipush (v := -2) dX3_addWire_40 (by decide) ?_
              obtain rfl := Option.some.inj hf
              exact bf_iret dX3_addWire_42 rfl (Nat.le_refl _) (Nat.le_refl _) ⟨rfl, rfl⟩
    · have hf := (if_pos c6).symm.trans hf
      refine bf_iconst (v := -1) dX3_addWire_16 (by decide) ?_
      obtain rfl := Option.some.inj hf
      exact bf_iret dX3_addWire_17 rfl (Nat.le_refl _) (Nat.le_refl _) ⟨rfl, rfl⟩
