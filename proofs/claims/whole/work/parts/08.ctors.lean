set_option maxRecDepth 100000 in
set_option maxHeartbeats 40000000 in
theorem okx_X0_init {Γ : bf_Gm} {o : Nat} {ad0 : Nat → Nat} {I : Nat → Nat → Int32} {L : Nat → Nat → Int64} {Rf : Nat → Nat → Option Nat} (hk : bf_kd o = 0) (hp : bf_Fu o 1 I L Rf) (hCl : bf_Cl (o + 1) (bf_w Rf o (fun _ => none))) : bf_Cn Γ 1 mu_X0_init 0 0 [.ref (ad0 o)] (o + 1, ad0, bf_w I o (fun _ => 0), L, bf_w Rf o (fun _ => none)) (bf_Qx (o + 1) ad0 (o + 1) I L Rf) := by
  refine bf_met rfl (Nat.le_of_ble_eq_true rfl) ?_
  have hag : ∀ i, i < o + 1 → ad0 i = ad0 i := fun _ _ => rfl
  refine bf_aload_n 0 dX0_init_0 rfl rfl ?_
  refine bf_xobj dX0_init_1 wl_X0_3 wm_Jobj wc_Jobj (Nat.le_of_ble_eq_true rfl) (Nat.le_of_ble_eq_true rfl) ?_
  refine bf_aload_n 0 dX0_init_4 rfl rfl ?_
  refine bf_iconst (v := 0) dX0_init_5 (by decide) ?_
  refine bf_iconst (v := 0) dX0_init_6 (by decide) ?_
  refine bf_callV (d := 0) (mc := 0) (ms := 0) (ν := mu_X0_become) (o := o) (As := [.int 0, .int 0]) (rest := []) dX0_init_7 rfl wl_X0_9 wm_X0_become wv_X0_become wi_X0 wc_X0_become ⟨rfl, wd_X0_become⟩ ⟨(Nat.le_of_ble_eq_true rfl), (Nat.le_of_ble_eq_true rfl)⟩ ⟨(Nat.le_of_ble_eq_true rfl), (Nat.le_of_ble_eq_true rfl)⟩ (Nat.le_of_ble_eq_true rfl) (show o < o + 1 by omega) hk (by decide) rfl (okg_X0_become (by omega) hk) ?_
  rintro _ _ ⟨rfl, rfl⟩
  rw [bf_u_w, bf_u_w, bf_u_w]
  have eI : bf_w I o (va_up (va_up (va_up (fun _ => 0) 0 0) 1 0) 2 0) = I := bf_wS (by rw [(hp o (by omega) (by omega)).1]; exact ri_0 hk)
  have eR : bf_w Rf o (fun _ => none) = Rf := bf_wS (by rw [(hp o (by omega) (by omega)).2.2]; exact rr_0 hk)
  rw [eI, eR]
  rw [eR] at hCl
  exact bf_vret dX0_init_10 rfl (Nat.le_of_ble_eq_true rfl) (Nat.le_of_ble_eq_true rfl) ⟨rfl, _, hag, rfl, hCl⟩
set_option maxRecDepth 100000 in
set_option maxHeartbeats 40000000 in
theorem okx_X10_init {Γ : bf_Gm} {o : Nat} {ad0 : Nat → Nat} {I : Nat → Nat → Int32} {L : Nat → Nat → Int64} {Rf : Nat → Nat → Option Nat} (hk : bf_kd o = 10) (hp : bf_Fu o 2 I L Rf) (hCl : bf_Cl (o + 1) (bf_w Rf o (fun _ => none))) : bf_Cn Γ 1 mu_X10_init 1 99 [.ref (ad0 o)] (o + 1, ad0, bf_w I o (fun _ => 0), L, bf_w Rf o (fun _ => none)) (bf_Qx (o + 1) ad0 (o + 2) I L Rf) := by
  refine bf_met rfl (Nat.le_of_ble_eq_true rfl) ?_
  have hag : ∀ i, i < o + 1 → ad0 i = ad0 i := fun _ _ => rfl
  refine bf_aload_n 0 dX10_init_0 rfl rfl ?_
  refine bf_xobj dX10_init_1 wl_X10_3 wm_Jobj wc_Jobj (Nat.le_of_ble_eq_true rfl) (Nat.le_of_ble_eq_true rfl) ?_
  refine bf_aload_n 0 dX10_init_4 rfl rfl ?_
  refine bf_bipush (v := 99) dX10_init_5 (by decide) ?_
  refine bf_xnewI (n := o + 1) (lvf := (fun ad => [(0, .ref (ad o))])) (stf := (fun ad => [.ref (ad o)])) (N := 99) dX10_init_7 wy_int (by decide) (by decide) (by decide) (kx_10_1 hk) (lx_10_1 hk) (by rw [bf_w_ne (show o + 1 ≠ o by omega), (hp (o + 1) (by omega) (by omega)).1]; exact bf_I0_z (by rw [(kx_10_1 hk)]; decide) (nx_10_1 hk)) (fun j => by rw [bf_w_ne (show o + 1 ≠ o by omega), (hp (o + 1) (by omega) (by omega)).2.2]; exact bf_R0_z (by rw [(kx_10_1 hk)]; decide) (by rw [(kx_10_1 hk)]; decide)) (Nat.le_of_ble_eq_true rfl) (Nat.le_of_ble_eq_true rfl) hCl (fun ad2 h => ⟨by simp only [h o (by omega)], by simp only [h o (by omega)]⟩) ?_
  intro ad1 hA1 hCl1
  refine bf_widen (k2 := (1, 99)) (Nat.le_of_ble_eq_true rfl) (Nat.le_of_ble_eq_true rfl) ?_
  have hag1 : ∀ i, i < o + 1 → ad1 i = ad0 i := fun i hi => (hA1 i (by omega)).trans (hag i hi)
  clear hA1
  refine bf_xputR (i := 7) (ty := tyX10 7) (t := o + 1) tyX10 dX10_init_9 wf_X10_9 (by omega) hk (by decide) rfl in_X10 tyX10_ok nmX10 (by decide) (by decide) (by decide) rfl rfl rfl (by decide +kernel) (fun _ => rfl) (fun _ => rfl) ?_
  rw [bf_u_w]
  have hCl2 : bf_Cl (o + 2) (bf_w Rf o (va_up (fun _ => none) 7 (some (o + 1)))) := by have h := bf_Cl_u (o := o) (i := 7) (t := o + 1) hCl1 (by omega); rw [bf_u_w] at h; exact h
  clear hCl1
  refine bf_aload_n 0 dX10_init_12 rfl rfl ?_
  refine bf_iconst (v := 0) dX10_init_13 (by decide) ?_
  refine bf_xputI (i := 4) (ty := .boolean) tyX10 dX10_init_14 wf_X10_15 (by omega) hk (by decide) rfl in_X10 tyX10_ok nmX10 (by decide) (by decide) (by decide) rfl (by decide +kernel) rfl rfl ?_
  rw [bf_u_w]
  refine bf_aload_n 0 dX10_init_17 rfl rfl ?_
  refine bf_callV (d := 0) (mc := 0) (ms := 0) (ν := mu_X10_clear) (o := o) (As := []) (rest := []) dX10_init_18 rfl wl_X10_19 wm_X10_clear wv_X10_clear wi_X10 wc_X10_clear ⟨rfl, wd_X10_clear⟩ ⟨(Nat.le_of_ble_eq_true rfl), (Nat.le_of_ble_eq_true rfl)⟩ ⟨(Nat.le_of_ble_eq_true rfl), (Nat.le_of_ble_eq_true rfl)⟩ (Nat.le_of_ble_eq_true rfl) (show o < o + 2 by omega) hk (by decide) rfl (okg_X10_clear (by omega) hk) ?_
  rintro _ _ ⟨rfl, rfl⟩
  rw [bf_u_w, bf_u_w]
  have eI : bf_w I o (va_up (va_up (va_up (fun _ => 0) 4 (0)) 5 0) 6 0) = I := bf_wS (by rw [(hp o (by omega) (by omega)).1]; exact ri_10 hk)
  have eR : bf_w Rf o (va_up (fun _ => none) 7 (some (o + 1))) = Rf := bf_wS (by rw [(hp o (by omega) (by omega)).2.2]; exact rr_10 hk)
  rw [eI, eR]
  rw [eR] at hCl2
  exact bf_vret dX10_init_21 rfl (Nat.le_of_ble_eq_true rfl) (Nat.le_of_ble_eq_true rfl) ⟨rfl, _, hag1, rfl, hCl2⟩
set_option maxRecDepth 100000 in
set_option maxHeartbeats 40000000 in
theorem okx_X1_init {Γ : bf_Gm} {o : Nat} {ad0 : Nat → Nat} {I : Nat → Nat → Int32} {L : Nat → Nat → Int64} {Rf : Nat → Nat → Option Nat} (hk : bf_kd o = 1) (hp : bf_Fu o 2 I L Rf) (hCl : bf_Cl (o + 1) (bf_w Rf o (fun _ => none))) : bf_Cn Γ 1 mu_X1_init 1 6 [.ref (ad0 o)] (o + 1, ad0, bf_w I o (fun _ => 0), L, bf_w Rf o (fun _ => none)) (bf_Qx (o + 1) ad0 (o + 2) I L Rf) := by
  refine bf_met rfl (Nat.le_of_ble_eq_true rfl) ?_
  have hag : ∀ i, i < o + 1 → ad0 i = ad0 i := fun _ _ => rfl
  refine bf_aload_n 0 dX1_init_0 rfl rfl ?_
  refine bf_xobj dX1_init_1 wl_X1_3 wm_Jobj wc_Jobj (Nat.le_of_ble_eq_true rfl) (Nat.le_of_ble_eq_true rfl) ?_
  refine bf_aload_n 0 dX1_init_4 rfl rfl ?_
  refine bf_bipush (v := 6) dX1_init_5 (by decide) ?_
  refine bf_xnewI (n := o + 1) (lvf := (fun ad => [(0, .ref (ad o))])) (stf := (fun ad => [.ref (ad o)])) (N := 6) dX1_init_7 wy_int (by decide) (by decide) (by decide) (kx_1_1 hk) (lx_1_1 hk) (by rw [bf_w_ne (show o + 1 ≠ o by omega), (hp (o + 1) (by omega) (by omega)).1]; exact bf_I0_z (by rw [(kx_1_1 hk)]; decide) (nx_1_1 hk)) (fun j => by rw [bf_w_ne (show o + 1 ≠ o by omega), (hp (o + 1) (by omega) (by omega)).2.2]; exact bf_R0_z (by rw [(kx_1_1 hk)]; decide) (by rw [(kx_1_1 hk)]; decide)) (Nat.le_of_ble_eq_true rfl) (Nat.le_of_ble_eq_true rfl) hCl (fun ad2 h => ⟨by simp only [h o (by omega)], by simp only [h o (by omega)]⟩) ?_
  intro ad1 hA1 hCl1
  refine bf_widen (k2 := (1, 6)) (Nat.le_of_ble_eq_true rfl) (Nat.le_of_ble_eq_true rfl) ?_
  have hag1 : ∀ i, i < o + 1 → ad1 i = ad0 i := fun i hi => (hA1 i (by omega)).trans (hag i hi)
  clear hA1
  refine bf_xputR (i := 5) (ty := tyX1 5) (t := o + 1) tyX1 dX1_init_9 wf_X1_9 (by omega) hk (by decide) rfl in_X1 tyX1_ok nmX1 (by decide) (by decide) (by decide) rfl rfl rfl (by decide +kernel) (fun _ => rfl) (fun _ => rfl) ?_
  rw [bf_u_w]
  have hCl2 : bf_Cl (o + 2) (bf_w Rf o (va_up (fun _ => none) 5 (some (o + 1)))) := by have h := bf_Cl_u (o := o) (i := 5) (t := o + 1) hCl1 (by omega); rw [bf_u_w] at h; exact h
  clear hCl1
  have eI : bf_w I o (fun _ => 0) = I := bf_wS (by rw [(hp o (by omega) (by omega)).1]; exact ri_1 hk)
  have eR : bf_w Rf o (va_up (fun _ => none) 5 (some (o + 1))) = Rf := bf_wS (by rw [(hp o (by omega) (by omega)).2.2]; exact rr_1 hk)
  rw [eI, eR]
  rw [eR] at hCl2
  exact bf_vret dX1_init_12 rfl (Nat.le_of_ble_eq_true rfl) (Nat.le_of_ble_eq_true rfl) ⟨rfl, _, hag1, rfl, hCl2⟩
set_option maxRecDepth 100000 in
set_option maxHeartbeats 40000000 in
theorem okx_X2_init {Γ : bf_Gm} {o : Nat} {ad0 : Nat → Nat} {I : Nat → Nat → Int32} {L : Nat → Nat → Int64} {Rf : Nat → Nat → Option Nat} (hk : bf_kd o = 2) (hp : bf_Fu o 2 I L Rf) (hCl : bf_Cl (o + 1) (bf_w Rf o (fun _ => none))) : bf_Cn Γ 1 mu_X2_init 1 8 [.ref (ad0 o)] (o + 1, ad0, bf_w I o (fun _ => 0), L, bf_w Rf o (fun _ => none)) (bf_Qx (o + 1) ad0 (o + 2) I L Rf) := by
  refine bf_met rfl (Nat.le_of_ble_eq_true rfl) ?_
  have hag : ∀ i, i < o + 1 → ad0 i = ad0 i := fun _ _ => rfl
  refine bf_aload_n 0 dX2_init_0 rfl rfl ?_
  refine bf_xobj dX2_init_1 wl_X2_3 wm_Jobj wc_Jobj (Nat.le_of_ble_eq_true rfl) (Nat.le_of_ble_eq_true rfl) ?_
  refine bf_aload_n 0 dX2_init_4 rfl rfl ?_
  refine bf_bipush (v := 8) dX2_init_5 (by decide) ?_
  refine bf_xnewI (n := o + 1) (lvf := (fun ad => [(0, .ref (ad o))])) (stf := (fun ad => [.ref (ad o)])) (N := 8) dX2_init_7 wy_int (by decide) (by decide) (by decide) (kx_2_1 hk) (lx_2_1 hk) (by rw [bf_w_ne (show o + 1 ≠ o by omega), (hp (o + 1) (by omega) (by omega)).1]; exact bf_I0_z (by rw [(kx_2_1 hk)]; decide) (nx_2_1 hk)) (fun j => by rw [bf_w_ne (show o + 1 ≠ o by omega), (hp (o + 1) (by omega) (by omega)).2.2]; exact bf_R0_z (by rw [(kx_2_1 hk)]; decide) (by rw [(kx_2_1 hk)]; decide)) (Nat.le_of_ble_eq_true rfl) (Nat.le_of_ble_eq_true rfl) hCl (fun ad2 h => ⟨by simp only [h o (by omega)], by simp only [h o (by omega)]⟩) ?_
  intro ad1 hA1 hCl1
  refine bf_widen (k2 := (1, 8)) (Nat.le_of_ble_eq_true rfl) (Nat.le_of_ble_eq_true rfl) ?_
  have hag1 : ∀ i, i < o + 1 → ad1 i = ad0 i := fun i hi => (hA1 i (by omega)).trans (hag i hi)
  clear hA1
  refine bf_xputR (i := 0) (ty := tyX2 0) (t := o + 1) tyX2 dX2_init_9 wf_X2_9 (by omega) hk (by decide) rfl in_X2 tyX2_ok nmX2 (by decide) (by decide) (by decide) rfl rfl rfl (by decide +kernel) (fun _ => rfl) (fun _ => rfl) ?_
  rw [bf_u_w]
  have hCl2 : bf_Cl (o + 2) (bf_w Rf o (va_up (fun _ => none) 0 (some (o + 1)))) := by have h := bf_Cl_u (o := o) (i := 0) (t := o + 1) hCl1 (by omega); rw [bf_u_w] at h; exact h
  clear hCl1
  have eI : bf_w I o (fun _ => 0) = I := bf_wS (by rw [(hp o (by omega) (by omega)).1]; exact ri_2 hk)
  have eR : bf_w Rf o (va_up (fun _ => none) 0 (some (o + 1))) = Rf := bf_wS (by rw [(hp o (by omega) (by omega)).2.2]; exact rr_2 hk)
  rw [eI, eR]
  rw [eR] at hCl2
  exact bf_vret dX2_init_12 rfl (Nat.le_of_ble_eq_true rfl) (Nat.le_of_ble_eq_true rfl) ⟨rfl, _, hag1, rfl, hCl2⟩
set_option maxRecDepth 100000 in
set_option maxHeartbeats 40000000 in
theorem okx_X8_init {Γ : bf_Gm} {o : Nat} {ad0 : Nat → Nat} {I : Nat → Nat → Int32} {L : Nat → Nat → Int64} {Rf : Nat → Nat → Option Nat} (hk : bf_kd o = 8) (hp : bf_Fu o 2 I L Rf) (hCl : bf_Cl (o + 1) (bf_w Rf o (fun _ => none))) : bf_Cn Γ 1 mu_X8_init 1 60 [.ref (ad0 o)] (o + 1, ad0, bf_w I o (fun _ => 0), L, bf_w Rf o (fun _ => none)) (bf_Qx (o + 1) ad0 (o + 2) I L Rf) := by
  refine bf_met rfl (Nat.le_of_ble_eq_true rfl) ?_
  have hag : ∀ i, i < o + 1 → ad0 i = ad0 i := fun _ _ => rfl
  refine bf_aload_n 0 dX8_init_0 rfl rfl ?_
  refine bf_xobj dX8_init_1 wl_X8_3 wm_Jobj wc_Jobj (Nat.le_of_ble_eq_true rfl) (Nat.le_of_ble_eq_true rfl) ?_
  refine bf_aload_n 0 dX8_init_4 rfl rfl ?_
  refine bf_bipush (v := 60) dX8_init_5 (by decide) ?_
  refine bf_xnewJ (n := o + 1) (lvf := (fun ad => [(0, .ref (ad o))])) (stf := (fun ad => [.ref (ad o)])) (N := 60) dX8_init_7 wy_long (by decide) (by decide) (by decide) (kx_8_1 hk) (lx_8_1 hk) (hp (o + 1) (by omega) (by omega)).2.1 (fun j => by rw [bf_w_ne (show o + 1 ≠ o by omega), (hp (o + 1) (by omega) (by omega)).2.2]; exact bf_R0_z (by rw [(kx_8_1 hk)]; decide) (by rw [(kx_8_1 hk)]; decide)) (Nat.le_of_ble_eq_true rfl) (Nat.le_of_ble_eq_true rfl) hCl (fun ad2 h => ⟨by simp only [h o (by omega)], by simp only [h o (by omega)]⟩) ?_
  intro ad1 hA1 hCl1
  refine bf_widen (k2 := (1, 60)) (Nat.le_of_ble_eq_true rfl) (Nat.le_of_ble_eq_true rfl) ?_
  have hag1 : ∀ i, i < o + 1 → ad1 i = ad0 i := fun i hi => (hA1 i (by omega)).trans (hag i hi)
  clear hA1
  refine bf_xputR (i := 2) (ty := tyX8 2) (t := o + 1) tyX8 dX8_init_9 wf_X8_9 (by omega) hk (by decide) rfl in_X8 tyX8_ok nmX8 (by decide) (by decide) (by decide) rfl rfl rfl (by decide +kernel) (fun _ => rfl) (fun _ => rfl) ?_
  rw [bf_u_w]
  have hCl2 : bf_Cl (o + 2) (bf_w Rf o (va_up (fun _ => none) 2 (some (o + 1)))) := by have h := bf_Cl_u (o := o) (i := 2) (t := o + 1) hCl1 (by omega); rw [bf_u_w] at h; exact h
  clear hCl1
  refine bf_aload_n 0 dX8_init_12 rfl rfl ?_
  refine bf_iconst (v := -1) dX8_init_13 (by decide) ?_
  refine bf_xputI (i := 0) (ty := .int) tyX8 dX8_init_14 wf_X8_15 (by omega) hk (by decide) rfl in_X8 tyX8_ok nmX8 (by decide) (by decide) (by decide) rfl (by decide +kernel) rfl rfl ?_
  rw [bf_u_w]
  refine bf_aload_n 0 dX8_init_17 rfl rfl ?_
  refine bf_iconst (v := 0) dX8_init_18 (by decide) ?_
  refine bf_xputI (i := 1) (ty := .int) tyX8 dX8_init_19 wf_X8_19 (by omega) hk (by decide) rfl in_X8 tyX8_ok nmX8 (by decide) (by decide) (by decide) rfl (by decide +kernel) rfl rfl ?_
  rw [bf_u_w]
  have eI : bf_w I o (va_up (va_up (fun _ => 0) 0 (-1)) 1 (0)) = I := bf_wS (by rw [(hp o (by omega) (by omega)).1]; exact ri_8 hk)
  have eR : bf_w Rf o (va_up (fun _ => none) 2 (some (o + 1))) = Rf := bf_wS (by rw [(hp o (by omega) (by omega)).2.2]; exact rr_8 hk)
  rw [eI, eR]
  rw [eR] at hCl2
  exact bf_vret dX8_init_22 rfl (Nat.le_of_ble_eq_true rfl) (Nat.le_of_ble_eq_true rfl) ⟨rfl, _, hag1, rfl, hCl2⟩
set_option maxRecDepth 100000 in
set_option maxHeartbeats 40000000 in
theorem okx_X5_init_5 {Γ : bf_Gm} {o : Nat} {ad0 : Nat → Nat} {I : Nat → Nat → Int32} {L : Nat → Nat → Int64} {Rf : Nat → Nat → Option Nat} (hk : bf_kd o = 5) (hp : bf_Fu o 4 I L Rf) (hCl : bf_Cl (o + 1) (bf_w Rf o (fun _ => none))) (hl1 : bf_le (o + 1) = 5) (hl2 : bf_le (o + 2) = 5) (hl3 : bf_le (o + 3) = 5) : bf_Cn Γ 1 mu_X5_init 3 15 [.ref (ad0 o), .int 5] (o + 1, ad0, bf_w I o (fun _ => 0), L, bf_w Rf o (fun _ => none)) (bf_Qx (o + 1) ad0 (o + 4) I L Rf) := by
  refine bf_met rfl (Nat.le_of_ble_eq_true rfl) ?_
  have hag : ∀ i, i < o + 1 → ad0 i = ad0 i := fun _ _ => rfl
  refine bf_aload_n 0 dX5_init_0 rfl rfl ?_
  refine bf_xobj dX5_init_1 wl_X5_3 wm_Jobj wc_Jobj (Nat.le_of_ble_eq_true rfl) (Nat.le_of_ble_eq_true rfl) ?_
  refine bf_iload_n 1 dX5_init_4 rfl rfl ?_
  refine bf_iconst (v := 0) dX5_init_5 (by decide) ?_
  refine bf_mmax dX5_init_6 wl_X5_9 wt_Jmax wi_J9 wc_Jmax (Nat.le_of_ble_eq_true rfl) (Nat.le_of_ble_eq_true rfl) (Nat.le_of_ble_eq_true rfl) (Nat.le_of_ble_eq_true rfl) ?_
  rw [show bf_max (5) (0) = 5 from by decide]
  refine bf_istore_n (lv2 := [(2, .int _), (0, .ref _), (1, .int _)]) dX5_init_9 rfl (by decide) rfl ?_
  refine bf_aload_n 1 dX5_init_10 rfl rfl ?_
  refine bf_iload_n 0 dX5_init_11 rfl rfl ?_
  refine bf_xnewI (n := o + 1) (lvf := (fun ad => [(2, .int (5)), (0, .ref (ad o)), (1, .int (5))])) (stf := (fun ad => [.ref (ad o)])) (N := 5) dX5_init_12 wy_int (by decide) (by decide) (by decide) (kx_5_1 hk) hl1 (by rw [bf_w_ne (show o + 1 ≠ o by omega), (hp (o + 1) (by omega) (by omega)).1]; exact bf_I0_z (by rw [(kx_5_1 hk)]; decide) (nx_5_1 hk)) (fun j => by rw [bf_w_ne (show o + 1 ≠ o by omega), (hp (o + 1) (by omega) (by omega)).2.2]; exact bf_R0_z (by rw [(kx_5_1 hk)]; decide) (by rw [(kx_5_1 hk)]; decide)) (Nat.le_of_ble_eq_true rfl) (Nat.le_of_ble_eq_true rfl) hCl (fun ad2 h => ⟨by simp only [h o (by omega)], by simp only [h o (by omega)]⟩) ?_
  intro ad1 hA1 hCl1
  refine bf_widen (k2 := (1, 5)) (Nat.le_of_ble_eq_true rfl) (Nat.le_of_ble_eq_true rfl) ?_
  have hag1 : ∀ i, i < o + 1 → ad1 i = ad0 i := fun i hi => (hA1 i (by omega)).trans (hag i hi)
  clear hA1
  refine bf_xputR (i := 1) (ty := tyX5 1) (t := o + 1) tyX5 dX5_init_14 wf_X5_15 (by omega) hk (by decide) rfl in_X5 tyX5_ok nmX5 (by decide) (by decide) (by decide) rfl rfl rfl (by decide +kernel) (fun _ => rfl) (fun _ => rfl) ?_
  rw [bf_u_w]
  have hCl2 : bf_Cl (o + 2) (bf_w Rf o (va_up (fun _ => none) 1 (some (o + 1)))) := by have h := bf_Cl_u (o := o) (i := 1) (t := o + 1) hCl1 (by omega); rw [bf_u_w] at h; exact h
  clear hCl1
  refine bf_aload_n 1 dX5_init_17 rfl rfl ?_
  refine bf_iload_n 0 dX5_init_18 rfl rfl ?_
  refine bf_xnewI (n := o + 2) (lvf := (fun ad => [(2, .int (5)), (0, .ref (ad o)), (1, .int (5))])) (stf := (fun ad => [.ref (ad o)])) (N := 5) dX5_init_19 wy_int (by decide) (by decide) (by decide) (kx_5_2 hk) hl2 (by rw [bf_w_ne (show o + 2 ≠ o by omega), (hp (o + 2) (by omega) (by omega)).1]; exact bf_I0_z (by rw [(kx_5_2 hk)]; decide) (nx_5_2 hk)) (fun j => by rw [bf_w_ne (show o + 2 ≠ o by omega), (hp (o + 2) (by omega) (by omega)).2.2]; exact bf_R0_z (by rw [(kx_5_2 hk)]; decide) (by rw [(kx_5_2 hk)]; decide)) (Nat.le_of_ble_eq_true rfl) (Nat.le_of_ble_eq_true rfl) hCl2 (fun ad2 h => ⟨by simp only [h o (by omega)], by simp only [h o (by omega)]⟩) ?_
  intro ad3 hA3 hCl3
  refine bf_widen (k2 := (2, 10)) (Nat.le_of_ble_eq_true rfl) (Nat.le_of_ble_eq_true rfl) ?_
  have hag3 : ∀ i, i < o + 1 → ad3 i = ad0 i := fun i hi => (hA3 i (by omega)).trans (hag1 i hi)
  clear hag1
  clear hCl2
  clear hA3
  refine bf_xputR (i := 2) (ty := tyX5 2) (t := o + 2) tyX5 dX5_init_21 wf_X5_21 (by omega) hk (by decide) rfl in_X5 tyX5_ok nmX5 (by decide) (by decide) (by decide) rfl rfl rfl (by decide +kernel) (fun _ => rfl) (fun _ => rfl) ?_
  rw [bf_u_w]
  have hCl4 : bf_Cl (o + 3) (bf_w Rf o (va_up (va_up (fun _ => none) 1 (some (o + 1))) 2 (some (o + 2)))) := by have h := bf_Cl_u (o := o) (i := 2) (t := o + 2) hCl3 (by omega); rw [bf_u_w] at h; exact h
  clear hCl3
  refine bf_aload_n 1 dX5_init_24 rfl rfl ?_
  refine bf_iload_n 0 dX5_init_25 rfl rfl ?_
  refine bf_xnewI (n := o + 3) (lvf := (fun ad => [(2, .int (5)), (0, .ref (ad o)), (1, .int (5))])) (stf := (fun ad => [.ref (ad o)])) (N := 5) dX5_init_26 wy_int (by decide) (by decide) (by decide) (kx_5_3 hk) hl3 (by rw [bf_w_ne (show o + 3 ≠ o by omega), (hp (o + 3) (by omega) (by omega)).1]; exact bf_I0_z (by rw [(kx_5_3 hk)]; decide) (nx_5_3 hk)) (fun j => by rw [bf_w_ne (show o + 3 ≠ o by omega), (hp (o + 3) (by omega) (by omega)).2.2]; exact bf_R0_z (by rw [(kx_5_3 hk)]; decide) (by rw [(kx_5_3 hk)]; decide)) (Nat.le_of_ble_eq_true rfl) (Nat.le_of_ble_eq_true rfl) hCl4 (fun ad2 h => ⟨by simp only [h o (by omega)], by simp only [h o (by omega)]⟩) ?_
  intro ad5 hA5 hCl5
  refine bf_widen (k2 := (3, 15)) (Nat.le_of_ble_eq_true rfl) (Nat.le_of_ble_eq_true rfl) ?_
  have hag5 : ∀ i, i < o + 1 → ad5 i = ad0 i := fun i hi => (hA5 i (by omega)).trans (hag3 i hi)
  clear hag3
  clear hCl4
  clear hA5
  refine bf_xputR (i := 3) (ty := tyX5 3) (t := o + 3) tyX5 dX5_init_28 wf_X5_24 (by omega) hk (by decide) rfl in_X5 tyX5_ok nmX5 (by decide) (by decide) (by decide) rfl rfl rfl (by decide +kernel) (fun _ => rfl) (fun _ => rfl) ?_
  rw [bf_u_w]
  have hCl6 : bf_Cl (o + 4) (bf_w Rf o (va_up (va_up (va_up (fun _ => none) 1 (some (o + 1))) 2 (some (o + 2))) 3 (some (o + 3)))) := by have h := bf_Cl_u (o := o) (i := 3) (t := o + 3) hCl5 (by omega); rw [bf_u_w] at h; exact h
  clear hCl5
  refine bf_aload_n 1 dX5_init_31 rfl rfl ?_
  refine bf_iconst (v := 0) dX5_init_32 (by decide) ?_
  refine bf_xputI (i := 0) (ty := .int) tyX5 dX5_init_33 wf_X5_27 (by omega) hk (by decide) rfl in_X5 tyX5_ok nmX5 (by decide) (by decide) (by decide) rfl (by decide +kernel) rfl rfl ?_
  rw [bf_u_w]
  have eI : bf_w I o (va_up (fun _ => 0) 0 (0)) = I := bf_wS (by rw [(hp o (by omega) (by omega)).1]; exact ri_5 hk)
  have eR : bf_w Rf o (va_up (va_up (va_up (fun _ => none) 1 (some (o + 1))) 2 (some (o + 2))) 3 (some (o + 3))) = Rf := bf_wS (by rw [(hp o (by omega) (by omega)).2.2]; exact rr_5 hk)
  rw [eI, eR]
  rw [eR] at hCl6
  exact bf_vret dX5_init_36 rfl (Nat.le_of_ble_eq_true rfl) (Nat.le_of_ble_eq_true rfl) ⟨rfl, _, hag5, rfl, hCl6⟩
set_option maxRecDepth 100000 in
set_option maxHeartbeats 40000000 in
theorem okx_X5_init_10 {Γ : bf_Gm} {o : Nat} {ad0 : Nat → Nat} {I : Nat → Nat → Int32} {L : Nat → Nat → Int64} {Rf : Nat → Nat → Option Nat} (hk : bf_kd o = 5) (hp : bf_Fu o 4 I L Rf) (hCl : bf_Cl (o + 1) (bf_w Rf o (fun _ => none))) (hl1 : bf_le (o + 1) = 10) (hl2 : bf_le (o + 2) = 10) (hl3 : bf_le (o + 3) = 10) : bf_Cn Γ 1 mu_X5_init 3 30 [.ref (ad0 o), .int 10] (o + 1, ad0, bf_w I o (fun _ => 0), L, bf_w Rf o (fun _ => none)) (bf_Qx (o + 1) ad0 (o + 4) I L Rf) := by
  refine bf_met rfl (Nat.le_of_ble_eq_true rfl) ?_
  have hag : ∀ i, i < o + 1 → ad0 i = ad0 i := fun _ _ => rfl
  refine bf_aload_n 0 dX5_init_0 rfl rfl ?_
  refine bf_xobj dX5_init_1 wl_X5_3 wm_Jobj wc_Jobj (Nat.le_of_ble_eq_true rfl) (Nat.le_of_ble_eq_true rfl) ?_
  refine bf_iload_n 1 dX5_init_4 rfl rfl ?_
  refine bf_iconst (v := 0) dX5_init_5 (by decide) ?_
  refine bf_mmax dX5_init_6 wl_X5_9 wt_Jmax wi_J9 wc_Jmax (Nat.le_of_ble_eq_true rfl) (Nat.le_of_ble_eq_true rfl) (Nat.le_of_ble_eq_true rfl) (Nat.le_of_ble_eq_true rfl) ?_
  rw [show bf_max (10) (0) = 10 from by decide]
  refine bf_istore_n (lv2 := [(2, .int _), (0, .ref _), (1, .int _)]) dX5_init_9 rfl (by decide) rfl ?_
  refine bf_aload_n 1 dX5_init_10 rfl rfl ?_
  refine bf_iload_n 0 dX5_init_11 rfl rfl ?_
  refine bf_xnewI (n := o + 1) (lvf := (fun ad => [(2, .int (10)), (0, .ref (ad o)), (1, .int (10))])) (stf := (fun ad => [.ref (ad o)])) (N := 10) dX5_init_12 wy_int (by decide) (by decide) (by decide) (kx_5_1 hk) hl1 (by rw [bf_w_ne (show o + 1 ≠ o by omega), (hp (o + 1) (by omega) (by omega)).1]; exact bf_I0_z (by rw [(kx_5_1 hk)]; decide) (nx_5_1 hk)) (fun j => by rw [bf_w_ne (show o + 1 ≠ o by omega), (hp (o + 1) (by omega) (by omega)).2.2]; exact bf_R0_z (by rw [(kx_5_1 hk)]; decide) (by rw [(kx_5_1 hk)]; decide)) (Nat.le_of_ble_eq_true rfl) (Nat.le_of_ble_eq_true rfl) hCl (fun ad2 h => ⟨by simp only [h o (by omega)], by simp only [h o (by omega)]⟩) ?_
  intro ad1 hA1 hCl1
  refine bf_widen (k2 := (1, 10)) (Nat.le_of_ble_eq_true rfl) (Nat.le_of_ble_eq_true rfl) ?_
  have hag1 : ∀ i, i < o + 1 → ad1 i = ad0 i := fun i hi => (hA1 i (by omega)).trans (hag i hi)
  clear hA1
  refine bf_xputR (i := 1) (ty := tyX5 1) (t := o + 1) tyX5 dX5_init_14 wf_X5_15 (by omega) hk (by decide) rfl in_X5 tyX5_ok nmX5 (by decide) (by decide) (by decide) rfl rfl rfl (by decide +kernel) (fun _ => rfl) (fun _ => rfl) ?_
  rw [bf_u_w]
  have hCl2 : bf_Cl (o + 2) (bf_w Rf o (va_up (fun _ => none) 1 (some (o + 1)))) := by have h := bf_Cl_u (o := o) (i := 1) (t := o + 1) hCl1 (by omega); rw [bf_u_w] at h; exact h
  clear hCl1
  refine bf_aload_n 1 dX5_init_17 rfl rfl ?_
  refine bf_iload_n 0 dX5_init_18 rfl rfl ?_
  refine bf_xnewI (n := o + 2) (lvf := (fun ad => [(2, .int (10)), (0, .ref (ad o)), (1, .int (10))])) (stf := (fun ad => [.ref (ad o)])) (N := 10) dX5_init_19 wy_int (by decide) (by decide) (by decide) (kx_5_2 hk) hl2 (by rw [bf_w_ne (show o + 2 ≠ o by omega), (hp (o + 2) (by omega) (by omega)).1]; exact bf_I0_z (by rw [(kx_5_2 hk)]; decide) (nx_5_2 hk)) (fun j => by rw [bf_w_ne (show o + 2 ≠ o by omega), (hp (o + 2) (by omega) (by omega)).2.2]; exact bf_R0_z (by rw [(kx_5_2 hk)]; decide) (by rw [(kx_5_2 hk)]; decide)) (Nat.le_of_ble_eq_true rfl) (Nat.le_of_ble_eq_true rfl) hCl2 (fun ad2 h => ⟨by simp only [h o (by omega)], by simp only [h o (by omega)]⟩) ?_
  intro ad3 hA3 hCl3
  refine bf_widen (k2 := (2, 20)) (Nat.le_of_ble_eq_true rfl) (Nat.le_of_ble_eq_true rfl) ?_
  have hag3 : ∀ i, i < o + 1 → ad3 i = ad0 i := fun i hi => (hA3 i (by omega)).trans (hag1 i hi)
  clear hag1
  clear hCl2
  clear hA3
  refine bf_xputR (i := 2) (ty := tyX5 2) (t := o + 2) tyX5 dX5_init_21 wf_X5_21 (by omega) hk (by decide) rfl in_X5 tyX5_ok nmX5 (by decide) (by decide) (by decide) rfl rfl rfl (by decide +kernel) (fun _ => rfl) (fun _ => rfl) ?_
  rw [bf_u_w]
  have hCl4 : bf_Cl (o + 3) (bf_w Rf o (va_up (va_up (fun _ => none) 1 (some (o + 1))) 2 (some (o + 2)))) := by have h := bf_Cl_u (o := o) (i := 2) (t := o + 2) hCl3 (by omega); rw [bf_u_w] at h; exact h
  clear hCl3
  refine bf_aload_n 1 dX5_init_24 rfl rfl ?_
  refine bf_iload_n 0 dX5_init_25 rfl rfl ?_
  refine bf_xnewI (n := o + 3) (lvf := (fun ad => [(2, .int (10)), (0, .ref (ad o)), (1, .int (10))])) (stf := (fun ad => [.ref (ad o)])) (N := 10) dX5_init_26 wy_int (by decide) (by decide) (by decide) (kx_5_3 hk) hl3 (by rw [bf_w_ne (show o + 3 ≠ o by omega), (hp (o + 3) (by omega) (by omega)).1]; exact bf_I0_z (by rw [(kx_5_3 hk)]; decide) (nx_5_3 hk)) (fun j => by rw [bf_w_ne (show o + 3 ≠ o by omega), (hp (o + 3) (by omega) (by omega)).2.2]; exact bf_R0_z (by rw [(kx_5_3 hk)]; decide) (by rw [(kx_5_3 hk)]; decide)) (Nat.le_of_ble_eq_true rfl) (Nat.le_of_ble_eq_true rfl) hCl4 (fun ad2 h => ⟨by simp only [h o (by omega)], by simp only [h o (by omega)]⟩) ?_
  intro ad5 hA5 hCl5
  refine bf_widen (k2 := (3, 30)) (Nat.le_of_ble_eq_true rfl) (Nat.le_of_ble_eq_true rfl) ?_
  have hag5 : ∀ i, i < o + 1 → ad5 i = ad0 i := fun i hi => (hA5 i (by omega)).trans (hag3 i hi)
  clear hag3
  clear hCl4
  clear hA5
  refine bf_xputR (i := 3) (ty := tyX5 3) (t := o + 3) tyX5 dX5_init_28 wf_X5_24 (by omega) hk (by decide) rfl in_X5 tyX5_ok nmX5 (by decide) (by decide) (by decide) rfl rfl rfl (by decide +kernel) (fun _ => rfl) (fun _ => rfl) ?_
  rw [bf_u_w]
  have hCl6 : bf_Cl (o + 4) (bf_w Rf o (va_up (va_up (va_up (fun _ => none) 1 (some (o + 1))) 2 (some (o + 2))) 3 (some (o + 3)))) := by have h := bf_Cl_u (o := o) (i := 3) (t := o + 3) hCl5 (by omega); rw [bf_u_w] at h; exact h
  clear hCl5
  refine bf_aload_n 1 dX5_init_31 rfl rfl ?_
  refine bf_iconst (v := 0) dX5_init_32 (by decide) ?_
  refine bf_xputI (i := 0) (ty := .int) tyX5 dX5_init_33 wf_X5_27 (by omega) hk (by decide) rfl in_X5 tyX5_ok nmX5 (by decide) (by decide) (by decide) rfl (by decide +kernel) rfl rfl ?_
  rw [bf_u_w]
  have eI : bf_w I o (va_up (fun _ => 0) 0 (0)) = I := bf_wS (by rw [(hp o (by omega) (by omega)).1]; exact ri_5 hk)
  have eR : bf_w Rf o (va_up (va_up (va_up (fun _ => none) 1 (some (o + 1))) 2 (some (o + 2))) 3 (some (o + 3))) = Rf := bf_wS (by rw [(hp o (by omega) (by omega)).2.2]; exact rr_5 hk)
  rw [eI, eR]
  rw [eR] at hCl6
  exact bf_vret dX5_init_36 rfl (Nat.le_of_ble_eq_true rfl) (Nat.le_of_ble_eq_true rfl) ⟨rfl, _, hag5, rfl, hCl6⟩
set_option maxRecDepth 100000 in
set_option maxHeartbeats 40000000 in
theorem okx_X5_init_8 {Γ : bf_Gm} {o : Nat} {ad0 : Nat → Nat} {I : Nat → Nat → Int32} {L : Nat → Nat → Int64} {Rf : Nat → Nat → Option Nat} (hk : bf_kd o = 5) (hp : bf_Fu o 4 I L Rf) (hCl : bf_Cl (o + 1) (bf_w Rf o (fun _ => none))) (hl1 : bf_le (o + 1) = 8) (hl2 : bf_le (o + 2) = 8) (hl3 : bf_le (o + 3) = 8) : bf_Cn Γ 1 mu_X5_init 3 24 [.ref (ad0 o), .int 8] (o + 1, ad0, bf_w I o (fun _ => 0), L, bf_w Rf o (fun _ => none)) (bf_Qx (o + 1) ad0 (o + 4) I L Rf) := by
  refine bf_met rfl (Nat.le_of_ble_eq_true rfl) ?_
  have hag : ∀ i, i < o + 1 → ad0 i = ad0 i := fun _ _ => rfl
  refine bf_aload_n 0 dX5_init_0 rfl rfl ?_
  refine bf_xobj dX5_init_1 wl_X5_3 wm_Jobj wc_Jobj (Nat.le_of_ble_eq_true rfl) (Nat.le_of_ble_eq_true rfl) ?_
  refine bf_iload_n 1 dX5_init_4 rfl rfl ?_
  refine bf_iconst (v := 0) dX5_init_5 (by decide) ?_
  refine bf_mmax dX5_init_6 wl_X5_9 wt_Jmax wi_J9 wc_Jmax (Nat.le_of_ble_eq_true rfl) (Nat.le_of_ble_eq_true rfl) (Nat.le_of_ble_eq_true rfl) (Nat.le_of_ble_eq_true rfl) ?_
  rw [show bf_max (8) (0) = 8 from by decide]
  refine bf_istore_n (lv2 := [(2, .int _), (0, .ref _), (1, .int _)]) dX5_init_9 rfl (by decide) rfl ?_
  refine bf_aload_n 1 dX5_init_10 rfl rfl ?_
  refine bf_iload_n 0 dX5_init_11 rfl rfl ?_
  refine bf_xnewI (n := o + 1) (lvf := (fun ad => [(2, .int (8)), (0, .ref (ad o)), (1, .int (8))])) (stf := (fun ad => [.ref (ad o)])) (N := 8) dX5_init_12 wy_int (by decide) (by decide) (by decide) (kx_5_1 hk) hl1 (by rw [bf_w_ne (show o + 1 ≠ o by omega), (hp (o + 1) (by omega) (by omega)).1]; exact bf_I0_z (by rw [(kx_5_1 hk)]; decide) (nx_5_1 hk)) (fun j => by rw [bf_w_ne (show o + 1 ≠ o by omega), (hp (o + 1) (by omega) (by omega)).2.2]; exact bf_R0_z (by rw [(kx_5_1 hk)]; decide) (by rw [(kx_5_1 hk)]; decide)) (Nat.le_of_ble_eq_true rfl) (Nat.le_of_ble_eq_true rfl) hCl (fun ad2 h => ⟨by simp only [h o (by omega)], by simp only [h o (by omega)]⟩) ?_
  intro ad1 hA1 hCl1
  refine bf_widen (k2 := (1, 8)) (Nat.le_of_ble_eq_true rfl) (Nat.le_of_ble_eq_true rfl) ?_
  have hag1 : ∀ i, i < o + 1 → ad1 i = ad0 i := fun i hi => (hA1 i (by omega)).trans (hag i hi)
  clear hA1
  refine bf_xputR (i := 1) (ty := tyX5 1) (t := o + 1) tyX5 dX5_init_14 wf_X5_15 (by omega) hk (by decide) rfl in_X5 tyX5_ok nmX5 (by decide) (by decide) (by decide) rfl rfl rfl (by decide +kernel) (fun _ => rfl) (fun _ => rfl) ?_
  rw [bf_u_w]
  have hCl2 : bf_Cl (o + 2) (bf_w Rf o (va_up (fun _ => none) 1 (some (o + 1)))) := by have h := bf_Cl_u (o := o) (i := 1) (t := o + 1) hCl1 (by omega); rw [bf_u_w] at h; exact h
  clear hCl1
  refine bf_aload_n 1 dX5_init_17 rfl rfl ?_
  refine bf_iload_n 0 dX5_init_18 rfl rfl ?_
  refine bf_xnewI (n := o + 2) (lvf := (fun ad => [(2, .int (8)), (0, .ref (ad o)), (1, .int (8))])) (stf := (fun ad => [.ref (ad o)])) (N := 8) dX5_init_19 wy_int (by decide) (by decide) (by decide) (kx_5_2 hk) hl2 (by rw [bf_w_ne (show o + 2 ≠ o by omega), (hp (o + 2) (by omega) (by omega)).1]; exact bf_I0_z (by rw [(kx_5_2 hk)]; decide) (nx_5_2 hk)) (fun j => by rw [bf_w_ne (show o + 2 ≠ o by omega), (hp (o + 2) (by omega) (by omega)).2.2]; exact bf_R0_z (by rw [(kx_5_2 hk)]; decide) (by rw [(kx_5_2 hk)]; decide)) (Nat.le_of_ble_eq_true rfl) (Nat.le_of_ble_eq_true rfl) hCl2 (fun ad2 h => ⟨by simp only [h o (by omega)], by simp only [h o (by omega)]⟩) ?_
  intro ad3 hA3 hCl3
  refine bf_widen (k2 := (2, 16)) (Nat.le_of_ble_eq_true rfl) (Nat.le_of_ble_eq_true rfl) ?_
  have hag3 : ∀ i, i < o + 1 → ad3 i = ad0 i := fun i hi => (hA3 i (by omega)).trans (hag1 i hi)
  clear hag1
  clear hCl2
  clear hA3
  refine bf_xputR (i := 2) (ty := tyX5 2) (t := o + 2) tyX5 dX5_init_21 wf_X5_21 (by omega) hk (by decide) rfl in_X5 tyX5_ok nmX5 (by decide) (by decide) (by decide) rfl rfl rfl (by decide +kernel) (fun _ => rfl) (fun _ => rfl) ?_
  rw [bf_u_w]
  have hCl4 : bf_Cl (o + 3) (bf_w Rf o (va_up (va_up (fun _ => none) 1 (some (o + 1))) 2 (some (o + 2)))) := by have h := bf_Cl_u (o := o) (i := 2) (t := o + 2) hCl3 (by omega); rw [bf_u_w] at h; exact h
  clear hCl3
  refine bf_aload_n 1 dX5_init_24 rfl rfl ?_
  refine bf_iload_n 0 dX5_init_25 rfl rfl ?_
  refine bf_xnewI (n := o + 3) (lvf := (fun ad => [(2, .int (8)), (0, .ref (ad o)), (1, .int (8))])) (stf := (fun ad => [.ref (ad o)])) (N := 8) dX5_init_26 wy_int (by decide) (by decide) (by decide) (kx_5_3 hk) hl3 (by rw [bf_w_ne (show o + 3 ≠ o by omega), (hp (o + 3) (by omega) (by omega)).1]; exact bf_I0_z (by rw [(kx_5_3 hk)]; decide) (nx_5_3 hk)) (fun j => by rw [bf_w_ne (show o + 3 ≠ o by omega), (hp (o + 3) (by omega) (by omega)).2.2]; exact bf_R0_z (by rw [(kx_5_3 hk)]; decide) (by rw [(kx_5_3 hk)]; decide)) (Nat.le_of_ble_eq_true rfl) (Nat.le_of_ble_eq_true rfl) hCl4 (fun ad2 h => ⟨by simp only [h o (by omega)], by simp only [h o (by omega)]⟩) ?_
  intro ad5 hA5 hCl5
  refine bf_widen (k2 := (3, 24)) (Nat.le_of_ble_eq_true rfl) (Nat.le_of_ble_eq_true rfl) ?_
  have hag5 : ∀ i, i < o + 1 → ad5 i = ad0 i := fun i hi => (hA5 i (by omega)).trans (hag3 i hi)
  clear hag3
  clear hCl4
  clear hA5
  refine bf_xputR (i := 3) (ty := tyX5 3) (t := o + 3) tyX5 dX5_init_28 wf_X5_24 (by omega) hk (by decide) rfl in_X5 tyX5_ok nmX5 (by decide) (by decide) (by decide) rfl rfl rfl (by decide +kernel) (fun _ => rfl) (fun _ => rfl) ?_
  rw [bf_u_w]
  have hCl6 : bf_Cl (o + 4) (bf_w Rf o (va_up (va_up (va_up (fun _ => none) 1 (some (o + 1))) 2 (some (o + 2))) 3 (some (o + 3)))) := by have h := bf_Cl_u (o := o) (i := 3) (t := o + 3) hCl5 (by omega); rw [bf_u_w] at h; exact h
  clear hCl5
  refine bf_aload_n 1 dX5_init_31 rfl rfl ?_
  refine bf_iconst (v := 0) dX5_init_32 (by decide) ?_
  refine bf_xputI (i := 0) (ty := .int) tyX5 dX5_init_33 wf_X5_27 (by omega) hk (by decide) rfl in_X5 tyX5_ok nmX5 (by decide) (by decide) (by decide) rfl (by decide +kernel) rfl rfl ?_
  rw [bf_u_w]
  have eI : bf_w I o (va_up (fun _ => 0) 0 (0)) = I := bf_wS (by rw [(hp o (by omega) (by omega)).1]; exact ri_5 hk)
  have eR : bf_w Rf o (va_up (va_up (va_up (fun _ => none) 1 (some (o + 1))) 2 (some (o + 2))) 3 (some (o + 3))) = Rf := bf_wS (by rw [(hp o (by omega) (by omega)).2.2]; exact rr_5 hk)
  rw [eI, eR]
  rw [eR] at hCl6
  exact bf_vret dX5_init_36 rfl (Nat.le_of_ble_eq_true rfl) (Nat.le_of_ble_eq_true rfl) ⟨rfl, _, hag5, rfl, hCl6⟩
set_option maxRecDepth 100000 in
set_option maxHeartbeats 40000000 in
theorem okx_X3_init {Γ : bf_Gm} {o : Nat} {ad0 : Nat → Nat} {I : Nat → Nat → Int32} {L : Nat → Nat → Int64} {Rf : Nat → Nat → Option Nat} (hk : bf_kd o = 3) (hp : bf_Fu o 25 I L Rf) (hCl : bf_Cl (o + 1) (bf_w Rf o (fun _ => none))) : bf_Cn Γ 2 mu_X3_init 24 888 [.ref (ad0 o)] (o + 1, ad0, bf_w I o (fun _ => 0), L, bf_w Rf o (fun _ => none)) (bf_Qx (o + 1) ad0 (o + 25) I L Rf) := by
  refine bf_met rfl (Nat.le_of_ble_eq_true rfl) ?_
  have hag : ∀ i, i < o + 1 → ad0 i = ad0 i := fun _ _ => rfl
  refine bf_aload_n 0 dX3_init_0 rfl rfl ?_
  refine bf_xobj dX3_init_1 wl_X3_3 wm_Jobj wc_Jobj (Nat.le_of_ble_eq_true rfl) (Nat.le_of_ble_eq_true rfl) ?_
  refine bf_aload_n 0 dX3_init_4 rfl rfl ?_
  refine bf_bipush (v := 6) dX3_init_5 (by decide) ?_
  refine bf_xnewQ (n := o + 1) (lvf := (fun ad => [(0, .ref (ad o))])) (stf := (fun ad => [.ref (ad o)])) (t0 := 3) (cc := 16) (N := 6) dX3_init_7 wq_X3_9 (fun _ h => h.2.2.1) rfl (by decide) (by decide) (by decide) (kx_3_1 hk) (by decide) (lx_3_1 hk) (Nat.le_of_ble_eq_true rfl) (Nat.le_of_ble_eq_true rfl) hCl (fun ad2 h => ⟨by simp only [h o (by omega)], by simp only [h o (by omega)]⟩) ?_
  intro ad1 hA1 hCl1
  refine bf_widen (k2 := (1, 6)) (Nat.le_of_ble_eq_true rfl) (Nat.le_of_ble_eq_true rfl) ?_
  have hag1 : ∀ i, i < o + 1 → ad1 i = ad0 i := fun i hi => (hA1 i (by omega)).trans (hag i hi)
  clear hA1
  refine bf_xputR (i := 0) (ty := tyX3 0) (t := o + 1) tyX3 dX3_init_10 wf_X3_11 (by omega) hk (by decide) rfl in_X3 tyX3_ok nmX3 (by decide) (by decide) (by decide) rfl rfl rfl (by decide +kernel) (fun _ => rfl) (fun _ => rfl) ?_
  rw [bf_u_w2 (by omega)]
  have hCl2 : bf_Cl (o + 2) (bf_w (bf_w Rf o (va_up (fun _ => none) 0 (some (o + 1)))) (o + 1) (fun _ => none)) := by have h := bf_Cl_u (o := o) (i := 0) (t := o + 1) hCl1 (by omega); rw [bf_u_w2 (by omega)] at h; exact h
  clear hCl1
  refine bf_iconst (v := 0) dX3_init_13 (by decide) ?_
  refine bf_istore_n (lv2 := [(1, .int _), (0, .ref _)]) dX3_init_14 rfl (by decide) rfl ?_
  refine bf_iload_n 0 dX3_init_15 rfl rfl ?_
  refine bf_bipush (v := 6) dX3_init_16 (by decide) ?_
  refine bf_icmp_ge 40 dX3_init_18 (by decide) (fun q => absurd q (by decide)) (fun _ => ?_)
  refine bf_aload_n 1 dX3_init_21 rfl rfl ?_
  refine bf_xgetR (i := 0) (t := o + 1) dX3_init_22 wf_X3_11 (by omega) hk (by decide) rfl in_X3 (by decide) (by decide) (by decide) (by rw [bf_w_ne (show o ≠ o + 1 by omega), bf_w_o]; rfl) ?_
  refine bf_iload_n 0 dX3_init_25 rfl rfl ?_
  refine bf_xnew (n := o + 2) (lvf := (fun ad => [(1, .int (0)), (0, .ref (ad o))])) (stf := (fun ad => [.int (0), .ref (ad (o + 1))])) tyX0 dX3_init_26 wq_X3_9 wj_X0 wi_X0 in_X0 tyX0_ok rfl (kx_3_2 hk) (by decide) (by decide) dv_0 (Nat.le_of_ble_eq_true rfl) (Nat.le_of_ble_eq_true rfl) hCl2 (fun ad2 h => ⟨by simp only [h o (by omega)], by simp only [h (o + 1) (by omega)]⟩) ?_
  intro ad3 hA3 hCl3
  refine bf_widen (k2 := (2, 9)) (Nat.le_of_ble_eq_true rfl) (Nat.le_of_ble_eq_true rfl) ?_
  have hag3 : ∀ i, i < o + 1 → ad3 i = ad0 i := fun i hi => (hA3 i (by omega)).trans (hag1 i hi)
  clear hag1
  clear hCl2
  clear hA3
  refine bf_dup dX3_init_29 rfl ?_
  refine bf_xcall (n2 := o + 3) (d := 1) (mc := 0) (ms := 0) (ν := mu_X0_init) (o := (o + 2)) (As := []) (I2 := (bf_w I o (fun _ => 0))) (L2 := L) (R2 := (bf_w (bf_w Rf o (va_up (fun _ => none) 0 (some (o + 1)))) (o + 1) (fun _ => none))) (lvf := (fun ad => [(1, .int (0)), (0, .ref (ad o))])) (stf := (fun ad => [.ref (ad (o + 2)), .int (0), .ref (ad (o + 1))])) dX3_init_30 rfl rfl wl_X3_17 wm_X0_init wi_X0 wc_X0_init rfl wx_X0_init ⟨(Nat.le_of_ble_eq_true rfl), (Nat.le_of_ble_eq_true rfl)⟩ ⟨(Nat.le_of_ble_eq_true rfl), (Nat.le_of_ble_eq_true rfl)⟩ (Nat.le_of_ble_eq_true rfl) (fun ad2 h => ⟨by simp only [h o (by omega)], by simp only [h (o + 1) (by omega), h (o + 2) (by omega)]⟩) (okx_X0_init (kx_3_2 hk) (fun p h1 h2 => ⟨by rw [bf_w_ne (show p ≠ o by omega)]; exact (hp p (by omega) (by omega)).1, (hp p (by omega) (by omega)).2.1, by rw [bf_w_ne (show p ≠ o + 1 by omega), bf_w_ne (show p ≠ o by omega)]; exact (hp p (by omega) (by omega)).2.2⟩) hCl3) ?_
  intro ad4 hA4 hCl4
  refine bf_widen (k2 := (2, 9)) (Nat.le_of_ble_eq_true rfl) (Nat.le_of_ble_eq_true rfl) ?_
  have hag4 : ∀ i, i < o + 1 → ad4 i = ad0 i := fun i hi => (hA4 i (by omega)).trans (hag3 i hi)
  clear hag3
  clear hCl3
  clear hA4
  refine bf_xast (a := o + 1) (t := o + 2) (t0 := 3) (cc := 16) (ci := 0) dX3_init_33 (by omega) (by omega) (kx_3_1 hk) (by decide) (kx_3_2 hk) (by decide) rfl rfl (by rw [(lx_3_1 hk)]; decide) ?_
  rw [show (((0) : Int32).toNatClampNeg) = 0 from by decide, bf_u_w]
  have hCl5 : bf_Cl (o + 3) (bf_w (bf_w Rf o (va_up (fun _ => none) 0 (some (o + 1)))) (o + 1) (va_up (fun _ => none) 0 (some (o + 2)))) := by have h := bf_Cl_u (o := o + 1) (i := 0) (t := o + 2) hCl4 (by omega); rw [bf_u_w] at h; exact h
  clear hCl4
  refine bf_iinc 0 (v := 1) (lv2 := [(1, .int _), (0, .ref _)]) dX3_init_34 rfl (by decide) (by decide) rfl ?_
  refine bf_goto 15 dX3_init_37 (by decide) ?_
  refine bf_iload_n 0 dX3_init_15 rfl rfl ?_
  refine bf_bipush (v := 6) dX3_init_16 (by decide) ?_
  refine bf_icmp_ge 40 dX3_init_18 (by decide) (fun q => absurd q (by decide)) (fun _ => ?_)
  refine bf_aload_n 1 dX3_init_21 rfl rfl ?_
  refine bf_xgetR (i := 0) (t := o + 1) dX3_init_22 wf_X3_11 (by omega) hk (by decide) rfl in_X3 (by decide) (by decide) (by decide) (by rw [bf_w_ne (show o ≠ o + 1 by omega), bf_w_o]; rfl) ?_
  refine bf_iload_n 0 dX3_init_25 rfl rfl ?_
  refine bf_xnew (n := o + 3) (lvf := (fun ad => [(1, .int (1)), (0, .ref (ad o))])) (stf := (fun ad => [.int (1), .ref (ad (o + 1))])) tyX0 dX3_init_26 wq_X3_9 wj_X0 wi_X0 in_X0 tyX0_ok rfl (kx_3_3 hk) (by decide) (by decide) dv_0 (Nat.le_of_ble_eq_true rfl) (Nat.le_of_ble_eq_true rfl) hCl5 (fun ad2 h => ⟨by simp only [h o (by omega)], by simp only [h (o + 1) (by omega)]⟩) ?_
  intro ad6 hA6 hCl6
  refine bf_widen (k2 := (3, 12)) (Nat.le_of_ble_eq_true rfl) (Nat.le_of_ble_eq_true rfl) ?_
  have hag6 : ∀ i, i < o + 1 → ad6 i = ad0 i := fun i hi => (hA6 i (by omega)).trans (hag4 i hi)
  clear hag4
  clear hCl5
  clear hA6
  refine bf_dup dX3_init_29 rfl ?_
  refine bf_xcall (n2 := o + 4) (d := 1) (mc := 0) (ms := 0) (ν := mu_X0_init) (o := (o + 3)) (As := []) (I2 := (bf_w I o (fun _ => 0))) (L2 := L) (R2 := (bf_w (bf_w Rf o (va_up (fun _ => none) 0 (some (o + 1)))) (o + 1) (va_up (fun _ => none) 0 (some (o + 2))))) (lvf := (fun ad => [(1, .int (1)), (0, .ref (ad o))])) (stf := (fun ad => [.ref (ad (o + 3)), .int (1), .ref (ad (o + 1))])) dX3_init_30 rfl rfl wl_X3_17 wm_X0_init wi_X0 wc_X0_init rfl wx_X0_init ⟨(Nat.le_of_ble_eq_true rfl), (Nat.le_of_ble_eq_true rfl)⟩ ⟨(Nat.le_of_ble_eq_true rfl), (Nat.le_of_ble_eq_true rfl)⟩ (Nat.le_of_ble_eq_true rfl) (fun ad2 h => ⟨by simp only [h o (by omega)], by simp only [h (o + 1) (by omega), h (o + 3) (by omega)]⟩) (okx_X0_init (kx_3_3 hk) (fun p h1 h2 => ⟨by rw [bf_w_ne (show p ≠ o by omega)]; exact (hp p (by omega) (by omega)).1, (hp p (by omega) (by omega)).2.1, by rw [bf_w_ne (show p ≠ o + 1 by omega), bf_w_ne (show p ≠ o by omega)]; exact (hp p (by omega) (by omega)).2.2⟩) hCl6) ?_
  intro ad7 hA7 hCl7
  refine bf_widen (k2 := (3, 12)) (Nat.le_of_ble_eq_true rfl) (Nat.le_of_ble_eq_true rfl) ?_
  have hag7 : ∀ i, i < o + 1 → ad7 i = ad0 i := fun i hi => (hA7 i (by omega)).trans (hag6 i hi)
  clear hag6
  clear hCl6
  clear hA7
  refine bf_xast (a := o + 1) (t := o + 3) (t0 := 3) (cc := 16) (ci := 0) dX3_init_33 (by omega) (by omega) (kx_3_1 hk) (by decide) (kx_3_3 hk) (by decide) rfl rfl (by rw [(lx_3_1 hk)]; decide) ?_
  rw [show (((1) : Int32).toNatClampNeg) = 1 from by decide, bf_u_w]
  have hCl8 : bf_Cl (o + 4) (bf_w (bf_w Rf o (va_up (fun _ => none) 0 (some (o + 1)))) (o + 1) (va_up (va_up (fun _ => none) 0 (some (o + 2))) 1 (some (o + 3)))) := by have h := bf_Cl_u (o := o + 1) (i := 1) (t := o + 3) hCl7 (by omega); rw [bf_u_w] at h; exact h
  clear hCl7
  refine bf_iinc 0 (v := 2) (lv2 := [(1, .int _), (0, .ref _)]) dX3_init_34 rfl (by decide) (by decide) rfl ?_
  refine bf_goto 15 dX3_init_37 (by decide) ?_
  refine bf_iload_n 0 dX3_init_15 rfl rfl ?_
  refine bf_bipush (v := 6) dX3_init_16 (by decide) ?_
  refine bf_icmp_ge 40 dX3_init_18 (by decide) (fun q => absurd q (by decide)) (fun _ => ?_)
  refine bf_aload_n 1 dX3_init_21 rfl rfl ?_
  refine bf_xgetR (i := 0) (t := o + 1) dX3_init_22 wf_X3_11 (by omega) hk (by decide) rfl in_X3 (by decide) (by decide) (by decide) (by rw [bf_w_ne (show o ≠ o + 1 by omega), bf_w_o]; rfl) ?_
  refine bf_iload_n 0 dX3_init_25 rfl rfl ?_
  refine bf_xnew (n := o + 4) (lvf := (fun ad => [(1, .int (2)), (0, .ref (ad o))])) (stf := (fun ad => [.int (2), .ref (ad (o + 1))])) tyX0 dX3_init_26 wq_X3_9 wj_X0 wi_X0 in_X0 tyX0_ok rfl (kx_3_4 hk) (by decide) (by decide) dv_0 (Nat.le_of_ble_eq_true rfl) (Nat.le_of_ble_eq_true rfl) hCl8 (fun ad2 h => ⟨by simp only [h o (by omega)], by simp only [h (o + 1) (by omega)]⟩) ?_
  intro ad9 hA9 hCl9
  refine bf_widen (k2 := (4, 15)) (Nat.le_of_ble_eq_true rfl) (Nat.le_of_ble_eq_true rfl) ?_
  have hag9 : ∀ i, i < o + 1 → ad9 i = ad0 i := fun i hi => (hA9 i (by omega)).trans (hag7 i hi)
  clear hag7
  clear hCl8
  clear hA9
  refine bf_dup dX3_init_29 rfl ?_
  refine bf_xcall (n2 := o + 5) (d := 1) (mc := 0) (ms := 0) (ν := mu_X0_init) (o := (o + 4)) (As := []) (I2 := (bf_w I o (fun _ => 0))) (L2 := L) (R2 := (bf_w (bf_w Rf o (va_up (fun _ => none) 0 (some (o + 1)))) (o + 1) (va_up (va_up (fun _ => none) 0 (some (o + 2))) 1 (some (o + 3))))) (lvf := (fun ad => [(1, .int (2)), (0, .ref (ad o))])) (stf := (fun ad => [.ref (ad (o + 4)), .int (2), .ref (ad (o + 1))])) dX3_init_30 rfl rfl wl_X3_17 wm_X0_init wi_X0 wc_X0_init rfl wx_X0_init ⟨(Nat.le_of_ble_eq_true rfl), (Nat.le_of_ble_eq_true rfl)⟩ ⟨(Nat.le_of_ble_eq_true rfl), (Nat.le_of_ble_eq_true rfl)⟩ (Nat.le_of_ble_eq_true rfl) (fun ad2 h => ⟨by simp only [h o (by omega)], by simp only [h (o + 1) (by omega), h (o + 4) (by omega)]⟩) (okx_X0_init (kx_3_4 hk) (fun p h1 h2 => ⟨by rw [bf_w_ne (show p ≠ o by omega)]; exact (hp p (by omega) (by omega)).1, (hp p (by omega) (by omega)).2.1, by rw [bf_w_ne (show p ≠ o + 1 by omega), bf_w_ne (show p ≠ o by omega)]; exact (hp p (by omega) (by omega)).2.2⟩) hCl9) ?_
  intro ad10 hA10 hCl10
  refine bf_widen (k2 := (4, 15)) (Nat.le_of_ble_eq_true rfl) (Nat.le_of_ble_eq_true rfl) ?_
  have hag10 : ∀ i, i < o + 1 → ad10 i = ad0 i := fun i hi => (hA10 i (by omega)).trans (hag9 i hi)
  clear hag9
  clear hCl9
  clear hA10
  refine bf_xast (a := o + 1) (t := o + 4) (t0 := 3) (cc := 16) (ci := 0) dX3_init_33 (by omega) (by omega) (kx_3_1 hk) (by decide) (kx_3_4 hk) (by decide) rfl rfl (by rw [(lx_3_1 hk)]; decide) ?_
  rw [show (((2) : Int32).toNatClampNeg) = 2 from by decide, bf_u_w]
  have hCl11 : bf_Cl (o + 5) (bf_w (bf_w Rf o (va_up (fun _ => none) 0 (some (o + 1)))) (o + 1) (va_up (va_up (va_up (fun _ => none) 0 (some (o + 2))) 1 (some (o + 3))) 2 (some (o + 4)))) := by have h := bf_Cl_u (o := o + 1) (i := 2) (t := o + 4) hCl10 (by omega); rw [bf_u_w] at h; exact h
  clear hCl10
  refine bf_iinc 0 (v := 3) (lv2 := [(1, .int _), (0, .ref _)]) dX3_init_34 rfl (by decide) (by decide) rfl ?_
  refine bf_goto 15 dX3_init_37 (by decide) ?_
  refine bf_iload_n 0 dX3_init_15 rfl rfl ?_
  refine bf_bipush (v := 6) dX3_init_16 (by decide) ?_
  refine bf_icmp_ge 40 dX3_init_18 (by decide) (fun q => absurd q (by decide)) (fun _ => ?_)
  refine bf_aload_n 1 dX3_init_21 rfl rfl ?_
  refine bf_xgetR (i := 0) (t := o + 1) dX3_init_22 wf_X3_11 (by omega) hk (by decide) rfl in_X3 (by decide) (by decide) (by decide) (by rw [bf_w_ne (show o ≠ o + 1 by omega), bf_w_o]; rfl) ?_
  refine bf_iload_n 0 dX3_init_25 rfl rfl ?_
  refine bf_xnew (n := o + 5) (lvf := (fun ad => [(1, .int (3)), (0, .ref (ad o))])) (stf := (fun ad => [.int (3), .ref (ad (o + 1))])) tyX0 dX3_init_26 wq_X3_9 wj_X0 wi_X0 in_X0 tyX0_ok rfl (kx_3_5 hk) (by decide) (by decide) dv_0 (Nat.le_of_ble_eq_true rfl) (Nat.le_of_ble_eq_true rfl) hCl11 (fun ad2 h => ⟨by simp only [h o (by omega)], by simp only [h (o + 1) (by omega)]⟩) ?_
  intro ad12 hA12 hCl12
  refine bf_widen (k2 := (5, 18)) (Nat.le_of_ble_eq_true rfl) (Nat.le_of_ble_eq_true rfl) ?_
  have hag12 : ∀ i, i < o + 1 → ad12 i = ad0 i := fun i hi => (hA12 i (by omega)).trans (hag10 i hi)
  clear hag10
  clear hCl11
  clear hA12
  refine bf_dup dX3_init_29 rfl ?_
  refine bf_xcall (n2 := o + 6) (d := 1) (mc := 0) (ms := 0) (ν := mu_X0_init) (o := (o + 5)) (As := []) (I2 := (bf_w I o (fun _ => 0))) (L2 := L) (R2 := (bf_w (bf_w Rf o (va_up (fun _ => none) 0 (some (o + 1)))) (o + 1) (va_up (va_up (va_up (fun _ => none) 0 (some (o + 2))) 1 (some (o + 3))) 2 (some (o + 4))))) (lvf := (fun ad => [(1, .int (3)), (0, .ref (ad o))])) (stf := (fun ad => [.ref (ad (o + 5)), .int (3), .ref (ad (o + 1))])) dX3_init_30 rfl rfl wl_X3_17 wm_X0_init wi_X0 wc_X0_init rfl wx_X0_init ⟨(Nat.le_of_ble_eq_true rfl), (Nat.le_of_ble_eq_true rfl)⟩ ⟨(Nat.le_of_ble_eq_true rfl), (Nat.le_of_ble_eq_true rfl)⟩ (Nat.le_of_ble_eq_true rfl) (fun ad2 h => ⟨by simp only [h o (by omega)], by simp only [h (o + 1) (by omega), h (o + 5) (by omega)]⟩) (okx_X0_init (kx_3_5 hk) (fun p h1 h2 => ⟨by rw [bf_w_ne (show p ≠ o by omega)]; exact (hp p (by omega) (by omega)).1, (hp p (by omega) (by omega)).2.1, by rw [bf_w_ne (show p ≠ o + 1 by omega), bf_w_ne (show p ≠ o by omega)]; exact (hp p (by omega) (by omega)).2.2⟩) hCl12) ?_
  intro ad13 hA13 hCl13
  refine bf_widen (k2 := (5, 18)) (Nat.le_of_ble_eq_true rfl) (Nat.le_of_ble_eq_true rfl) ?_
  have hag13 : ∀ i, i < o + 1 → ad13 i = ad0 i := fun i hi => (hA13 i (by omega)).trans (hag12 i hi)
  clear hag12
  clear hCl12
  clear hA13
  refine bf_xast (a := o + 1) (t := o + 5) (t0 := 3) (cc := 16) (ci := 0) dX3_init_33 (by omega) (by omega) (kx_3_1 hk) (by decide) (kx_3_5 hk) (by decide) rfl rfl (by rw [(lx_3_1 hk)]; decide) ?_
  rw [show (((3) : Int32).toNatClampNeg) = 3 from by decide, bf_u_w]
  have hCl14 : bf_Cl (o + 6) (bf_w (bf_w Rf o (va_up (fun _ => none) 0 (some (o + 1)))) (o + 1) (va_up (va_up (va_up (va_up (fun _ => none) 0 (some (o + 2))) 1 (some (o + 3))) 2 (some (o + 4))) 3 (some (o + 5)))) := by have h := bf_Cl_u (o := o + 1) (i := 3) (t := o + 5) hCl13 (by omega); rw [bf_u_w] at h; exact h
  clear hCl13
  refine bf_iinc 0 (v := 4) (lv2 := [(1, .int _), (0, .ref _)]) dX3_init_34 rfl (by decide) (by decide) rfl ?_
  refine bf_goto 15 dX3_init_37 (by decide) ?_
  refine bf_iload_n 0 dX3_init_15 rfl rfl ?_
  refine bf_bipush (v := 6) dX3_init_16 (by decide) ?_
  refine bf_icmp_ge 40 dX3_init_18 (by decide) (fun q => absurd q (by decide)) (fun _ => ?_)
  refine bf_aload_n 1 dX3_init_21 rfl rfl ?_
  refine bf_xgetR (i := 0) (t := o + 1) dX3_init_22 wf_X3_11 (by omega) hk (by decide) rfl in_X3 (by decide) (by decide) (by decide) (by rw [bf_w_ne (show o ≠ o + 1 by omega), bf_w_o]; rfl) ?_
  refine bf_iload_n 0 dX3_init_25 rfl rfl ?_
  refine bf_xnew (n := o + 6) (lvf := (fun ad => [(1, .int (4)), (0, .ref (ad o))])) (stf := (fun ad => [.int (4), .ref (ad (o + 1))])) tyX0 dX3_init_26 wq_X3_9 wj_X0 wi_X0 in_X0 tyX0_ok rfl (kx_3_6 hk) (by decide) (by decide) dv_0 (Nat.le_of_ble_eq_true rfl) (Nat.le_of_ble_eq_true rfl) hCl14 (fun ad2 h => ⟨by simp only [h o (by omega)], by simp only [h (o + 1) (by omega)]⟩) ?_
  intro ad15 hA15 hCl15
  refine bf_widen (k2 := (6, 21)) (Nat.le_of_ble_eq_true rfl) (Nat.le_of_ble_eq_true rfl) ?_
  have hag15 : ∀ i, i < o + 1 → ad15 i = ad0 i := fun i hi => (hA15 i (by omega)).trans (hag13 i hi)
  clear hag13
  clear hCl14
  clear hA15
  refine bf_dup dX3_init_29 rfl ?_
  refine bf_xcall (n2 := o + 7) (d := 1) (mc := 0) (ms := 0) (ν := mu_X0_init) (o := (o + 6)) (As := []) (I2 := (bf_w I o (fun _ => 0))) (L2 := L) (R2 := (bf_w (bf_w Rf o (va_up (fun _ => none) 0 (some (o + 1)))) (o + 1) (va_up (va_up (va_up (va_up (fun _ => none) 0 (some (o + 2))) 1 (some (o + 3))) 2 (some (o + 4))) 3 (some (o + 5))))) (lvf := (fun ad => [(1, .int (4)), (0, .ref (ad o))])) (stf := (fun ad => [.ref (ad (o + 6)), .int (4), .ref (ad (o + 1))])) dX3_init_30 rfl rfl wl_X3_17 wm_X0_init wi_X0 wc_X0_init rfl wx_X0_init ⟨(Nat.le_of_ble_eq_true rfl), (Nat.le_of_ble_eq_true rfl)⟩ ⟨(Nat.le_of_ble_eq_true rfl), (Nat.le_of_ble_eq_true rfl)⟩ (Nat.le_of_ble_eq_true rfl) (fun ad2 h => ⟨by simp only [h o (by omega)], by simp only [h (o + 1) (by omega), h (o + 6) (by omega)]⟩) (okx_X0_init (kx_3_6 hk) (fun p h1 h2 => ⟨by rw [bf_w_ne (show p ≠ o by omega)]; exact (hp p (by omega) (by omega)).1, (hp p (by omega) (by omega)).2.1, by rw [bf_w_ne (show p ≠ o + 1 by omega), bf_w_ne (show p ≠ o by omega)]; exact (hp p (by omega) (by omega)).2.2⟩) hCl15) ?_
  intro ad16 hA16 hCl16
  refine bf_widen (k2 := (6, 21)) (Nat.le_of_ble_eq_true rfl) (Nat.le_of_ble_eq_true rfl) ?_
  have hag16 : ∀ i, i < o + 1 → ad16 i = ad0 i := fun i hi => (hA16 i (by omega)).trans (hag15 i hi)
  clear hag15
  clear hCl15
  clear hA16
  refine bf_xast (a := o + 1) (t := o + 6) (t0 := 3) (cc := 16) (ci := 0) dX3_init_33 (by omega) (by omega) (kx_3_1 hk) (by decide) (kx_3_6 hk) (by decide) rfl rfl (by rw [(lx_3_1 hk)]; decide) ?_
  rw [show (((4) : Int32).toNatClampNeg) = 4 from by decide, bf_u_w]
  have hCl17 : bf_Cl (o + 7) (bf_w (bf_w Rf o (va_up (fun _ => none) 0 (some (o + 1)))) (o + 1) (va_up (va_up (va_up (va_up (va_up (fun _ => none) 0 (some (o + 2))) 1 (some (o + 3))) 2 (some (o + 4))) 3 (some (o + 5))) 4 (some (o + 6)))) := by have h := bf_Cl_u (o := o + 1) (i := 4) (t := o + 6) hCl16 (by omega); rw [bf_u_w] at h; exact h
  clear hCl16
  refine bf_iinc 0 (v := 5) (lv2 := [(1, .int _), (0, .ref _)]) dX3_init_34 rfl (by decide) (by decide) rfl ?_
  refine bf_goto 15 dX3_init_37 (by decide) ?_
  refine bf_iload_n 0 dX3_init_15 rfl rfl ?_
  refine bf_bipush (v := 6) dX3_init_16 (by decide) ?_
  refine bf_icmp_ge 40 dX3_init_18 (by decide) (fun q => absurd q (by decide)) (fun _ => ?_)
  refine bf_aload_n 1 dX3_init_21 rfl rfl ?_
  refine bf_xgetR (i := 0) (t := o + 1) dX3_init_22 wf_X3_11 (by omega) hk (by decide) rfl in_X3 (by decide) (by decide) (by decide) (by rw [bf_w_ne (show o ≠ o + 1 by omega), bf_w_o]; rfl) ?_
  refine bf_iload_n 0 dX3_init_25 rfl rfl ?_
  refine bf_xnew (n := o + 7) (lvf := (fun ad => [(1, .int (5)), (0, .ref (ad o))])) (stf := (fun ad => [.int (5), .ref (ad (o + 1))])) tyX0 dX3_init_26 wq_X3_9 wj_X0 wi_X0 in_X0 tyX0_ok rfl (kx_3_7 hk) (by decide) (by decide) dv_0 (Nat.le_of_ble_eq_true rfl) (Nat.le_of_ble_eq_true rfl) hCl17 (fun ad2 h => ⟨by simp only [h o (by omega)], by simp only [h (o + 1) (by omega)]⟩) ?_
  intro ad18 hA18 hCl18
  refine bf_widen (k2 := (7, 24)) (Nat.le_of_ble_eq_true rfl) (Nat.le_of_ble_eq_true rfl) ?_
  have hag18 : ∀ i, i < o + 1 → ad18 i = ad0 i := fun i hi => (hA18 i (by omega)).trans (hag16 i hi)
  clear hag16
  clear hCl17
  clear hA18
  refine bf_dup dX3_init_29 rfl ?_
  refine bf_xcall (n2 := o + 8) (d := 1) (mc := 0) (ms := 0) (ν := mu_X0_init) (o := (o + 7)) (As := []) (I2 := (bf_w I o (fun _ => 0))) (L2 := L) (R2 := (bf_w (bf_w Rf o (va_up (fun _ => none) 0 (some (o + 1)))) (o + 1) (va_up (va_up (va_up (va_up (va_up (fun _ => none) 0 (some (o + 2))) 1 (some (o + 3))) 2 (some (o + 4))) 3 (some (o + 5))) 4 (some (o + 6))))) (lvf := (fun ad => [(1, .int (5)), (0, .ref (ad o))])) (stf := (fun ad => [.ref (ad (o + 7)), .int (5), .ref (ad (o + 1))])) dX3_init_30 rfl rfl wl_X3_17 wm_X0_init wi_X0 wc_X0_init rfl wx_X0_init ⟨(Nat.le_of_ble_eq_true rfl), (Nat.le_of_ble_eq_true rfl)⟩ ⟨(Nat.le_of_ble_eq_true rfl), (Nat.le_of_ble_eq_true rfl)⟩ (Nat.le_of_ble_eq_true rfl) (fun ad2 h => ⟨by simp only [h o (by omega)], by simp only [h (o + 1) (by omega), h (o + 7) (by omega)]⟩) (okx_X0_init (kx_3_7 hk) (fun p h1 h2 => ⟨by rw [bf_w_ne (show p ≠ o by omega)]; exact (hp p (by omega) (by omega)).1, (hp p (by omega) (by omega)).2.1, by rw [bf_w_ne (show p ≠ o + 1 by omega), bf_w_ne (show p ≠ o by omega)]; exact (hp p (by omega) (by omega)).2.2⟩) hCl18) ?_
  intro ad19 hA19 hCl19
  refine bf_widen (k2 := (7, 24)) (Nat.le_of_ble_eq_true rfl) (Nat.le_of_ble_eq_true rfl) ?_
  have hag19 : ∀ i, i < o + 1 → ad19 i = ad0 i := fun i hi => (hA19 i (by omega)).trans (hag18 i hi)
  clear hag18
  clear hCl18
  clear hA19
  refine bf_xast (a := o + 1) (t := o + 7) (t0 := 3) (cc := 16) (ci := 0) dX3_init_33 (by omega) (by omega) (kx_3_1 hk) (by decide) (kx_3_7 hk) (by decide) rfl rfl (by rw [(lx_3_1 hk)]; decide) ?_
  rw [show (((5) : Int32).toNatClampNeg) = 5 from by decide, bf_u_w]
  have hCl20 : bf_Cl (o + 8) (bf_w (bf_w Rf o (va_up (fun _ => none) 0 (some (o + 1)))) (o + 1) (va_up (va_up (va_up (va_up (va_up (va_up (fun _ => none) 0 (some (o + 2))) 1 (some (o + 3))) 2 (some (o + 4))) 3 (some (o + 5))) 4 (some (o + 6))) 5 (some (o + 7)))) := by have h := bf_Cl_u (o := o + 1) (i := 5) (t := o + 7) hCl19 (by omega); rw [bf_u_w] at h; exact h
  clear hCl19
  refine bf_iinc 0 (v := 6) (lv2 := [(1, .int _), (0, .ref _)]) dX3_init_34 rfl (by decide) (by decide) rfl ?_
  refine bf_goto 15 dX3_init_37 (by decide) ?_
  refine bf_iload_n 0 dX3_init_15 rfl rfl ?_
  refine bf_bipush (v := 6) dX3_init_16 (by decide) ?_
  refine bf_icmp_ge 40 dX3_init_18 (by decide) (fun _ => ?_) (fun q => absurd q (by decide))
  refine bf_aload_n 1 dX3_init_40 rfl rfl ?_
  refine bf_bipush (v := 8) dX3_init_41 (by decide) ?_
  have eA1 : bf_w (bf_w Rf o (va_up (fun _ => none) 0 (some (o + 1)))) (o + 1) (va_up (va_up (va_up (va_up (va_up (va_up (fun _ => none) 0 (some (o + 2))) 1 (some (o + 3))) 2 (some (o + 4))) 3 (some (o + 5))) 4 (some (o + 6))) 5 (some (o + 7))) = bf_w Rf o (va_up (fun _ => none) 0 (some (o + 1))) := bf_wS (by rw [bf_w_ne (show o + 1 ≠ o by omega), (hp (o + 1) (by omega) (by omega)).2.2]; exact rq_3_1 hk)
  rw [eA1] at hCl20 ⊢
  refine bf_xnewQ (n := o + 8) (lvf := (fun ad => [(1, .int (6)), (0, .ref (ad o))])) (stf := (fun ad => [.ref (ad o)])) (t0 := 6) (cc := 19) (N := 8) dX3_init_43 wq_X3_18 (fun _ h => h.2.2.2.2.2.1) rfl (by decide) (by decide) (by decide) (kx_3_8 hk) (by decide) (lx_3_8 hk) (Nat.le_of_ble_eq_true rfl) (Nat.le_of_ble_eq_true rfl) hCl20 (fun ad2 h => ⟨by simp only [h o (by omega)], by simp only [h o (by omega)]⟩) ?_
  intro ad21 hA21 hCl21
  refine bf_widen (k2 := (8, 32)) (Nat.le_of_ble_eq_true rfl) (Nat.le_of_ble_eq_true rfl) ?_
  have hag21 : ∀ i, i < o + 1 → ad21 i = ad0 i := fun i hi => (hA21 i (by omega)).trans (hag19 i hi)
  clear hag19
  clear hCl20
  clear hA21
  refine bf_xputR (i := 1) (ty := tyX3 1) (t := o + 8) tyX3 dX3_init_46 wf_X3_20 (by omega) hk (by decide) rfl in_X3 tyX3_ok nmX3 (by decide) (by decide) (by decide) rfl rfl rfl (by decide +kernel) (fun _ => rfl) (fun _ => rfl) ?_
  rw [bf_u_w2 (by omega)]
  have hCl22 : bf_Cl (o + 9) (bf_w (bf_w Rf o (va_up (va_up (fun _ => none) 0 (some (o + 1))) 1 (some (o + 8)))) (o + 8) (fun _ => none)) := by have h := bf_Cl_u (o := o) (i := 1) (t := o + 8) hCl21 (by omega); rw [bf_u_w2 (by omega)] at h; exact h
  clear hCl21
  refine bf_iconst (v := 0) dX3_init_49 (by decide) ?_
  refine bf_istore_n (lv2 := [(1, .int _), (0, .ref _)]) dX3_init_50 rfl (by decide) rfl ?_
  refine bf_iload_n 0 dX3_init_51 rfl rfl ?_
  refine bf_bipush (v := 8) dX3_init_52 (by decide) ?_
  refine bf_icmp_ge 76 dX3_init_54 (by decide) (fun q => absurd q (by decide)) (fun _ => ?_)
  refine bf_aload_n 1 dX3_init_57 rfl rfl ?_
  refine bf_xgetR (i := 1) (t := o + 8) dX3_init_58 wf_X3_20 (by omega) hk (by decide) rfl in_X3 (by decide) (by decide) (by decide) (by rw [bf_w_ne (show o ≠ o + 8 by omega), bf_w_o]; rfl) ?_
  refine bf_iload_n 0 dX3_init_61 rfl rfl ?_
  refine bf_xnew (n := o + 9) (lvf := (fun ad => [(1, .int (0)), (0, .ref (ad o))])) (stf := (fun ad => [.int (0), .ref (ad (o + 8))])) tyX10 dX3_init_62 wq_X3_18 wj_X10 wi_X10 in_X10 tyX10_ok rfl (kx_3_9 hk) (by decide) (by decide) dv_10 (Nat.le_of_ble_eq_true rfl) (Nat.le_of_ble_eq_true rfl) hCl22 (fun ad2 h => ⟨by simp only [h o (by omega)], by simp only [h (o + 8) (by omega)]⟩) ?_
  intro ad23 hA23 hCl23
  refine bf_widen (k2 := (9, 40)) (Nat.le_of_ble_eq_true rfl) (Nat.le_of_ble_eq_true rfl) ?_
  have hag23 : ∀ i, i < o + 1 → ad23 i = ad0 i := fun i hi => (hA23 i (by omega)).trans (hag21 i hi)
  clear hag21
  clear hCl22
  clear hA23
  refine bf_dup dX3_init_65 rfl ?_
  refine bf_xcall (n2 := o + 11) (d := 1) (mc := 1) (ms := 99) (ν := mu_X10_init) (o := (o + 9)) (As := []) (I2 := (bf_w I o (fun _ => 0))) (L2 := L) (R2 := (bf_w (bf_w Rf o (va_up (va_up (fun _ => none) 0 (some (o + 1))) 1 (some (o + 8)))) (o + 8) (fun _ => none))) (lvf := (fun ad => [(1, .int (0)), (0, .ref (ad o))])) (stf := (fun ad => [.ref (ad (o + 9)), .int (0), .ref (ad (o + 8))])) dX3_init_66 rfl rfl wl_X3_24 wm_X10_init wi_X10 wc_X10_init rfl wx_X10_init ⟨(Nat.le_of_ble_eq_true rfl), (Nat.le_of_ble_eq_true rfl)⟩ ⟨(Nat.le_of_ble_eq_true rfl), (Nat.le_of_ble_eq_true rfl)⟩ (Nat.le_of_ble_eq_true rfl) (fun ad2 h => ⟨by simp only [h o (by omega)], by simp only [h (o + 8) (by omega), h (o + 9) (by omega)]⟩) (okx_X10_init (kx_3_9 hk) (fun p h1 h2 => ⟨by rw [bf_w_ne (show p ≠ o by omega)]; exact (hp p (by omega) (by omega)).1, (hp p (by omega) (by omega)).2.1, by rw [bf_w_ne (show p ≠ o + 8 by omega), bf_w_ne (show p ≠ o by omega)]; exact (hp p (by omega) (by omega)).2.2⟩) hCl23) ?_
  intro ad24 hA24 hCl24
  refine bf_widen (k2 := (10, 139)) (Nat.le_of_ble_eq_true rfl) (Nat.le_of_ble_eq_true rfl) ?_
  have hag24 : ∀ i, i < o + 1 → ad24 i = ad0 i := fun i hi => (hA24 i (by omega)).trans (hag23 i hi)
  clear hag23
  clear hCl23
  clear hA24
  refine bf_xast (a := o + 8) (t := o + 9) (t0 := 6) (cc := 19) (ci := 10) dX3_init_69 (by omega) (by omega) (kx_3_8 hk) (by decide) (kx_3_9 hk) (by decide) rfl rfl (by rw [(lx_3_8 hk)]; decide) ?_
  rw [show (((0) : Int32).toNatClampNeg) = 0 from by decide, bf_u_w]
  have hCl25 : bf_Cl (o + 11) (bf_w (bf_w Rf o (va_up (va_up (fun _ => none) 0 (some (o + 1))) 1 (some (o + 8)))) (o + 8) (va_up (fun _ => none) 0 (some (o + 9)))) := by have h := bf_Cl_u (o := o + 8) (i := 0) (t := o + 9) hCl24 (by omega); rw [bf_u_w] at h; exact h
  clear hCl24
  refine bf_iinc 0 (v := 1) (lv2 := [(1, .int _), (0, .ref _)]) dX3_init_70 rfl (by decide) (by decide) rfl ?_
  refine bf_goto 51 dX3_init_73 (by decide) ?_
  refine bf_iload_n 0 dX3_init_51 rfl rfl ?_
  refine bf_bipush (v := 8) dX3_init_52 (by decide) ?_
  refine bf_icmp_ge 76 dX3_init_54 (by decide) (fun q => absurd q (by decide)) (fun _ => ?_)
  refine bf_aload_n 1 dX3_init_57 rfl rfl ?_
  refine bf_xgetR (i := 1) (t := o + 8) dX3_init_58 wf_X3_20 (by omega) hk (by decide) rfl in_X3 (by decide) (by decide) (by decide) (by rw [bf_w_ne (show o ≠ o + 8 by omega), bf_w_o]; rfl) ?_
  refine bf_iload_n 0 dX3_init_61 rfl rfl ?_
  refine bf_xnew (n := o + 11) (lvf := (fun ad => [(1, .int (1)), (0, .ref (ad o))])) (stf := (fun ad => [.int (1), .ref (ad (o + 8))])) tyX10 dX3_init_62 wq_X3_18 wj_X10 wi_X10 in_X10 tyX10_ok rfl (kx_3_11 hk) (by decide) (by decide) dv_10 (Nat.le_of_ble_eq_true rfl) (Nat.le_of_ble_eq_true rfl) hCl25 (fun ad2 h => ⟨by simp only [h o (by omega)], by simp only [h (o + 8) (by omega)]⟩) ?_
  intro ad26 hA26 hCl26
  refine bf_widen (k2 := (11, 147)) (Nat.le_of_ble_eq_true rfl) (Nat.le_of_ble_eq_true rfl) ?_
  have hag26 : ∀ i, i < o + 1 → ad26 i = ad0 i := fun i hi => (hA26 i (by omega)).trans (hag24 i hi)
  clear hag24
  clear hCl25
  clear hA26
  refine bf_dup dX3_init_65 rfl ?_
  refine bf_xcall (n2 := o + 13) (d := 1) (mc := 1) (ms := 99) (ν := mu_X10_init) (o := (o + 11)) (As := []) (I2 := (bf_w I o (fun _ => 0))) (L2 := L) (R2 := (bf_w (bf_w Rf o (va_up (va_up (fun _ => none) 0 (some (o + 1))) 1 (some (o + 8)))) (o + 8) (va_up (fun _ => none) 0 (some (o + 9))))) (lvf := (fun ad => [(1, .int (1)), (0, .ref (ad o))])) (stf := (fun ad => [.ref (ad (o + 11)), .int (1), .ref (ad (o + 8))])) dX3_init_66 rfl rfl wl_X3_24 wm_X10_init wi_X10 wc_X10_init rfl wx_X10_init ⟨(Nat.le_of_ble_eq_true rfl), (Nat.le_of_ble_eq_true rfl)⟩ ⟨(Nat.le_of_ble_eq_true rfl), (Nat.le_of_ble_eq_true rfl)⟩ (Nat.le_of_ble_eq_true rfl) (fun ad2 h => ⟨by simp only [h o (by omega)], by simp only [h (o + 8) (by omega), h (o + 11) (by omega)]⟩) (okx_X10_init (kx_3_11 hk) (fun p h1 h2 => ⟨by rw [bf_w_ne (show p ≠ o by omega)]; exact (hp p (by omega) (by omega)).1, (hp p (by omega) (by omega)).2.1, by rw [bf_w_ne (show p ≠ o + 8 by omega), bf_w_ne (show p ≠ o by omega)]; exact (hp p (by omega) (by omega)).2.2⟩) hCl26) ?_
  intro ad27 hA27 hCl27
  refine bf_widen (k2 := (12, 246)) (Nat.le_of_ble_eq_true rfl) (Nat.le_of_ble_eq_true rfl) ?_
  have hag27 : ∀ i, i < o + 1 → ad27 i = ad0 i := fun i hi => (hA27 i (by omega)).trans (hag26 i hi)
  clear hag26
  clear hCl26
  clear hA27
  refine bf_xast (a := o + 8) (t := o + 11) (t0 := 6) (cc := 19) (ci := 10) dX3_init_69 (by omega) (by omega) (kx_3_8 hk) (by decide) (kx_3_11 hk) (by decide) rfl rfl (by rw [(lx_3_8 hk)]; decide) ?_
  rw [show (((1) : Int32).toNatClampNeg) = 1 from by decide, bf_u_w]
  have hCl28 : bf_Cl (o + 13) (bf_w (bf_w Rf o (va_up (va_up (fun _ => none) 0 (some (o + 1))) 1 (some (o + 8)))) (o + 8) (va_up (va_up (fun _ => none) 0 (some (o + 9))) 1 (some (o + 11)))) := by have h := bf_Cl_u (o := o + 8) (i := 1) (t := o + 11) hCl27 (by omega); rw [bf_u_w] at h; exact h
  clear hCl27
  refine bf_iinc 0 (v := 2) (lv2 := [(1, .int _), (0, .ref _)]) dX3_init_70 rfl (by decide) (by decide) rfl ?_
  refine bf_goto 51 dX3_init_73 (by decide) ?_
  refine bf_iload_n 0 dX3_init_51 rfl rfl ?_
  refine bf_bipush (v := 8) dX3_init_52 (by decide) ?_
  refine bf_icmp_ge 76 dX3_init_54 (by decide) (fun q => absurd q (by decide)) (fun _ => ?_)
  refine bf_aload_n 1 dX3_init_57 rfl rfl ?_
  refine bf_xgetR (i := 1) (t := o + 8) dX3_init_58 wf_X3_20 (by omega) hk (by decide) rfl in_X3 (by decide) (by decide) (by decide) (by rw [bf_w_ne (show o ≠ o + 8 by omega), bf_w_o]; rfl) ?_
  refine bf_iload_n 0 dX3_init_61 rfl rfl ?_
  refine bf_xnew (n := o + 13) (lvf := (fun ad => [(1, .int (2)), (0, .ref (ad o))])) (stf := (fun ad => [.int (2), .ref (ad (o + 8))])) tyX10 dX3_init_62 wq_X3_18 wj_X10 wi_X10 in_X10 tyX10_ok rfl (kx_3_13 hk) (by decide) (by decide) dv_10 (Nat.le_of_ble_eq_true rfl) (Nat.le_of_ble_eq_true rfl) hCl28 (fun ad2 h => ⟨by simp only [h o (by omega)], by simp only [h (o + 8) (by omega)]⟩) ?_
  intro ad29 hA29 hCl29
  refine bf_widen (k2 := (13, 254)) (Nat.le_of_ble_eq_true rfl) (Nat.le_of_ble_eq_true rfl) ?_
  have hag29 : ∀ i, i < o + 1 → ad29 i = ad0 i := fun i hi => (hA29 i (by omega)).trans (hag27 i hi)
  clear hag27
  clear hCl28
  clear hA29
  refine bf_dup dX3_init_65 rfl ?_
  refine bf_xcall (n2 := o + 15) (d := 1) (mc := 1) (ms := 99) (ν := mu_X10_init) (o := (o + 13)) (As := []) (I2 := (bf_w I o (fun _ => 0))) (L2 := L) (R2 := (bf_w (bf_w Rf o (va_up (va_up (fun _ => none) 0 (some (o + 1))) 1 (some (o + 8)))) (o + 8) (va_up (va_up (fun _ => none) 0 (some (o + 9))) 1 (some (o + 11))))) (lvf := (fun ad => [(1, .int (2)), (0, .ref (ad o))])) (stf := (fun ad => [.ref (ad (o + 13)), .int (2), .ref (ad (o + 8))])) dX3_init_66 rfl rfl wl_X3_24 wm_X10_init wi_X10 wc_X10_init rfl wx_X10_init ⟨(Nat.le_of_ble_eq_true rfl), (Nat.le_of_ble_eq_true rfl)⟩ ⟨(Nat.le_of_ble_eq_true rfl), (Nat.le_of_ble_eq_true rfl)⟩ (Nat.le_of_ble_eq_true rfl) (fun ad2 h => ⟨by simp only [h o (by omega)], by simp only [h (o + 8) (by omega), h (o + 13) (by omega)]⟩) (okx_X10_init (kx_3_13 hk) (fun p h1 h2 => ⟨by rw [bf_w_ne (show p ≠ o by omega)]; exact (hp p (by omega) (by omega)).1, (hp p (by omega) (by omega)).2.1, by rw [bf_w_ne (show p ≠ o + 8 by omega), bf_w_ne (show p ≠ o by omega)]; exact (hp p (by omega) (by omega)).2.2⟩) hCl29) ?_
  intro ad30 hA30 hCl30
  refine bf_widen (k2 := (14, 353)) (Nat.le_of_ble_eq_true rfl) (Nat.le_of_ble_eq_true rfl) ?_
  have hag30 : ∀ i, i < o + 1 → ad30 i = ad0 i := fun i hi => (hA30 i (by omega)).trans (hag29 i hi)
  clear hag29
  clear hCl29
  clear hA30
  refine bf_xast (a := o + 8) (t := o + 13) (t0 := 6) (cc := 19) (ci := 10) dX3_init_69 (by omega) (by omega) (kx_3_8 hk) (by decide) (kx_3_13 hk) (by decide) rfl rfl (by rw [(lx_3_8 hk)]; decide) ?_
  rw [show (((2) : Int32).toNatClampNeg) = 2 from by decide, bf_u_w]
  have hCl31 : bf_Cl (o + 15) (bf_w (bf_w Rf o (va_up (va_up (fun _ => none) 0 (some (o + 1))) 1 (some (o + 8)))) (o + 8) (va_up (va_up (va_up (fun _ => none) 0 (some (o + 9))) 1 (some (o + 11))) 2 (some (o + 13)))) := by have h := bf_Cl_u (o := o + 8) (i := 2) (t := o + 13) hCl30 (by omega); rw [bf_u_w] at h; exact h
  clear hCl30
  refine bf_iinc 0 (v := 3) (lv2 := [(1, .int _), (0, .ref _)]) dX3_init_70 rfl (by decide) (by decide) rfl ?_
  refine bf_goto 51 dX3_init_73 (by decide) ?_
  refine bf_iload_n 0 dX3_init_51 rfl rfl ?_
  refine bf_bipush (v := 8) dX3_init_52 (by decide) ?_
  refine bf_icmp_ge 76 dX3_init_54 (by decide) (fun q => absurd q (by decide)) (fun _ => ?_)
  refine bf_aload_n 1 dX3_init_57 rfl rfl ?_
  refine bf_xgetR (i := 1) (t := o + 8) dX3_init_58 wf_X3_20 (by omega) hk (by decide) rfl in_X3 (by decide) (by decide) (by decide) (by rw [bf_w_ne (show o ≠ o + 8 by omega), bf_w_o]; rfl) ?_
  refine bf_iload_n 0 dX3_init_61 rfl rfl ?_
  refine bf_xnew (n := o + 15) (lvf := (fun ad => [(1, .int (3)), (0, .ref (ad o))])) (stf := (fun ad => [.int (3), .ref (ad (o + 8))])) tyX10 dX3_init_62 wq_X3_18 wj_X10 wi_X10 in_X10 tyX10_ok rfl (kx_3_15 hk) (by decide) (by decide) dv_10 (Nat.le_of_ble_eq_true rfl) (Nat.le_of_ble_eq_true rfl) hCl31 (fun ad2 h => ⟨by simp only [h o (by omega)], by simp only [h (o + 8) (by omega)]⟩) ?_
  intro ad32 hA32 hCl32
  refine bf_widen (k2 := (15, 361)) (Nat.le_of_ble_eq_true rfl) (Nat.le_of_ble_eq_true rfl) ?_
  have hag32 : ∀ i, i < o + 1 → ad32 i = ad0 i := fun i hi => (hA32 i (by omega)).trans (hag30 i hi)
  clear hag30
  clear hCl31
  clear hA32
  refine bf_dup dX3_init_65 rfl ?_
  refine bf_xcall (n2 := o + 17) (d := 1) (mc := 1) (ms := 99) (ν := mu_X10_init) (o := (o + 15)) (As := []) (I2 := (bf_w I o (fun _ => 0))) (L2 := L) (R2 := (bf_w (bf_w Rf o (va_up (va_up (fun _ => none) 0 (some (o + 1))) 1 (some (o + 8)))) (o + 8) (va_up (va_up (va_up (fun _ => none) 0 (some (o + 9))) 1 (some (o + 11))) 2 (some (o + 13))))) (lvf := (fun ad => [(1, .int (3)), (0, .ref (ad o))])) (stf := (fun ad => [.ref (ad (o + 15)), .int (3), .ref (ad (o + 8))])) dX3_init_66 rfl rfl wl_X3_24 wm_X10_init wi_X10 wc_X10_init rfl wx_X10_init ⟨(Nat.le_of_ble_eq_true rfl), (Nat.le_of_ble_eq_true rfl)⟩ ⟨(Nat.le_of_ble_eq_true rfl), (Nat.le_of_ble_eq_true rfl)⟩ (Nat.le_of_ble_eq_true rfl) (fun ad2 h => ⟨by simp only [h o (by omega)], by simp only [h (o + 8) (by omega), h (o + 15) (by omega)]⟩) (okx_X10_init (kx_3_15 hk) (fun p h1 h2 => ⟨by rw [bf_w_ne (show p ≠ o by omega)]; exact (hp p (by omega) (by omega)).1, (hp p (by omega) (by omega)).2.1, by rw [bf_w_ne (show p ≠ o + 8 by omega), bf_w_ne (show p ≠ o by omega)]; exact (hp p (by omega) (by omega)).2.2⟩) hCl32) ?_
  intro ad33 hA33 hCl33
  refine bf_widen (k2 := (16, 460)) (Nat.le_of_ble_eq_true rfl) (Nat.le_of_ble_eq_true rfl) ?_
  have hag33 : ∀ i, i < o + 1 → ad33 i = ad0 i := fun i hi => (hA33 i (by omega)).trans (hag32 i hi)
  clear hag32
  clear hCl32
  clear hA33
  refine bf_xast (a := o + 8) (t := o + 15) (t0 := 6) (cc := 19) (ci := 10) dX3_init_69 (by omega) (by omega) (kx_3_8 hk) (by decide) (kx_3_15 hk) (by decide) rfl rfl (by rw [(lx_3_8 hk)]; decide) ?_
  rw [show (((3) : Int32).toNatClampNeg) = 3 from by decide, bf_u_w]
  have hCl34 : bf_Cl (o + 17) (bf_w (bf_w Rf o (va_up (va_up (fun _ => none) 0 (some (o + 1))) 1 (some (o + 8)))) (o + 8) (va_up (va_up (va_up (va_up (fun _ => none) 0 (some (o + 9))) 1 (some (o + 11))) 2 (some (o + 13))) 3 (some (o + 15)))) := by have h := bf_Cl_u (o := o + 8) (i := 3) (t := o + 15) hCl33 (by omega); rw [bf_u_w] at h; exact h
  clear hCl33
  refine bf_iinc 0 (v := 4) (lv2 := [(1, .int _), (0, .ref _)]) dX3_init_70 rfl (by decide) (by decide) rfl ?_
  refine bf_goto 51 dX3_init_73 (by decide) ?_
  refine bf_iload_n 0 dX3_init_51 rfl rfl ?_
  refine bf_bipush (v := 8) dX3_init_52 (by decide) ?_
  refine bf_icmp_ge 76 dX3_init_54 (by decide) (fun q => absurd q (by decide)) (fun _ => ?_)
  refine bf_aload_n 1 dX3_init_57 rfl rfl ?_
  refine bf_xgetR (i := 1) (t := o + 8) dX3_init_58 wf_X3_20 (by omega) hk (by decide) rfl in_X3 (by decide) (by decide) (by decide) (by rw [bf_w_ne (show o ≠ o + 8 by omega), bf_w_o]; rfl) ?_
  refine bf_iload_n 0 dX3_init_61 rfl rfl ?_
  refine bf_xnew (n := o + 17) (lvf := (fun ad => [(1, .int (4)), (0, .ref (ad o))])) (stf := (fun ad => [.int (4), .ref (ad (o + 8))])) tyX10 dX3_init_62 wq_X3_18 wj_X10 wi_X10 in_X10 tyX10_ok rfl (kx_3_17 hk) (by decide) (by decide) dv_10 (Nat.le_of_ble_eq_true rfl) (Nat.le_of_ble_eq_true rfl) hCl34 (fun ad2 h => ⟨by simp only [h o (by omega)], by simp only [h (o + 8) (by omega)]⟩) ?_
  intro ad35 hA35 hCl35
  refine bf_widen (k2 := (17, 468)) (Nat.le_of_ble_eq_true rfl) (Nat.le_of_ble_eq_true rfl) ?_
  have hag35 : ∀ i, i < o + 1 → ad35 i = ad0 i := fun i hi => (hA35 i (by omega)).trans (hag33 i hi)
  clear hag33
  clear hCl34
  clear hA35
  refine bf_dup dX3_init_65 rfl ?_
  refine bf_xcall (n2 := o + 19) (d := 1) (mc := 1) (ms := 99) (ν := mu_X10_init) (o := (o + 17)) (As := []) (I2 := (bf_w I o (fun _ => 0))) (L2 := L) (R2 := (bf_w (bf_w Rf o (va_up (va_up (fun _ => none) 0 (some (o + 1))) 1 (some (o + 8)))) (o + 8) (va_up (va_up (va_up (va_up (fun _ => none) 0 (some (o + 9))) 1 (some (o + 11))) 2 (some (o + 13))) 3 (some (o + 15))))) (lvf := (fun ad => [(1, .int (4)), (0, .ref (ad o))])) (stf := (fun ad => [.ref (ad (o + 17)), .int (4), .ref (ad (o + 8))])) dX3_init_66 rfl rfl wl_X3_24 wm_X10_init wi_X10 wc_X10_init rfl wx_X10_init ⟨(Nat.le_of_ble_eq_true rfl), (Nat.le_of_ble_eq_true rfl)⟩ ⟨(Nat.le_of_ble_eq_true rfl), (Nat.le_of_ble_eq_true rfl)⟩ (Nat.le_of_ble_eq_true rfl) (fun ad2 h => ⟨by simp only [h o (by omega)], by simp only [h (o + 8) (by omega), h (o + 17) (by omega)]⟩) (okx_X10_init (kx_3_17 hk) (fun p h1 h2 => ⟨by rw [bf_w_ne (show p ≠ o by omega)]; exact (hp p (by omega) (by omega)).1, (hp p (by omega) (by omega)).2.1, by rw [bf_w_ne (show p ≠ o + 8 by omega), bf_w_ne (show p ≠ o by omega)]; exact (hp p (by omega) (by omega)).2.2⟩) hCl35) ?_
  intro ad36 hA36 hCl36
  refine bf_widen (k2 := (18, 567)) (Nat.le_of_ble_eq_true rfl) (Nat.le_of_ble_eq_true rfl) ?_
  have hag36 : ∀ i, i < o + 1 → ad36 i = ad0 i := fun i hi => (hA36 i (by omega)).trans (hag35 i hi)
  clear hag35
  clear hCl35
  clear hA36
  refine bf_xast (a := o + 8) (t := o + 17) (t0 := 6) (cc := 19) (ci := 10) dX3_init_69 (by omega) (by omega) (kx_3_8 hk) (by decide) (kx_3_17 hk) (by decide) rfl rfl (by rw [(lx_3_8 hk)]; decide) ?_
  rw [show (((4) : Int32).toNatClampNeg) = 4 from by decide, bf_u_w]
  have hCl37 : bf_Cl (o + 19) (bf_w (bf_w Rf o (va_up (va_up (fun _ => none) 0 (some (o + 1))) 1 (some (o + 8)))) (o + 8) (va_up (va_up (va_up (va_up (va_up (fun _ => none) 0 (some (o + 9))) 1 (some (o + 11))) 2 (some (o + 13))) 3 (some (o + 15))) 4 (some (o + 17)))) := by have h := bf_Cl_u (o := o + 8) (i := 4) (t := o + 17) hCl36 (by omega); rw [bf_u_w] at h; exact h
  clear hCl36
  refine bf_iinc 0 (v := 5) (lv2 := [(1, .int _), (0, .ref _)]) dX3_init_70 rfl (by decide) (by decide) rfl ?_
  refine bf_goto 51 dX3_init_73 (by decide) ?_
  refine bf_iload_n 0 dX3_init_51 rfl rfl ?_
  refine bf_bipush (v := 8) dX3_init_52 (by decide) ?_
  refine bf_icmp_ge 76 dX3_init_54 (by decide) (fun q => absurd q (by decide)) (fun _ => ?_)
  refine bf_aload_n 1 dX3_init_57 rfl rfl ?_
  refine bf_xgetR (i := 1) (t := o + 8) dX3_init_58 wf_X3_20 (by omega) hk (by decide) rfl in_X3 (by decide) (by decide) (by decide) (by rw [bf_w_ne (show o ≠ o + 8 by omega), bf_w_o]; rfl) ?_
  refine bf_iload_n 0 dX3_init_61 rfl rfl ?_
  refine bf_xnew (n := o + 19) (lvf := (fun ad => [(1, .int (5)), (0, .ref (ad o))])) (stf := (fun ad => [.int (5), .ref (ad (o + 8))])) tyX10 dX3_init_62 wq_X3_18 wj_X10 wi_X10 in_X10 tyX10_ok rfl (kx_3_19 hk) (by decide) (by decide) dv_10 (Nat.le_of_ble_eq_true rfl) (Nat.le_of_ble_eq_true rfl) hCl37 (fun ad2 h => ⟨by simp only [h o (by omega)], by simp only [h (o + 8) (by omega)]⟩) ?_
  intro ad38 hA38 hCl38
  refine bf_widen (k2 := (19, 575)) (Nat.le_of_ble_eq_true rfl) (Nat.le_of_ble_eq_true rfl) ?_
  have hag38 : ∀ i, i < o + 1 → ad38 i = ad0 i := fun i hi => (hA38 i (by omega)).trans (hag36 i hi)
  clear hag36
  clear hCl37
  clear hA38
  refine bf_dup dX3_init_65 rfl ?_
  refine bf_xcall (n2 := o + 21) (d := 1) (mc := 1) (ms := 99) (ν := mu_X10_init) (o := (o + 19)) (As := []) (I2 := (bf_w I o (fun _ => 0))) (L2 := L) (R2 := (bf_w (bf_w Rf o (va_up (va_up (fun _ => none) 0 (some (o + 1))) 1 (some (o + 8)))) (o + 8) (va_up (va_up (va_up (va_up (va_up (fun _ => none) 0 (some (o + 9))) 1 (some (o + 11))) 2 (some (o + 13))) 3 (some (o + 15))) 4 (some (o + 17))))) (lvf := (fun ad => [(1, .int (5)), (0, .ref (ad o))])) (stf := (fun ad => [.ref (ad (o + 19)), .int (5), .ref (ad (o + 8))])) dX3_init_66 rfl rfl wl_X3_24 wm_X10_init wi_X10 wc_X10_init rfl wx_X10_init ⟨(Nat.le_of_ble_eq_true rfl), (Nat.le_of_ble_eq_true rfl)⟩ ⟨(Nat.le_of_ble_eq_true rfl), (Nat.le_of_ble_eq_true rfl)⟩ (Nat.le_of_ble_eq_true rfl) (fun ad2 h => ⟨by simp only [h o (by omega)], by simp only [h (o + 8) (by omega), h (o + 19) (by omega)]⟩) (okx_X10_init (kx_3_19 hk) (fun p h1 h2 => ⟨by rw [bf_w_ne (show p ≠ o by omega)]; exact (hp p (by omega) (by omega)).1, (hp p (by omega) (by omega)).2.1, by rw [bf_w_ne (show p ≠ o + 8 by omega), bf_w_ne (show p ≠ o by omega)]; exact (hp p (by omega) (by omega)).2.2⟩) hCl38) ?_
  intro ad39 hA39 hCl39
  refine bf_widen (k2 := (20, 674)) (Nat.le_of_ble_eq_true rfl) (Nat.le_of_ble_eq_true rfl) ?_
  have hag39 : ∀ i, i < o + 1 → ad39 i = ad0 i := fun i hi => (hA39 i (by omega)).trans (hag38 i hi)
  clear hag38
  clear hCl38
  clear hA39
  refine bf_xast (a := o + 8) (t := o + 19) (t0 := 6) (cc := 19) (ci := 10) dX3_init_69 (by omega) (by omega) (kx_3_8 hk) (by decide) (kx_3_19 hk) (by decide) rfl rfl (by rw [(lx_3_8 hk)]; decide) ?_
  rw [show (((5) : Int32).toNatClampNeg) = 5 from by decide, bf_u_w]
  have hCl40 : bf_Cl (o + 21) (bf_w (bf_w Rf o (va_up (va_up (fun _ => none) 0 (some (o + 1))) 1 (some (o + 8)))) (o + 8) (va_up (va_up (va_up (va_up (va_up (va_up (fun _ => none) 0 (some (o + 9))) 1 (some (o + 11))) 2 (some (o + 13))) 3 (some (o + 15))) 4 (some (o + 17))) 5 (some (o + 19)))) := by have h := bf_Cl_u (o := o + 8) (i := 5) (t := o + 19) hCl39 (by omega); rw [bf_u_w] at h; exact h
  clear hCl39
  refine bf_iinc 0 (v := 6) (lv2 := [(1, .int _), (0, .ref _)]) dX3_init_70 rfl (by decide) (by decide) rfl ?_
  refine bf_goto 51 dX3_init_73 (by decide) ?_
  refine bf_iload_n 0 dX3_init_51 rfl rfl ?_
  refine bf_bipush (v := 8) dX3_init_52 (by decide) ?_
  refine bf_icmp_ge 76 dX3_init_54 (by decide) (fun q => absurd q (by decide)) (fun _ => ?_)
  refine bf_aload_n 1 dX3_init_57 rfl rfl ?_
  refine bf_xgetR (i := 1) (t := o + 8) dX3_init_58 wf_X3_20 (by omega) hk (by decide) rfl in_X3 (by decide) (by decide) (by decide) (by rw [bf_w_ne (show o ≠ o + 8 by omega), bf_w_o]; rfl) ?_
  refine bf_iload_n 0 dX3_init_61 rfl rfl ?_
  refine bf_xnew (n := o + 21) (lvf := (fun ad => [(1, .int (6)), (0, .ref (ad o))])) (stf := (fun ad => [.int (6), .ref (ad (o + 8))])) tyX10 dX3_init_62 wq_X3_18 wj_X10 wi_X10 in_X10 tyX10_ok rfl (kx_3_21 hk) (by decide) (by decide) dv_10 (Nat.le_of_ble_eq_true rfl) (Nat.le_of_ble_eq_true rfl) hCl40 (fun ad2 h => ⟨by simp only [h o (by omega)], by simp only [h (o + 8) (by omega)]⟩) ?_
  intro ad41 hA41 hCl41
  refine bf_widen (k2 := (21, 682)) (Nat.le_of_ble_eq_true rfl) (Nat.le_of_ble_eq_true rfl) ?_
  have hag41 : ∀ i, i < o + 1 → ad41 i = ad0 i := fun i hi => (hA41 i (by omega)).trans (hag39 i hi)
  clear hag39
  clear hCl40
  clear hA41
  refine bf_dup dX3_init_65 rfl ?_
  refine bf_xcall (n2 := o + 23) (d := 1) (mc := 1) (ms := 99) (ν := mu_X10_init) (o := (o + 21)) (As := []) (I2 := (bf_w I o (fun _ => 0))) (L2 := L) (R2 := (bf_w (bf_w Rf o (va_up (va_up (fun _ => none) 0 (some (o + 1))) 1 (some (o + 8)))) (o + 8) (va_up (va_up (va_up (va_up (va_up (va_up (fun _ => none) 0 (some (o + 9))) 1 (some (o + 11))) 2 (some (o + 13))) 3 (some (o + 15))) 4 (some (o + 17))) 5 (some (o + 19))))) (lvf := (fun ad => [(1, .int (6)), (0, .ref (ad o))])) (stf := (fun ad => [.ref (ad (o + 21)), .int (6), .ref (ad (o + 8))])) dX3_init_66 rfl rfl wl_X3_24 wm_X10_init wi_X10 wc_X10_init rfl wx_X10_init ⟨(Nat.le_of_ble_eq_true rfl), (Nat.le_of_ble_eq_true rfl)⟩ ⟨(Nat.le_of_ble_eq_true rfl), (Nat.le_of_ble_eq_true rfl)⟩ (Nat.le_of_ble_eq_true rfl) (fun ad2 h => ⟨by simp only [h o (by omega)], by simp only [h (o + 8) (by omega), h (o + 21) (by omega)]⟩) (okx_X10_init (kx_3_21 hk) (fun p h1 h2 => ⟨by rw [bf_w_ne (show p ≠ o by omega)]; exact (hp p (by omega) (by omega)).1, (hp p (by omega) (by omega)).2.1, by rw [bf_w_ne (show p ≠ o + 8 by omega), bf_w_ne (show p ≠ o by omega)]; exact (hp p (by omega) (by omega)).2.2⟩) hCl41) ?_
  intro ad42 hA42 hCl42
  refine bf_widen (k2 := (22, 781)) (Nat.le_of_ble_eq_true rfl) (Nat.le_of_ble_eq_true rfl) ?_
  have hag42 : ∀ i, i < o + 1 → ad42 i = ad0 i := fun i hi => (hA42 i (by omega)).trans (hag41 i hi)
  clear hag41
  clear hCl41
  clear hA42
  refine bf_xast (a := o + 8) (t := o + 21) (t0 := 6) (cc := 19) (ci := 10) dX3_init_69 (by omega) (by omega) (kx_3_8 hk) (by decide) (kx_3_21 hk) (by decide) rfl rfl (by rw [(lx_3_8 hk)]; decide) ?_
  rw [show (((6) : Int32).toNatClampNeg) = 6 from by decide, bf_u_w]
  have hCl43 : bf_Cl (o + 23) (bf_w (bf_w Rf o (va_up (va_up (fun _ => none) 0 (some (o + 1))) 1 (some (o + 8)))) (o + 8) (va_up (va_up (va_up (va_up (va_up (va_up (va_up (fun _ => none) 0 (some (o + 9))) 1 (some (o + 11))) 2 (some (o + 13))) 3 (some (o + 15))) 4 (some (o + 17))) 5 (some (o + 19))) 6 (some (o + 21)))) := by have h := bf_Cl_u (o := o + 8) (i := 6) (t := o + 21) hCl42 (by omega); rw [bf_u_w] at h; exact h
  clear hCl42
  refine bf_iinc 0 (v := 7) (lv2 := [(1, .int _), (0, .ref _)]) dX3_init_70 rfl (by decide) (by decide) rfl ?_
  refine bf_goto 51 dX3_init_73 (by decide) ?_
  refine bf_iload_n 0 dX3_init_51 rfl rfl ?_
  refine bf_bipush (v := 8) dX3_init_52 (by decide) ?_
  refine bf_icmp_ge 76 dX3_init_54 (by decide) (fun q => absurd q (by decide)) (fun _ => ?_)
  refine bf_aload_n 1 dX3_init_57 rfl rfl ?_
  refine bf_xgetR (i := 1) (t := o + 8) dX3_init_58 wf_X3_20 (by omega) hk (by decide) rfl in_X3 (by decide) (by decide) (by decide) (by rw [bf_w_ne (show o ≠ o + 8 by omega), bf_w_o]; rfl) ?_
  refine bf_iload_n 0 dX3_init_61 rfl rfl ?_
  refine bf_xnew (n := o + 23) (lvf := (fun ad => [(1, .int (7)), (0, .ref (ad o))])) (stf := (fun ad => [.int (7), .ref (ad (o + 8))])) tyX10 dX3_init_62 wq_X3_18 wj_X10 wi_X10 in_X10 tyX10_ok rfl (kx_3_23 hk) (by decide) (by decide) dv_10 (Nat.le_of_ble_eq_true rfl) (Nat.le_of_ble_eq_true rfl) hCl43 (fun ad2 h => ⟨by simp only [h o (by omega)], by simp only [h (o + 8) (by omega)]⟩) ?_
  intro ad44 hA44 hCl44
  refine bf_widen (k2 := (23, 789)) (Nat.le_of_ble_eq_true rfl) (Nat.le_of_ble_eq_true rfl) ?_
  have hag44 : ∀ i, i < o + 1 → ad44 i = ad0 i := fun i hi => (hA44 i (by omega)).trans (hag42 i hi)
  clear hag42
  clear hCl43
  clear hA44
  refine bf_dup dX3_init_65 rfl ?_
  refine bf_xcall (n2 := o + 25) (d := 1) (mc := 1) (ms := 99) (ν := mu_X10_init) (o := (o + 23)) (As := []) (I2 := (bf_w I o (fun _ => 0))) (L2 := L) (R2 := (bf_w (bf_w Rf o (va_up (va_up (fun _ => none) 0 (some (o + 1))) 1 (some (o + 8)))) (o + 8) (va_up (va_up (va_up (va_up (va_up (va_up (va_up (fun _ => none) 0 (some (o + 9))) 1 (some (o + 11))) 2 (some (o + 13))) 3 (some (o + 15))) 4 (some (o + 17))) 5 (some (o + 19))) 6 (some (o + 21))))) (lvf := (fun ad => [(1, .int (7)), (0, .ref (ad o))])) (stf := (fun ad => [.ref (ad (o + 23)), .int (7), .ref (ad (o + 8))])) dX3_init_66 rfl rfl wl_X3_24 wm_X10_init wi_X10 wc_X10_init rfl wx_X10_init ⟨(Nat.le_of_ble_eq_true rfl), (Nat.le_of_ble_eq_true rfl)⟩ ⟨(Nat.le_of_ble_eq_true rfl), (Nat.le_of_ble_eq_true rfl)⟩ (Nat.le_of_ble_eq_true rfl) (fun ad2 h => ⟨by simp only [h o (by omega)], by simp only [h (o + 8) (by omega), h (o + 23) (by omega)]⟩) (okx_X10_init (kx_3_23 hk) (fun p h1 h2 => ⟨by rw [bf_w_ne (show p ≠ o by omega)]; exact (hp p (by omega) (by omega)).1, (hp p (by omega) (by omega)).2.1, by rw [bf_w_ne (show p ≠ o + 8 by omega), bf_w_ne (show p ≠ o by omega)]; exact (hp p (by omega) (by omega)).2.2⟩) hCl44) ?_
  intro ad45 hA45 hCl45
  refine bf_widen (k2 := (24, 888)) (Nat.le_of_ble_eq_true rfl) (Nat.le_of_ble_eq_true rfl) ?_
  have hag45 : ∀ i, i < o + 1 → ad45 i = ad0 i := fun i hi => (hA45 i (by omega)).trans (hag44 i hi)
  clear hag44
  clear hCl44
  clear hA45
  refine bf_xast (a := o + 8) (t := o + 23) (t0 := 6) (cc := 19) (ci := 10) dX3_init_69 (by omega) (by omega) (kx_3_8 hk) (by decide) (kx_3_23 hk) (by decide) rfl rfl (by rw [(lx_3_8 hk)]; decide) ?_
  rw [show (((7) : Int32).toNatClampNeg) = 7 from by decide, bf_u_w]
  have hCl46 : bf_Cl (o + 25) (bf_w (bf_w Rf o (va_up (va_up (fun _ => none) 0 (some (o + 1))) 1 (some (o + 8)))) (o + 8) (va_up (va_up (va_up (va_up (va_up (va_up (va_up (va_up (fun _ => none) 0 (some (o + 9))) 1 (some (o + 11))) 2 (some (o + 13))) 3 (some (o + 15))) 4 (some (o + 17))) 5 (some (o + 19))) 6 (some (o + 21))) 7 (some (o + 23)))) := by have h := bf_Cl_u (o := o + 8) (i := 7) (t := o + 23) hCl45 (by omega); rw [bf_u_w] at h; exact h
  clear hCl45
  refine bf_iinc 0 (v := 8) (lv2 := [(1, .int _), (0, .ref _)]) dX3_init_70 rfl (by decide) (by decide) rfl ?_
  refine bf_goto 51 dX3_init_73 (by decide) ?_
  refine bf_iload_n 0 dX3_init_51 rfl rfl ?_
  refine bf_bipush (v := 8) dX3_init_52 (by decide) ?_
  refine bf_icmp_ge 76 dX3_init_54 (by decide) (fun _ => ?_) (fun q => absurd q (by decide))
  refine bf_aload_n 1 dX3_init_76 rfl rfl ?_
  refine bf_iconst (v := 0) dX3_init_77 (by decide) ?_
  refine bf_xputI (i := 2) (ty := .int) tyX3 dX3_init_78 wf_X3_25 (by omega) hk (by decide) rfl in_X3 tyX3_ok nmX3 (by decide) (by decide) (by decide) rfl (by decide +kernel) rfl rfl ?_
  rw [bf_u_w]
  refine bf_aload_n 1 dX3_init_81 rfl rfl ?_
  refine bf_iconst (v := 0) dX3_init_82 (by decide) ?_
  refine bf_xputI (i := 3) (ty := .int) tyX3 dX3_init_83 wf_X3_29 (by omega) hk (by decide) rfl in_X3 tyX3_ok nmX3 (by decide) (by decide) (by decide) rfl (by decide +kernel) rfl rfl ?_
  rw [bf_u_w]
  have eA8 : bf_w (bf_w Rf o (va_up (va_up (fun _ => none) 0 (some (o + 1))) 1 (some (o + 8)))) (o + 8) (va_up (va_up (va_up (va_up (va_up (va_up (va_up (va_up (fun _ => none) 0 (some (o + 9))) 1 (some (o + 11))) 2 (some (o + 13))) 3 (some (o + 15))) 4 (some (o + 17))) 5 (some (o + 19))) 6 (some (o + 21))) 7 (some (o + 23))) = bf_w Rf o (va_up (va_up (fun _ => none) 0 (some (o + 1))) 1 (some (o + 8))) := bf_wS (by rw [bf_w_ne (show o + 8 ≠ o by omega), (hp (o + 8) (by omega) (by omega)).2.2]; exact rq_3_8 hk)
  rw [eA8] at hCl46 ⊢
  have eI : bf_w I o (va_up (va_up (fun _ => 0) 2 (0)) 3 (0)) = I := bf_wS (by rw [(hp o (by omega) (by omega)).1]; exact ri_3 hk)
  have eR : bf_w Rf o (va_up (va_up (fun _ => none) 0 (some (o + 1))) 1 (some (o + 8))) = Rf := bf_wS (by rw [(hp o (by omega) (by omega)).2.2]; exact rr_3 hk)
  rw [eI, eR]
  rw [eR] at hCl46
  exact bf_vret dX3_init_86 rfl (Nat.le_of_ble_eq_true rfl) (Nat.le_of_ble_eq_true rfl) ⟨rfl, _, hag45, rfl, hCl46⟩
set_option maxRecDepth 100000 in
set_option maxHeartbeats 40000000 in
theorem okx_X7_init {Γ : bf_Gm} {o : Nat} {ad0 : Nat → Nat} {I : Nat → Nat → Int32} {L : Nat → Nat → Int64} {Rf : Nat → Nat → Option Nat} (hk : bf_kd o = 7) (hp : bf_Fu o 38 I L Rf) (hCl : bf_Cl (o + 1) (bf_w Rf o (fun _ => none))) : bf_Cn Γ 3 mu_X7_init 37 973 [.ref (ad0 o)] (o + 1, ad0, bf_w I o (fun _ => 0), L, bf_w Rf o (fun _ => none)) (bf_Qx (o + 1) ad0 (o + 38) I L Rf) := by
  refine bf_met rfl (Nat.le_of_ble_eq_true rfl) ?_
  have hag : ∀ i, i < o + 1 → ad0 i = ad0 i := fun _ _ => rfl
  refine bf_aload_n 0 dX7_init_0 rfl rfl ?_
  refine bf_xobj dX7_init_1 wl_X7_3 wm_Jobj wc_Jobj (Nat.le_of_ble_eq_true rfl) (Nat.le_of_ble_eq_true rfl) ?_
  refine bf_aload_n 0 dX7_init_4 rfl rfl ?_
  refine bf_xnew (n := o + 1) (lvf := (fun ad => [(0, .ref (ad o))])) (stf := (fun ad => [.ref (ad o)])) tyX3 dX7_init_5 wq_X7_9 wj_X3 wi_X3 in_X3 tyX3_ok rfl (kx_7_1 hk) (by decide) (by decide) dv_3 (Nat.le_of_ble_eq_true rfl) (Nat.le_of_ble_eq_true rfl) hCl (fun ad2 h => ⟨by simp only [h o (by omega)], by simp only [h o (by omega)]⟩) ?_
  intro ad1 hA1 hCl1
  refine bf_widen (k2 := (1, 4)) (Nat.le_of_ble_eq_true rfl) (Nat.le_of_ble_eq_true rfl) ?_
  have hag1 : ∀ i, i < o + 1 → ad1 i = ad0 i := fun i hi => (hA1 i (by omega)).trans (hag i hi)
  clear hA1
  refine bf_dup dX7_init_8 rfl ?_
  refine bf_xcall (n2 := o + 26) (d := 2) (mc := 24) (ms := 888) (ν := mu_X3_init) (o := (o + 1)) (As := []) (I2 := (bf_w I o (fun _ => 0))) (L2 := L) (R2 := (bf_w Rf o (fun _ => none))) (lvf := (fun ad => [(0, .ref (ad o))])) (stf := (fun ad => [.ref (ad (o + 1)), .ref (ad o)])) dX7_init_9 rfl rfl wl_X7_11 wm_X3_init wi_X3 wc_X3_init rfl wx_X3_init ⟨(Nat.le_of_ble_eq_true rfl), (Nat.le_of_ble_eq_true rfl)⟩ ⟨(Nat.le_of_ble_eq_true rfl), (Nat.le_of_ble_eq_true rfl)⟩ (Nat.le_of_ble_eq_true rfl) (fun ad2 h => ⟨by simp only [h o (by omega)], by simp only [h o (by omega), h (o + 1) (by omega)]⟩) (okx_X3_init (kx_7_1 hk) (fun p h1 h2 => ⟨by rw [bf_w_ne (show p ≠ o by omega)]; exact (hp p (by omega) (by omega)).1, (hp p (by omega) (by omega)).2.1, by rw [bf_w_ne (show p ≠ o by omega)]; exact (hp p (by omega) (by omega)).2.2⟩) hCl1) ?_
  intro ad2 hA2 hCl2
  refine bf_widen (k2 := (25, 892)) (Nat.le_of_ble_eq_true rfl) (Nat.le_of_ble_eq_true rfl) ?_
  have hag2 : ∀ i, i < o + 1 → ad2 i = ad0 i := fun i hi => (hA2 i (by omega)).trans (hag1 i hi)
  clear hag1
  clear hCl1
  clear hA2
  refine bf_xputR (i := 0) (ty := tyX7 0) (t := o + 1) tyX7 dX7_init_12 wf_X7_12 (by omega) hk (by decide) rfl in_X7 tyX7_ok nmX7 (by decide) (by decide) (by decide) rfl rfl rfl (by decide +kernel) (fun _ => rfl) (fun _ => rfl) ?_
  rw [bf_u_w]
  have hCl3 : bf_Cl (o + 26) (bf_w Rf o (va_up (fun _ => none) 0 (some (o + 1)))) := by have h := bf_Cl_u (o := o) (i := 0) (t := o + 1) hCl2 (by omega); rw [bf_u_w] at h; exact h
  clear hCl2
  refine bf_aload_n 0 dX7_init_15 rfl rfl ?_
  refine bf_xnew (n := o + 26) (lvf := (fun ad => [(0, .ref (ad o))])) (stf := (fun ad => [.ref (ad o)])) tyX5 dX7_init_16 wq_X7_18 wj_X5 wi_X5 in_X5 tyX5_ok rfl (kx_7_26 hk) (by decide) (by decide) dv_5 (Nat.le_of_ble_eq_true rfl) (Nat.le_of_ble_eq_true rfl) hCl3 (fun ad2 h => ⟨by simp only [h o (by omega)], by simp only [h o (by omega)]⟩) ?_
  intro ad4 hA4 hCl4
  refine bf_widen (k2 := (26, 896)) (Nat.le_of_ble_eq_true rfl) (Nat.le_of_ble_eq_true rfl) ?_
  have hag4 : ∀ i, i < o + 1 → ad4 i = ad0 i := fun i hi => (hA4 i (by omega)).trans (hag2 i hi)
  clear hag2
  clear hCl3
  clear hA4
  refine bf_dup dX7_init_19 rfl ?_
  refine bf_iconst (v := 5) dX7_init_20 (by decide) ?_
  refine bf_xcall (n2 := o + 30) (d := 1) (mc := 3) (ms := 15) (ν := mu_X5_init) (o := (o + 26)) (As := [.int (5)]) (I2 := (bf_w I o (fun _ => 0))) (L2 := L) (R2 := (bf_w Rf o (va_up (fun _ => none) 0 (some (o + 1))))) (lvf := (fun ad => [(0, .ref (ad o))])) (stf := (fun ad => [.ref (ad (o + 26)), .ref (ad o)])) dX7_init_21 rfl rfl wl_X7_20 wm_X5_init wi_X5 wc_X5_init rfl wx_X5_init ⟨(Nat.le_of_ble_eq_true rfl), (Nat.le_of_ble_eq_true rfl)⟩ ⟨(Nat.le_of_ble_eq_true rfl), (Nat.le_of_ble_eq_true rfl)⟩ (Nat.le_of_ble_eq_true rfl) (fun ad2 h => ⟨by simp only [h o (by omega)], by simp only [h o (by omega), h (o + 26) (by omega)]⟩) (okx_X5_init_5 (kx_7_26 hk) (fun p h1 h2 => ⟨by rw [bf_w_ne (show p ≠ o by omega)]; exact (hp p (by omega) (by omega)).1, (hp p (by omega) (by omega)).2.1, by rw [bf_w_ne (show p ≠ o by omega)]; exact (hp p (by omega) (by omega)).2.2⟩) hCl4 (lx_7_27 hk) (lx_7_28 hk) (lx_7_29 hk)) ?_
  intro ad5 hA5 hCl5
  refine bf_widen (k2 := (29, 911)) (Nat.le_of_ble_eq_true rfl) (Nat.le_of_ble_eq_true rfl) ?_
  have hag5 : ∀ i, i < o + 1 → ad5 i = ad0 i := fun i hi => (hA5 i (by omega)).trans (hag4 i hi)
  clear hag4
  clear hCl4
  clear hA5
  refine bf_xputR (i := 1) (ty := tyX7 1) (t := o + 26) tyX7 dX7_init_24 wf_X7_23 (by omega) hk (by decide) rfl in_X7 tyX7_ok nmX7 (by decide) (by decide) (by decide) rfl rfl rfl (by decide +kernel) (fun _ => rfl) (fun _ => rfl) ?_
  rw [bf_u_w]
  have hCl6 : bf_Cl (o + 30) (bf_w Rf o (va_up (va_up (fun _ => none) 0 (some (o + 1))) 1 (some (o + 26)))) := by have h := bf_Cl_u (o := o) (i := 1) (t := o + 26) hCl5 (by omega); rw [bf_u_w] at h; exact h
  clear hCl5
  refine bf_aload_n 0 dX7_init_27 rfl rfl ?_
  refine bf_xnew (n := o + 30) (lvf := (fun ad => [(0, .ref (ad o))])) (stf := (fun ad => [.ref (ad o)])) tyX5 dX7_init_28 wq_X7_18 wj_X5 wi_X5 in_X5 tyX5_ok rfl (kx_7_30 hk) (by decide) (by decide) dv_5 (Nat.le_of_ble_eq_true rfl) (Nat.le_of_ble_eq_true rfl) hCl6 (fun ad2 h => ⟨by simp only [h o (by omega)], by simp only [h o (by omega)]⟩) ?_
  intro ad7 hA7 hCl7
  refine bf_widen (k2 := (30, 915)) (Nat.le_of_ble_eq_true rfl) (Nat.le_of_ble_eq_true rfl) ?_
  have hag7 : ∀ i, i < o + 1 → ad7 i = ad0 i := fun i hi => (hA7 i (by omega)).trans (hag5 i hi)
  clear hag5
  clear hCl6
  clear hA7
  refine bf_dup dX7_init_31 rfl ?_
  refine bf_bipush (v := 10) dX7_init_32 (by decide) ?_
  refine bf_xcall (n2 := o + 34) (d := 1) (mc := 3) (ms := 30) (ν := mu_X5_init) (o := (o + 30)) (As := [.int (10)]) (I2 := (bf_w I o (fun _ => 0))) (L2 := L) (R2 := (bf_w Rf o (va_up (va_up (fun _ => none) 0 (some (o + 1))) 1 (some (o + 26))))) (lvf := (fun ad => [(0, .ref (ad o))])) (stf := (fun ad => [.ref (ad (o + 30)), .ref (ad o)])) dX7_init_34 rfl rfl wl_X7_20 wm_X5_init wi_X5 wc_X5_init rfl wx_X5_init ⟨(Nat.le_of_ble_eq_true rfl), (Nat.le_of_ble_eq_true rfl)⟩ ⟨(Nat.le_of_ble_eq_true rfl), (Nat.le_of_ble_eq_true rfl)⟩ (Nat.le_of_ble_eq_true rfl) (fun ad2 h => ⟨by simp only [h o (by omega)], by simp only [h o (by omega), h (o + 30) (by omega)]⟩) (okx_X5_init_10 (kx_7_30 hk) (fun p h1 h2 => ⟨by rw [bf_w_ne (show p ≠ o by omega)]; exact (hp p (by omega) (by omega)).1, (hp p (by omega) (by omega)).2.1, by rw [bf_w_ne (show p ≠ o by omega)]; exact (hp p (by omega) (by omega)).2.2⟩) hCl7 (lx_7_31 hk) (lx_7_32 hk) (lx_7_33 hk)) ?_
  intro ad8 hA8 hCl8
  refine bf_widen (k2 := (33, 945)) (Nat.le_of_ble_eq_true rfl) (Nat.le_of_ble_eq_true rfl) ?_
  have hag8 : ∀ i, i < o + 1 → ad8 i = ad0 i := fun i hi => (hA8 i (by omega)).trans (hag7 i hi)
  clear hag7
  clear hCl7
  clear hA8
  refine bf_xputR (i := 2) (ty := tyX7 2) (t := o + 30) tyX7 dX7_init_37 wf_X7_27 (by omega) hk (by decide) rfl in_X7 tyX7_ok nmX7 (by decide) (by decide) (by decide) rfl rfl rfl (by decide +kernel) (fun _ => rfl) (fun _ => rfl) ?_
  rw [bf_u_w]
  have hCl9 : bf_Cl (o + 34) (bf_w Rf o (va_up (va_up (va_up (fun _ => none) 0 (some (o + 1))) 1 (some (o + 26))) 2 (some (o + 30)))) := by have h := bf_Cl_u (o := o) (i := 2) (t := o + 30) hCl8 (by omega); rw [bf_u_w] at h; exact h
  clear hCl8
  refine bf_aload_n 0 dX7_init_40 rfl rfl ?_
  refine bf_xnew (n := o + 34) (lvf := (fun ad => [(0, .ref (ad o))])) (stf := (fun ad => [.ref (ad o)])) tyX5 dX7_init_41 wq_X7_18 wj_X5 wi_X5 in_X5 tyX5_ok rfl (kx_7_34 hk) (by decide) (by decide) dv_5 (Nat.le_of_ble_eq_true rfl) (Nat.le_of_ble_eq_true rfl) hCl9 (fun ad2 h => ⟨by simp only [h o (by omega)], by simp only [h o (by omega)]⟩) ?_
  intro ad10 hA10 hCl10
  refine bf_widen (k2 := (34, 949)) (Nat.le_of_ble_eq_true rfl) (Nat.le_of_ble_eq_true rfl) ?_
  have hag10 : ∀ i, i < o + 1 → ad10 i = ad0 i := fun i hi => (hA10 i (by omega)).trans (hag8 i hi)
  clear hag8
  clear hCl9
  clear hA10
  refine bf_dup dX7_init_44 rfl ?_
  refine bf_bipush (v := 8) dX7_init_45 (by decide) ?_
  refine bf_xcall (n2 := o + 38) (d := 1) (mc := 3) (ms := 24) (ν := mu_X5_init) (o := (o + 34)) (As := [.int (8)]) (I2 := (bf_w I o (fun _ => 0))) (L2 := L) (R2 := (bf_w Rf o (va_up (va_up (va_up (fun _ => none) 0 (some (o + 1))) 1 (some (o + 26))) 2 (some (o + 30))))) (lvf := (fun ad => [(0, .ref (ad o))])) (stf := (fun ad => [.ref (ad (o + 34)), .ref (ad o)])) dX7_init_47 rfl rfl wl_X7_20 wm_X5_init wi_X5 wc_X5_init rfl wx_X5_init ⟨(Nat.le_of_ble_eq_true rfl), (Nat.le_of_ble_eq_true rfl)⟩ ⟨(Nat.le_of_ble_eq_true rfl), (Nat.le_of_ble_eq_true rfl)⟩ (Nat.le_of_ble_eq_true rfl) (fun ad2 h => ⟨by simp only [h o (by omega)], by simp only [h o (by omega), h (o + 34) (by omega)]⟩) (okx_X5_init_8 (kx_7_34 hk) (fun p h1 h2 => ⟨by rw [bf_w_ne (show p ≠ o by omega)]; exact (hp p (by omega) (by omega)).1, (hp p (by omega) (by omega)).2.1, by rw [bf_w_ne (show p ≠ o by omega)]; exact (hp p (by omega) (by omega)).2.2⟩) hCl10 (lx_7_35 hk) (lx_7_36 hk) (lx_7_37 hk)) ?_
  intro ad11 hA11 hCl11
  refine bf_widen (k2 := (37, 973)) (Nat.le_of_ble_eq_true rfl) (Nat.le_of_ble_eq_true rfl) ?_
  have hag11 : ∀ i, i < o + 1 → ad11 i = ad0 i := fun i hi => (hA11 i (by omega)).trans (hag10 i hi)
  clear hag10
  clear hCl10
  clear hA11
  refine bf_xputR (i := 3) (ty := tyX7 3) (t := o + 34) tyX7 dX7_init_50 wf_X7_30 (by omega) hk (by decide) rfl in_X7 tyX7_ok nmX7 (by decide) (by decide) (by decide) rfl rfl rfl (by decide +kernel) (fun _ => rfl) (fun _ => rfl) ?_
  rw [bf_u_w]
  have hCl12 : bf_Cl (o + 38) (bf_w Rf o (va_up (va_up (va_up (va_up (fun _ => none) 0 (some (o + 1))) 1 (some (o + 26))) 2 (some (o + 30))) 3 (some (o + 34)))) := by have h := bf_Cl_u (o := o) (i := 3) (t := o + 34) hCl11 (by omega); rw [bf_u_w] at h; exact h
  clear hCl11
  have eI : bf_w I o (fun _ => 0) = I := bf_wS (by rw [(hp o (by omega) (by omega)).1]; exact ri_7 hk)
  have eR : bf_w Rf o (va_up (va_up (va_up (va_up (fun _ => none) 0 (some (o + 1))) 1 (some (o + 26))) 2 (some (o + 30))) 3 (some (o + 34))) = Rf := bf_wS (by rw [(hp o (by omega) (by omega)).2.2]; exact rr_7 hk)
  rw [eI, eR]
  rw [eR] at hCl12
  exact bf_vret dX7_init_53 rfl (Nat.le_of_ble_eq_true rfl) (Nat.le_of_ble_eq_true rfl) ⟨rfl, _, hag11, rfl, hCl12⟩
set_option maxRecDepth 100000 in
set_option maxHeartbeats 40000000 in
theorem okx_X6_init {Γ : bf_Gm} {o : Nat} {ad0 : Nat → Nat} {I : Nat → Nat → Int32} {L : Nat → Nat → Int64} {Rf : Nat → Nat → Option Nat} (hk : bf_kd o = 6) (hp : bf_Fu o 8 I L Rf) (hCl : bf_Cl (o + 1) (bf_w Rf o (fun _ => none))) : bf_Cn Γ 2 mu_X6_init 7 395 [.ref (ad0 o)] (o + 1, ad0, bf_w I o (fun _ => 0), L, bf_w Rf o (fun _ => none)) (bf_Qx (o + 1) ad0 (o + 8) I L Rf) := by
  refine bf_met rfl (Nat.le_of_ble_eq_true rfl) ?_
  have hag : ∀ i, i < o + 1 → ad0 i = ad0 i := fun _ _ => rfl
  refine bf_aload_n 0 dX6_init_0 rfl rfl ?_
  refine bf_xobj dX6_init_1 wl_X6_3 wm_Jobj wc_Jobj (Nat.le_of_ble_eq_true rfl) (Nat.le_of_ble_eq_true rfl) ?_
  refine bf_aload_n 0 dX6_init_4 rfl rfl ?_
  refine bf_bipush (v := 6) dX6_init_5 (by decide) ?_
  refine bf_xnewI (n := o + 1) (lvf := (fun ad => [(0, .ref (ad o))])) (stf := (fun ad => [.ref (ad o)])) (N := 6) dX6_init_7 wy_int (by decide) (by decide) (by decide) (kx_6_1 hk) (lx_6_1 hk) (by rw [bf_w_ne (show o + 1 ≠ o by omega), (hp (o + 1) (by omega) (by omega)).1]; exact bf_I0_z (by rw [(kx_6_1 hk)]; decide) (nx_6_1 hk)) (fun j => by rw [bf_w_ne (show o + 1 ≠ o by omega), (hp (o + 1) (by omega) (by omega)).2.2]; exact bf_R0_z (by rw [(kx_6_1 hk)]; decide) (by rw [(kx_6_1 hk)]; decide)) (Nat.le_of_ble_eq_true rfl) (Nat.le_of_ble_eq_true rfl) hCl (fun ad2 h => ⟨by simp only [h o (by omega)], by simp only [h o (by omega)]⟩) ?_
  intro ad1 hA1 hCl1
  refine bf_widen (k2 := (1, 6)) (Nat.le_of_ble_eq_true rfl) (Nat.le_of_ble_eq_true rfl) ?_
  have hag1 : ∀ i, i < o + 1 → ad1 i = ad0 i := fun i hi => (hA1 i (by omega)).trans (hag i hi)
  clear hA1
  refine bf_xputR (i := 3) (ty := tyX6 3) (t := o + 1) tyX6 dX6_init_9 wf_X6_9 (by omega) hk (by decide) rfl in_X6 tyX6_ok nmX6 (by decide) (by decide) (by decide) rfl rfl rfl (by decide +kernel) (fun _ => rfl) (fun _ => rfl) ?_
  rw [bf_u_w]
  have hCl2 : bf_Cl (o + 2) (bf_w Rf o (va_up (fun _ => none) 3 (some (o + 1)))) := by have h := bf_Cl_u (o := o) (i := 3) (t := o + 1) hCl1 (by omega); rw [bf_u_w] at h; exact h
  clear hCl1
  refine bf_aload_n 0 dX6_init_12 rfl rfl ?_
  refine bf_sipush (v := 360) dX6_init_13 (by decide) ?_
  refine bf_xnewI (n := o + 2) (lvf := (fun ad => [(0, .ref (ad o))])) (stf := (fun ad => [.ref (ad o)])) (N := 360) dX6_init_16 wy_int (by decide) (by decide) (by decide) (kx_6_2 hk) (lx_6_2 hk) (by rw [bf_w_ne (show o + 2 ≠ o by omega), (hp (o + 2) (by omega) (by omega)).1]; exact bf_I0_z (by rw [(kx_6_2 hk)]; decide) (nx_6_2 hk)) (fun j => by rw [bf_w_ne (show o + 2 ≠ o by omega), (hp (o + 2) (by omega) (by omega)).2.2]; exact bf_R0_z (by rw [(kx_6_2 hk)]; decide) (by rw [(kx_6_2 hk)]; decide)) (Nat.le_of_ble_eq_true rfl) (Nat.le_of_ble_eq_true rfl) hCl2 (fun ad2 h => ⟨by simp only [h o (by omega)], by simp only [h o (by omega)]⟩) ?_
  intro ad3 hA3 hCl3
  refine bf_widen (k2 := (2, 366)) (Nat.le_of_ble_eq_true rfl) (Nat.le_of_ble_eq_true rfl) ?_
  have hag3 : ∀ i, i < o + 1 → ad3 i = ad0 i := fun i hi => (hA3 i (by omega)).trans (hag1 i hi)
  clear hag1
  clear hCl2
  clear hA3
  refine bf_xputR (i := 4) (ty := tyX6 4) (t := o + 2) tyX6 dX6_init_18 wf_X6_15 (by omega) hk (by decide) rfl in_X6 tyX6_ok nmX6 (by decide) (by decide) (by decide) rfl rfl rfl (by decide +kernel) (fun _ => rfl) (fun _ => rfl) ?_
  rw [bf_u_w]
  have hCl4 : bf_Cl (o + 3) (bf_w Rf o (va_up (va_up (fun _ => none) 3 (some (o + 1))) 4 (some (o + 2)))) := by have h := bf_Cl_u (o := o) (i := 4) (t := o + 2) hCl3 (by omega); rw [bf_u_w] at h; exact h
  clear hCl3
  refine bf_aload_n 0 dX6_init_21 rfl rfl ?_
  refine bf_bipush (v := 8) dX6_init_22 (by decide) ?_
  refine bf_xnewI (n := o + 3) (lvf := (fun ad => [(0, .ref (ad o))])) (stf := (fun ad => [.ref (ad o)])) (N := 8) dX6_init_24 wy_int (by decide) (by decide) (by decide) (kx_6_3 hk) (lx_6_3 hk) (by rw [bf_w_ne (show o + 3 ≠ o by omega), (hp (o + 3) (by omega) (by omega)).1]; exact bf_I0_z (by rw [(kx_6_3 hk)]; decide) (nx_6_3 hk)) (fun j => by rw [bf_w_ne (show o + 3 ≠ o by omega), (hp (o + 3) (by omega) (by omega)).2.2]; exact bf_R0_z (by rw [(kx_6_3 hk)]; decide) (by rw [(kx_6_3 hk)]; decide)) (Nat.le_of_ble_eq_true rfl) (Nat.le_of_ble_eq_true rfl) hCl4 (fun ad2 h => ⟨by simp only [h o (by omega)], by simp only [h o (by omega)]⟩) ?_
  intro ad5 hA5 hCl5
  refine bf_widen (k2 := (3, 374)) (Nat.le_of_ble_eq_true rfl) (Nat.le_of_ble_eq_true rfl) ?_
  have hag5 : ∀ i, i < o + 1 → ad5 i = ad0 i := fun i hi => (hA5 i (by omega)).trans (hag3 i hi)
  clear hag3
  clear hCl4
  clear hA5
  refine bf_xputR (i := 6) (ty := tyX6 6) (t := o + 3) tyX6 dX6_init_26 wf_X6_18 (by omega) hk (by decide) rfl in_X6 tyX6_ok nmX6 (by decide) (by decide) (by decide) rfl rfl rfl (by decide +kernel) (fun _ => rfl) (fun _ => rfl) ?_
  rw [bf_u_w]
  have hCl6 : bf_Cl (o + 4) (bf_w Rf o (va_up (va_up (va_up (fun _ => none) 3 (some (o + 1))) 4 (some (o + 2))) 6 (some (o + 3)))) := by have h := bf_Cl_u (o := o) (i := 6) (t := o + 3) hCl5 (by omega); rw [bf_u_w] at h; exact h
  clear hCl5
  refine bf_aload_n 0 dX6_init_29 rfl rfl ?_
  refine bf_bipush (v := 6) dX6_init_30 (by decide) ?_
  refine bf_xnewI (n := o + 4) (lvf := (fun ad => [(0, .ref (ad o))])) (stf := (fun ad => [.ref (ad o)])) (N := 6) dX6_init_32 wy_int (by decide) (by decide) (by decide) (kx_6_4 hk) (lx_6_4 hk) (by rw [bf_w_ne (show o + 4 ≠ o by omega), (hp (o + 4) (by omega) (by omega)).1]; exact bf_I0_z (by rw [(kx_6_4 hk)]; decide) (nx_6_4 hk)) (fun j => by rw [bf_w_ne (show o + 4 ≠ o by omega), (hp (o + 4) (by omega) (by omega)).2.2]; exact bf_R0_z (by rw [(kx_6_4 hk)]; decide) (by rw [(kx_6_4 hk)]; decide)) (Nat.le_of_ble_eq_true rfl) (Nat.le_of_ble_eq_true rfl) hCl6 (fun ad2 h => ⟨by simp only [h o (by omega)], by simp only [h o (by omega)]⟩) ?_
  intro ad7 hA7 hCl7
  refine bf_widen (k2 := (4, 380)) (Nat.le_of_ble_eq_true rfl) (Nat.le_of_ble_eq_true rfl) ?_
  have hag7 : ∀ i, i < o + 1 → ad7 i = ad0 i := fun i hi => (hA7 i (by omega)).trans (hag5 i hi)
  clear hag5
  clear hCl6
  clear hA7
  refine bf_xputR (i := 7) (ty := tyX6 7) (t := o + 4) tyX6 dX6_init_34 wf_X6_21 (by omega) hk (by decide) rfl in_X6 tyX6_ok nmX6 (by decide) (by decide) (by decide) rfl rfl rfl (by decide +kernel) (fun _ => rfl) (fun _ => rfl) ?_
  rw [bf_u_w]
  have hCl8 : bf_Cl (o + 5) (bf_w Rf o (va_up (va_up (va_up (va_up (fun _ => none) 3 (some (o + 1))) 4 (some (o + 2))) 6 (some (o + 3))) 7 (some (o + 4)))) := by have h := bf_Cl_u (o := o) (i := 7) (t := o + 4) hCl7 (by omega); rw [bf_u_w] at h; exact h
  clear hCl7
  refine bf_aload_n 0 dX6_init_37 rfl rfl ?_
  refine bf_bipush (v := 6) dX6_init_38 (by decide) ?_
  refine bf_xnewI (n := o + 5) (lvf := (fun ad => [(0, .ref (ad o))])) (stf := (fun ad => [.ref (ad o)])) (N := 6) dX6_init_40 wy_int (by decide) (by decide) (by decide) (kx_6_5 hk) (lx_6_5 hk) (by rw [bf_w_ne (show o + 5 ≠ o by omega), (hp (o + 5) (by omega) (by omega)).1]; exact bf_I0_z (by rw [(kx_6_5 hk)]; decide) (nx_6_5 hk)) (fun j => by rw [bf_w_ne (show o + 5 ≠ o by omega), (hp (o + 5) (by omega) (by omega)).2.2]; exact bf_R0_z (by rw [(kx_6_5 hk)]; decide) (by rw [(kx_6_5 hk)]; decide)) (Nat.le_of_ble_eq_true rfl) (Nat.le_of_ble_eq_true rfl) hCl8 (fun ad2 h => ⟨by simp only [h o (by omega)], by simp only [h o (by omega)]⟩) ?_
  intro ad9 hA9 hCl9
  refine bf_widen (k2 := (5, 386)) (Nat.le_of_ble_eq_true rfl) (Nat.le_of_ble_eq_true rfl) ?_
  have hag9 : ∀ i, i < o + 1 → ad9 i = ad0 i := fun i hi => (hA9 i (by omega)).trans (hag7 i hi)
  clear hag7
  clear hCl8
  clear hA9
  refine bf_xputR (i := 8) (ty := tyX6 8) (t := o + 5) tyX6 dX6_init_42 wf_X6_24 (by omega) hk (by decide) rfl in_X6 tyX6_ok nmX6 (by decide) (by decide) (by decide) rfl rfl rfl (by decide +kernel) (fun _ => rfl) (fun _ => rfl) ?_
  rw [bf_u_w]
  have hCl10 : bf_Cl (o + 6) (bf_w Rf o (va_up (va_up (va_up (va_up (va_up (fun _ => none) 3 (some (o + 1))) 4 (some (o + 2))) 6 (some (o + 3))) 7 (some (o + 4))) 8 (some (o + 5)))) := by have h := bf_Cl_u (o := o) (i := 8) (t := o + 5) hCl9 (by omega); rw [bf_u_w] at h; exact h
  clear hCl9
  refine bf_aload_n 0 dX6_init_45 rfl rfl ?_
  refine bf_xnew (n := o + 6) (lvf := (fun ad => [(0, .ref (ad o))])) (stf := (fun ad => [.ref (ad o)])) tyX2 dX6_init_46 wq_X6_27 wj_X2 wi_X2 in_X2 tyX2_ok rfl (kx_6_6 hk) (by decide) (by decide) dv_2 (Nat.le_of_ble_eq_true rfl) (Nat.le_of_ble_eq_true rfl) hCl10 (fun ad2 h => ⟨by simp only [h o (by omega)], by simp only [h o (by omega)]⟩) ?_
  intro ad11 hA11 hCl11
  refine bf_widen (k2 := (6, 387)) (Nat.le_of_ble_eq_true rfl) (Nat.le_of_ble_eq_true rfl) ?_
  have hag11 : ∀ i, i < o + 1 → ad11 i = ad0 i := fun i hi => (hA11 i (by omega)).trans (hag9 i hi)
  clear hag9
  clear hCl10
  clear hA11
  refine bf_dup dX6_init_49 rfl ?_
  refine bf_xcall (n2 := o + 8) (d := 1) (mc := 1) (ms := 8) (ν := mu_X2_init) (o := (o + 6)) (As := []) (I2 := (bf_w I o (fun _ => 0))) (L2 := L) (R2 := (bf_w Rf o (va_up (va_up (va_up (va_up (va_up (fun _ => none) 3 (some (o + 1))) 4 (some (o + 2))) 6 (some (o + 3))) 7 (some (o + 4))) 8 (some (o + 5))))) (lvf := (fun ad => [(0, .ref (ad o))])) (stf := (fun ad => [.ref (ad (o + 6)), .ref (ad o)])) dX6_init_50 rfl rfl wl_X6_29 wm_X2_init wi_X2 wc_X2_init rfl wx_X2_init ⟨(Nat.le_of_ble_eq_true rfl), (Nat.le_of_ble_eq_true rfl)⟩ ⟨(Nat.le_of_ble_eq_true rfl), (Nat.le_of_ble_eq_true rfl)⟩ (Nat.le_of_ble_eq_true rfl) (fun ad2 h => ⟨by simp only [h o (by omega)], by simp only [h o (by omega), h (o + 6) (by omega)]⟩) (okx_X2_init (kx_6_6 hk) (fun p h1 h2 => ⟨by rw [bf_w_ne (show p ≠ o by omega)]; exact (hp p (by omega) (by omega)).1, (hp p (by omega) (by omega)).2.1, by rw [bf_w_ne (show p ≠ o by omega)]; exact (hp p (by omega) (by omega)).2.2⟩) hCl11) ?_
  intro ad12 hA12 hCl12
  refine bf_widen (k2 := (7, 395)) (Nat.le_of_ble_eq_true rfl) (Nat.le_of_ble_eq_true rfl) ?_
  have hag12 : ∀ i, i < o + 1 → ad12 i = ad0 i := fun i hi => (hA12 i (by omega)).trans (hag11 i hi)
  clear hag11
  clear hCl11
  clear hA12
  refine bf_xputR (i := 9) (ty := tyX6 9) (t := o + 6) tyX6 dX6_init_53 wf_X6_30 (by omega) hk (by decide) rfl in_X6 tyX6_ok nmX6 (by decide) (by decide) (by decide) rfl rfl rfl (by decide +kernel) (fun _ => rfl) (fun _ => rfl) ?_
  rw [bf_u_w]
  have hCl13 : bf_Cl (o + 8) (bf_w Rf o (va_up (va_up (va_up (va_up (va_up (va_up (fun _ => none) 3 (some (o + 1))) 4 (some (o + 2))) 6 (some (o + 3))) 7 (some (o + 4))) 8 (some (o + 5))) 9 (some (o + 6)))) := by have h := bf_Cl_u (o := o) (i := 9) (t := o + 6) hCl12 (by omega); rw [bf_u_w] at h; exact h
  clear hCl12
  have eI : bf_w I o (fun _ => 0) = I := bf_wS (by rw [(hp o (by omega) (by omega)).1]; exact ri_6 hk)
  have eR : bf_w Rf o (va_up (va_up (va_up (va_up (va_up (va_up (fun _ => none) 3 (some (o + 1))) 4 (some (o + 2))) 6 (some (o + 3))) 7 (some (o + 4))) 8 (some (o + 5))) 9 (some (o + 6))) = Rf := bf_wS (by rw [(hp o (by omega) (by omega)).2.2]; exact rr_6 hk)
  rw [eI, eR]
  rw [eR] at hCl13
  exact bf_vret dX6_init_56 rfl (Nat.le_of_ble_eq_true rfl) (Nat.le_of_ble_eq_true rfl) ⟨rfl, _, hag12, rfl, hCl13⟩
set_option maxRecDepth 100000 in
set_option maxHeartbeats 40000000 in
theorem okx_X4_init {Γ : bf_Gm} {o : Nat} {ad0 : Nat → Nat} {I : Nat → Nat → Int32} {L : Nat → Nat → Int64} {Rf : Nat → Nat → Option Nat} (hk : bf_kd o = 4) (hp : bf_Fu o 14 I L Rf) (hCl : bf_Cl (o + 1) (bf_w Rf o (fun _ => none))) : bf_Cn Γ 2 mu_X4_init 13 96 [.ref (ad0 o)] (o + 1, ad0, bf_w I o (fun _ => 0), L, bf_w Rf o (fun _ => none)) (bf_Qx (o + 1) ad0 (o + 14) I L Rf) := by
  refine bf_met rfl (Nat.le_of_ble_eq_true rfl) ?_
  have hag : ∀ i, i < o + 1 → ad0 i = ad0 i := fun _ _ => rfl
  refine bf_aload_n 0 dX4_init_0 rfl rfl ?_
  refine bf_xobj dX4_init_1 wl_X4_3 wm_Jobj wc_Jobj (Nat.le_of_ble_eq_true rfl) (Nat.le_of_ble_eq_true rfl) ?_
  refine bf_aload_n 0 dX4_init_4 rfl rfl ?_
  refine bf_xnew (n := o + 1) (lvf := (fun ad => [(0, .ref (ad o))])) (stf := (fun ad => [.ref (ad o)])) tyX2 dX4_init_5 wq_X4_9 wj_X2 wi_X2 in_X2 tyX2_ok rfl (kx_4_1 hk) (by decide) (by decide) dv_2 (Nat.le_of_ble_eq_true rfl) (Nat.le_of_ble_eq_true rfl) hCl (fun ad2 h => ⟨by simp only [h o (by omega)], by simp only [h o (by omega)]⟩) ?_
  intro ad1 hA1 hCl1
  refine bf_widen (k2 := (1, 1)) (Nat.le_of_ble_eq_true rfl) (Nat.le_of_ble_eq_true rfl) ?_
  have hag1 : ∀ i, i < o + 1 → ad1 i = ad0 i := fun i hi => (hA1 i (by omega)).trans (hag i hi)
  clear hA1
  refine bf_dup dX4_init_8 rfl ?_
  refine bf_xcall (n2 := o + 3) (d := 1) (mc := 1) (ms := 8) (ν := mu_X2_init) (o := (o + 1)) (As := []) (I2 := (bf_w I o (fun _ => 0))) (L2 := L) (R2 := (bf_w Rf o (fun _ => none))) (lvf := (fun ad => [(0, .ref (ad o))])) (stf := (fun ad => [.ref (ad (o + 1)), .ref (ad o)])) dX4_init_9 rfl rfl wl_X4_11 wm_X2_init wi_X2 wc_X2_init rfl wx_X2_init ⟨(Nat.le_of_ble_eq_true rfl), (Nat.le_of_ble_eq_true rfl)⟩ ⟨(Nat.le_of_ble_eq_true rfl), (Nat.le_of_ble_eq_true rfl)⟩ (Nat.le_of_ble_eq_true rfl) (fun ad2 h => ⟨by simp only [h o (by omega)], by simp only [h o (by omega), h (o + 1) (by omega)]⟩) (okx_X2_init (kx_4_1 hk) (fun p h1 h2 => ⟨by rw [bf_w_ne (show p ≠ o by omega)]; exact (hp p (by omega) (by omega)).1, (hp p (by omega) (by omega)).2.1, by rw [bf_w_ne (show p ≠ o by omega)]; exact (hp p (by omega) (by omega)).2.2⟩) hCl1) ?_
  intro ad2 hA2 hCl2
  refine bf_widen (k2 := (2, 9)) (Nat.le_of_ble_eq_true rfl) (Nat.le_of_ble_eq_true rfl) ?_
  have hag2 : ∀ i, i < o + 1 → ad2 i = ad0 i := fun i hi => (hA2 i (by omega)).trans (hag1 i hi)
  clear hag1
  clear hCl1
  clear hA2
  refine bf_xputR (i := 0) (ty := tyX4 0) (t := o + 1) tyX4 dX4_init_12 wf_X4_12 (by omega) hk (by decide) rfl in_X4 tyX4_ok nmX4 (by decide) (by decide) (by decide) rfl rfl rfl (by decide +kernel) (fun _ => rfl) (fun _ => rfl) ?_
  rw [bf_u_w]
  have hCl3 : bf_Cl (o + 3) (bf_w Rf o (va_up (fun _ => none) 0 (some (o + 1)))) := by have h := bf_Cl_u (o := o) (i := 0) (t := o + 1) hCl2 (by omega); rw [bf_u_w] at h; exact h
  clear hCl2
  refine bf_aload_n 0 dX4_init_15 rfl rfl ?_
  refine bf_bipush (v := 6) dX4_init_16 (by decide) ?_
  refine bf_xnewI (n := o + 3) (lvf := (fun ad => [(0, .ref (ad o))])) (stf := (fun ad => [.ref (ad o)])) (N := 6) dX4_init_18 wy_int (by decide) (by decide) (by decide) (kx_4_3 hk) (lx_4_3 hk) (by rw [bf_w_ne (show o + 3 ≠ o by omega), (hp (o + 3) (by omega) (by omega)).1]; exact bf_I0_z (by rw [(kx_4_3 hk)]; decide) (nx_4_3 hk)) (fun j => by rw [bf_w_ne (show o + 3 ≠ o by omega), (hp (o + 3) (by omega) (by omega)).2.2]; exact bf_R0_z (by rw [(kx_4_3 hk)]; decide) (by rw [(kx_4_3 hk)]; decide)) (Nat.le_of_ble_eq_true rfl) (Nat.le_of_ble_eq_true rfl) hCl3 (fun ad2 h => ⟨by simp only [h o (by omega)], by simp only [h o (by omega)]⟩) ?_
  intro ad4 hA4 hCl4
  refine bf_widen (k2 := (3, 15)) (Nat.le_of_ble_eq_true rfl) (Nat.le_of_ble_eq_true rfl) ?_
  have hag4 : ∀ i, i < o + 1 → ad4 i = ad0 i := fun i hi => (hA4 i (by omega)).trans (hag2 i hi)
  clear hag2
  clear hCl3
  clear hA4
  refine bf_xputR (i := 1) (ty := tyX4 1) (t := o + 3) tyX4 dX4_init_20 wf_X4_18 (by omega) hk (by decide) rfl in_X4 tyX4_ok nmX4 (by decide) (by decide) (by decide) rfl rfl rfl (by decide +kernel) (fun _ => rfl) (fun _ => rfl) ?_
  rw [bf_u_w]
  have hCl5 : bf_Cl (o + 4) (bf_w Rf o (va_up (va_up (fun _ => none) 0 (some (o + 1))) 1 (some (o + 3)))) := by have h := bf_Cl_u (o := o) (i := 1) (t := o + 3) hCl4 (by omega); rw [bf_u_w] at h; exact h
  clear hCl4
  refine bf_aload_n 0 dX4_init_23 rfl rfl ?_
  refine bf_bipush (v := 9) dX4_init_24 (by decide) ?_
  refine bf_bipush (v := 8) dX4_init_26 (by decide) ?_
  refine bf_xmulti (n := o + 4) (lvf := (fun ad => [(0, .ref (ad o))])) (stf := (fun ad => [.ref (ad o)])) dX4_init_28 wq_X4_22 wy_int (kx_4_4 hk) (fun j hj => ⟨(km_4 hk j hj), (lm_4 hk j hj)⟩) (lx_4_4 hk) (fun j hj => by rw [bf_w_ne (show o + 4 + 1 + j ≠ o by omega), (hp (o + 4 + 1 + j) (by omega) (by omega)).1]; exact bf_I0_z (by rw [km_4 hk j hj]; decide) (by have := bf_kd_lt hk (by decide); exact ne170m hk j hj)) (by rw [bf_w_ne (show o + 4 ≠ o by omega), (hp (o + 4) (by omega) (by omega)).2.2]; exact rm_20 (kx_4_4 hk)) (fun j hj q => by rw [bf_w_ne (show o + 4 + 1 + j ≠ o by omega), (hp (o + 4 + 1 + j) (by omega) (by omega)).2.2]; exact bf_R0_z (by rw [km_4 hk j hj]; decide) (by rw [km_4 hk j hj]; decide)) (Nat.le_of_ble_eq_true rfl) (Nat.le_of_ble_eq_true rfl) hCl5 (fun ad2 h => ⟨by simp only [h o (by omega)], by simp only [h o (by omega)]⟩) ?_
  intro ad6 hA6 hCl6
  refine bf_widen (k2 := (13, 96)) (Nat.le_of_ble_eq_true rfl) (Nat.le_of_ble_eq_true rfl) ?_
  have hag6 : ∀ i, i < o + 1 → ad6 i = ad0 i := fun i hi => (hA6 i (by omega)).trans (hag4 i hi)
  clear hag4
  clear hCl5
  clear hA6
  refine bf_xputR (i := 2) (ty := tyX4 2) (t := o + 4) tyX4 dX4_init_32 wf_X4_24 (by omega) hk (by decide) rfl in_X4 tyX4_ok nmX4 (by decide) (by decide) (by decide) rfl rfl rfl (by decide +kernel) (fun _ => rfl) (fun _ => rfl) ?_
  rw [bf_u_w]
  have hCl7 : bf_Cl (o + 14) (bf_w Rf o (va_up (va_up (va_up (fun _ => none) 0 (some (o + 1))) 1 (some (o + 3))) 2 (some (o + 4)))) := by have h := bf_Cl_u (o := o) (i := 2) (t := o + 4) hCl6 (by omega); rw [bf_u_w] at h; exact h
  clear hCl6
  have eI : bf_w I o (fun _ => 0) = I := bf_wS (by rw [(hp o (by omega) (by omega)).1]; exact ri_4 hk)
  have eR : bf_w Rf o (va_up (va_up (va_up (fun _ => none) 0 (some (o + 1))) 1 (some (o + 3))) 2 (some (o + 4))) = Rf := bf_wS (by rw [(hp o (by omega) (by omega)).2.2]; exact rr_4 hk)
  rw [eI, eR]
  rw [eR] at hCl7
  exact bf_vret dX4_init_35 rfl (Nat.le_of_ble_eq_true rfl) (Nat.le_of_ble_eq_true rfl) ⟨rfl, _, hag6, rfl, hCl7⟩
set_option maxRecDepth 100000 in
set_option maxHeartbeats 40000000 in
theorem okx_X9_init {Γ : bf_Gm} {o : Nat} {ad0 : Nat → Nat} {I : Nat → Nat → Int32} {L : Nat → Nat → Int64} {Rf : Nat → Nat → Option Nat} (hk : bf_kd o = 9) (hp : bf_Fu o 19 I L Rf) (hCl : bf_Cl (o + 1) (bf_w Rf o (fun _ => none))) : bf_Cn Γ 2 mu_X9_init 18 204 [.ref (ad0 o)] (o + 1, ad0, bf_w I o (fun _ => 0), L, bf_w Rf o (fun _ => none)) (bf_Qx (o + 1) ad0 (o + 19) I L Rf) := by
  refine bf_met rfl (Nat.le_of_ble_eq_true rfl) ?_
  have hag : ∀ i, i < o + 1 → ad0 i = ad0 i := fun _ _ => rfl
  refine bf_aload_n 0 dX9_init_0 rfl rfl ?_
  refine bf_xobj dX9_init_1 wl_X9_3 wm_Jobj wc_Jobj (Nat.le_of_ble_eq_true rfl) (Nat.le_of_ble_eq_true rfl) ?_
  refine bf_aload_n 0 dX9_init_4 rfl rfl ?_
  refine bf_iconst (v := 0) dX9_init_5 (by decide) ?_
  refine bf_xputI (i := 0) (ty := .int) tyX9 dX9_init_6 wf_X9_9 (by omega) hk (by decide) rfl in_X9 tyX9_ok nmX9 (by decide) (by decide) (by decide) rfl (by decide +kernel) rfl rfl ?_
  rw [bf_u_w]
  refine bf_aload_n 0 dX9_init_9 rfl rfl ?_
  refine bf_bipush (v := 100) dX9_init_10 (by decide) ?_
  refine bf_xnewB (n := o + 1) (lvf := (fun ad => [(0, .ref (ad o))])) (stf := (fun ad => [.ref (ad o)])) (N := 100) dX9_init_12 wy_byte (by decide) (by decide) (by decide) (kx_9_1 hk) (lx_9_1 hk) (by rw [bf_w_ne (show o + 1 ≠ o by omega), (hp (o + 1) (by omega) (by omega)).1]; exact bf_I0_z (by rw [(kx_9_1 hk)]; decide) (nx_9_1 hk)) (fun j => by rw [bf_w_ne (show o + 1 ≠ o by omega), (hp (o + 1) (by omega) (by omega)).2.2]; exact bf_R0_z (by rw [(kx_9_1 hk)]; decide) (by rw [(kx_9_1 hk)]; decide)) (Nat.le_of_ble_eq_true rfl) (Nat.le_of_ble_eq_true rfl) hCl (fun ad2 h => ⟨by simp only [h o (by omega)], by simp only [h o (by omega)]⟩) ?_
  intro ad1 hA1 hCl1
  refine bf_widen (k2 := (1, 100)) (Nat.le_of_ble_eq_true rfl) (Nat.le_of_ble_eq_true rfl) ?_
  have hag1 : ∀ i, i < o + 1 → ad1 i = ad0 i := fun i hi => (hA1 i (by omega)).trans (hag i hi)
  clear hA1
  refine bf_xputR (i := 3) (ty := tyX9 3) (t := o + 1) tyX9 dX9_init_14 wf_X9_15 (by omega) hk (by decide) rfl in_X9 tyX9_ok nmX9 (by decide) (by decide) (by decide) rfl rfl rfl (by decide +kernel) (fun _ => rfl) (fun _ => rfl) ?_
  rw [bf_u_w]
  have hCl2 : bf_Cl (o + 2) (bf_w Rf o (va_up (fun _ => none) 3 (some (o + 1)))) := by have h := bf_Cl_u (o := o) (i := 3) (t := o + 1) hCl1 (by omega); rw [bf_u_w] at h; exact h
  clear hCl1
  refine bf_aload_n 0 dX9_init_17 rfl rfl ?_
  refine bf_bipush (v := 8) dX9_init_18 (by decide) ?_
  refine bf_xnewQ (n := o + 2) (lvf := (fun ad => [(0, .ref (ad o))])) (stf := (fun ad => [.ref (ad o)])) (t0 := 4) (cc := 17) (N := 8) dX9_init_20 wq_X9_19 (fun _ h => h.2.2.2.1) rfl (by decide) (by decide) (by decide) (kx_9_2 hk) (by decide) (lx_9_2 hk) (Nat.le_of_ble_eq_true rfl) (Nat.le_of_ble_eq_true rfl) hCl2 (fun ad2 h => ⟨by simp only [h o (by omega)], by simp only [h o (by omega)]⟩) ?_
  intro ad3 hA3 hCl3
  refine bf_widen (k2 := (2, 108)) (Nat.le_of_ble_eq_true rfl) (Nat.le_of_ble_eq_true rfl) ?_
  have hag3 : ∀ i, i < o + 1 → ad3 i = ad0 i := fun i hi => (hA3 i (by omega)).trans (hag1 i hi)
  clear hag1
  clear hCl2
  clear hA3
  refine bf_xputR (i := 2) (ty := tyX9 2) (t := o + 2) tyX9 dX9_init_23 wf_X9_21 (by omega) hk (by decide) rfl in_X9 tyX9_ok nmX9 (by decide) (by decide) (by decide) rfl rfl rfl (by decide +kernel) (fun _ => rfl) (fun _ => rfl) ?_
  rw [bf_u_w2 (by omega)]
  have hCl4 : bf_Cl (o + 3) (bf_w (bf_w Rf o (va_up (va_up (fun _ => none) 3 (some (o + 1))) 2 (some (o + 2)))) (o + 2) (fun _ => none)) := by have h := bf_Cl_u (o := o) (i := 2) (t := o + 2) hCl3 (by omega); rw [bf_u_w2 (by omega)] at h; exact h
  clear hCl3
  refine bf_iconst (v := 0) dX9_init_26 (by decide) ?_
  refine bf_istore_n (lv2 := [(1, .int _), (0, .ref _)]) dX9_init_27 rfl (by decide) rfl ?_
  refine bf_iload_n 0 dX9_init_28 rfl rfl ?_
  refine bf_bipush (v := 8) dX9_init_29 (by decide) ?_
  refine bf_icmp_ge 53 dX9_init_31 (by decide) (fun q => absurd q (by decide)) (fun _ => ?_)
  refine bf_aload_n 1 dX9_init_34 rfl rfl ?_
  refine bf_xgetR (i := 2) (t := o + 2) dX9_init_35 wf_X9_21 (by omega) hk (by decide) rfl in_X9 (by decide) (by decide) (by decide) (by rw [bf_w_ne (show o ≠ o + 2 by omega), bf_w_o]; rfl) ?_
  refine bf_iload_n 0 dX9_init_38 rfl rfl ?_
  refine bf_xnew (n := o + 3) (lvf := (fun ad => [(1, .int (0)), (0, .ref (ad o))])) (stf := (fun ad => [.int (0), .ref (ad (o + 2))])) tyX1 dX9_init_39 wq_X9_19 wj_X1 wi_X1 in_X1 tyX1_ok rfl (kx_9_3 hk) (by decide) (by decide) dv_1 (Nat.le_of_ble_eq_true rfl) (Nat.le_of_ble_eq_true rfl) hCl4 (fun ad2 h => ⟨by simp only [h o (by omega)], by simp only [h (o + 2) (by omega)]⟩) ?_
  intro ad5 hA5 hCl5
  refine bf_widen (k2 := (3, 114)) (Nat.le_of_ble_eq_true rfl) (Nat.le_of_ble_eq_true rfl) ?_
  have hag5 : ∀ i, i < o + 1 → ad5 i = ad0 i := fun i hi => (hA5 i (by omega)).trans (hag3 i hi)
  clear hag3
  clear hCl4
  clear hA5
  refine bf_dup dX9_init_42 rfl ?_
  refine bf_xcall (n2 := o + 5) (d := 1) (mc := 1) (ms := 6) (ν := mu_X1_init) (o := (o + 3)) (As := []) (I2 := (bf_w I o (va_up (fun _ => 0) 0 (0)))) (L2 := L) (R2 := (bf_w (bf_w Rf o (va_up (va_up (fun _ => none) 3 (some (o + 1))) 2 (some (o + 2)))) (o + 2) (fun _ => none))) (lvf := (fun ad => [(1, .int (0)), (0, .ref (ad o))])) (stf := (fun ad => [.ref (ad (o + 3)), .int (0), .ref (ad (o + 2))])) dX9_init_43 rfl rfl wl_X9_25 wm_X1_init wi_X1 wc_X1_init rfl wx_X1_init ⟨(Nat.le_of_ble_eq_true rfl), (Nat.le_of_ble_eq_true rfl)⟩ ⟨(Nat.le_of_ble_eq_true rfl), (Nat.le_of_ble_eq_true rfl)⟩ (Nat.le_of_ble_eq_true rfl) (fun ad2 h => ⟨by simp only [h o (by omega)], by simp only [h (o + 2) (by omega), h (o + 3) (by omega)]⟩) (okx_X1_init (kx_9_3 hk) (fun p h1 h2 => ⟨by rw [bf_w_ne (show p ≠ o by omega)]; exact (hp p (by omega) (by omega)).1, (hp p (by omega) (by omega)).2.1, by rw [bf_w_ne (show p ≠ o + 2 by omega), bf_w_ne (show p ≠ o by omega)]; exact (hp p (by omega) (by omega)).2.2⟩) hCl5) ?_
  intro ad6 hA6 hCl6
  refine bf_widen (k2 := (4, 120)) (Nat.le_of_ble_eq_true rfl) (Nat.le_of_ble_eq_true rfl) ?_
  have hag6 : ∀ i, i < o + 1 → ad6 i = ad0 i := fun i hi => (hA6 i (by omega)).trans (hag5 i hi)
  clear hag5
  clear hCl5
  clear hA6
  refine bf_xast (a := o + 2) (t := o + 3) (t0 := 4) (cc := 17) (ci := 1) dX9_init_46 (by omega) (by omega) (kx_9_2 hk) (by decide) (kx_9_3 hk) (by decide) rfl rfl (by rw [(lx_9_2 hk)]; decide) ?_
  rw [show (((0) : Int32).toNatClampNeg) = 0 from by decide, bf_u_w]
  have hCl7 : bf_Cl (o + 5) (bf_w (bf_w Rf o (va_up (va_up (fun _ => none) 3 (some (o + 1))) 2 (some (o + 2)))) (o + 2) (va_up (fun _ => none) 0 (some (o + 3)))) := by have h := bf_Cl_u (o := o + 2) (i := 0) (t := o + 3) hCl6 (by omega); rw [bf_u_w] at h; exact h
  clear hCl6
  refine bf_iinc 0 (v := 1) (lv2 := [(1, .int _), (0, .ref _)]) dX9_init_47 rfl (by decide) (by decide) rfl ?_
  refine bf_goto 28 dX9_init_50 (by decide) ?_
  refine bf_iload_n 0 dX9_init_28 rfl rfl ?_
  refine bf_bipush (v := 8) dX9_init_29 (by decide) ?_
  refine bf_icmp_ge 53 dX9_init_31 (by decide) (fun q => absurd q (by decide)) (fun _ => ?_)
  refine bf_aload_n 1 dX9_init_34 rfl rfl ?_
  refine bf_xgetR (i := 2) (t := o + 2) dX9_init_35 wf_X9_21 (by omega) hk (by decide) rfl in_X9 (by decide) (by decide) (by decide) (by rw [bf_w_ne (show o ≠ o + 2 by omega), bf_w_o]; rfl) ?_
  refine bf_iload_n 0 dX9_init_38 rfl rfl ?_
  refine bf_xnew (n := o + 5) (lvf := (fun ad => [(1, .int (1)), (0, .ref (ad o))])) (stf := (fun ad => [.int (1), .ref (ad (o + 2))])) tyX1 dX9_init_39 wq_X9_19 wj_X1 wi_X1 in_X1 tyX1_ok rfl (kx_9_5 hk) (by decide) (by decide) dv_1 (Nat.le_of_ble_eq_true rfl) (Nat.le_of_ble_eq_true rfl) hCl7 (fun ad2 h => ⟨by simp only [h o (by omega)], by simp only [h (o + 2) (by omega)]⟩) ?_
  intro ad8 hA8 hCl8
  refine bf_widen (k2 := (5, 126)) (Nat.le_of_ble_eq_true rfl) (Nat.le_of_ble_eq_true rfl) ?_
  have hag8 : ∀ i, i < o + 1 → ad8 i = ad0 i := fun i hi => (hA8 i (by omega)).trans (hag6 i hi)
  clear hag6
  clear hCl7
  clear hA8
  refine bf_dup dX9_init_42 rfl ?_
  refine bf_xcall (n2 := o + 7) (d := 1) (mc := 1) (ms := 6) (ν := mu_X1_init) (o := (o + 5)) (As := []) (I2 := (bf_w I o (va_up (fun _ => 0) 0 (0)))) (L2 := L) (R2 := (bf_w (bf_w Rf o (va_up (va_up (fun _ => none) 3 (some (o + 1))) 2 (some (o + 2)))) (o + 2) (va_up (fun _ => none) 0 (some (o + 3))))) (lvf := (fun ad => [(1, .int (1)), (0, .ref (ad o))])) (stf := (fun ad => [.ref (ad (o + 5)), .int (1), .ref (ad (o + 2))])) dX9_init_43 rfl rfl wl_X9_25 wm_X1_init wi_X1 wc_X1_init rfl wx_X1_init ⟨(Nat.le_of_ble_eq_true rfl), (Nat.le_of_ble_eq_true rfl)⟩ ⟨(Nat.le_of_ble_eq_true rfl), (Nat.le_of_ble_eq_true rfl)⟩ (Nat.le_of_ble_eq_true rfl) (fun ad2 h => ⟨by simp only [h o (by omega)], by simp only [h (o + 2) (by omega), h (o + 5) (by omega)]⟩) (okx_X1_init (kx_9_5 hk) (fun p h1 h2 => ⟨by rw [bf_w_ne (show p ≠ o by omega)]; exact (hp p (by omega) (by omega)).1, (hp p (by omega) (by omega)).2.1, by rw [bf_w_ne (show p ≠ o + 2 by omega), bf_w_ne (show p ≠ o by omega)]; exact (hp p (by omega) (by omega)).2.2⟩) hCl8) ?_
  intro ad9 hA9 hCl9
  refine bf_widen (k2 := (6, 132)) (Nat.le_of_ble_eq_true rfl) (Nat.le_of_ble_eq_true rfl) ?_
  have hag9 : ∀ i, i < o + 1 → ad9 i = ad0 i := fun i hi => (hA9 i (by omega)).trans (hag8 i hi)
  clear hag8
  clear hCl8
  clear hA9
  refine bf_xast (a := o + 2) (t := o + 5) (t0 := 4) (cc := 17) (ci := 1) dX9_init_46 (by omega) (by omega) (kx_9_2 hk) (by decide) (kx_9_5 hk) (by decide) rfl rfl (by rw [(lx_9_2 hk)]; decide) ?_
  rw [show (((1) : Int32).toNatClampNeg) = 1 from by decide, bf_u_w]
  have hCl10 : bf_Cl (o + 7) (bf_w (bf_w Rf o (va_up (va_up (fun _ => none) 3 (some (o + 1))) 2 (some (o + 2)))) (o + 2) (va_up (va_up (fun _ => none) 0 (some (o + 3))) 1 (some (o + 5)))) := by have h := bf_Cl_u (o := o + 2) (i := 1) (t := o + 5) hCl9 (by omega); rw [bf_u_w] at h; exact h
  clear hCl9
  refine bf_iinc 0 (v := 2) (lv2 := [(1, .int _), (0, .ref _)]) dX9_init_47 rfl (by decide) (by decide) rfl ?_
  refine bf_goto 28 dX9_init_50 (by decide) ?_
  refine bf_iload_n 0 dX9_init_28 rfl rfl ?_
  refine bf_bipush (v := 8) dX9_init_29 (by decide) ?_
  refine bf_icmp_ge 53 dX9_init_31 (by decide) (fun q => absurd q (by decide)) (fun _ => ?_)
  refine bf_aload_n 1 dX9_init_34 rfl rfl ?_
  refine bf_xgetR (i := 2) (t := o + 2) dX9_init_35 wf_X9_21 (by omega) hk (by decide) rfl in_X9 (by decide) (by decide) (by decide) (by rw [bf_w_ne (show o ≠ o + 2 by omega), bf_w_o]; rfl) ?_
  refine bf_iload_n 0 dX9_init_38 rfl rfl ?_
  refine bf_xnew (n := o + 7) (lvf := (fun ad => [(1, .int (2)), (0, .ref (ad o))])) (stf := (fun ad => [.int (2), .ref (ad (o + 2))])) tyX1 dX9_init_39 wq_X9_19 wj_X1 wi_X1 in_X1 tyX1_ok rfl (kx_9_7 hk) (by decide) (by decide) dv_1 (Nat.le_of_ble_eq_true rfl) (Nat.le_of_ble_eq_true rfl) hCl10 (fun ad2 h => ⟨by simp only [h o (by omega)], by simp only [h (o + 2) (by omega)]⟩) ?_
  intro ad11 hA11 hCl11
  refine bf_widen (k2 := (7, 138)) (Nat.le_of_ble_eq_true rfl) (Nat.le_of_ble_eq_true rfl) ?_
  have hag11 : ∀ i, i < o + 1 → ad11 i = ad0 i := fun i hi => (hA11 i (by omega)).trans (hag9 i hi)
  clear hag9
  clear hCl10
  clear hA11
  refine bf_dup dX9_init_42 rfl ?_
  refine bf_xcall (n2 := o + 9) (d := 1) (mc := 1) (ms := 6) (ν := mu_X1_init) (o := (o + 7)) (As := []) (I2 := (bf_w I o (va_up (fun _ => 0) 0 (0)))) (L2 := L) (R2 := (bf_w (bf_w Rf o (va_up (va_up (fun _ => none) 3 (some (o + 1))) 2 (some (o + 2)))) (o + 2) (va_up (va_up (fun _ => none) 0 (some (o + 3))) 1 (some (o + 5))))) (lvf := (fun ad => [(1, .int (2)), (0, .ref (ad o))])) (stf := (fun ad => [.ref (ad (o + 7)), .int (2), .ref (ad (o + 2))])) dX9_init_43 rfl rfl wl_X9_25 wm_X1_init wi_X1 wc_X1_init rfl wx_X1_init ⟨(Nat.le_of_ble_eq_true rfl), (Nat.le_of_ble_eq_true rfl)⟩ ⟨(Nat.le_of_ble_eq_true rfl), (Nat.le_of_ble_eq_true rfl)⟩ (Nat.le_of_ble_eq_true rfl) (fun ad2 h => ⟨by simp only [h o (by omega)], by simp only [h (o + 2) (by omega), h (o + 7) (by omega)]⟩) (okx_X1_init (kx_9_7 hk) (fun p h1 h2 => ⟨by rw [bf_w_ne (show p ≠ o by omega)]; exact (hp p (by omega) (by omega)).1, (hp p (by omega) (by omega)).2.1, by rw [bf_w_ne (show p ≠ o + 2 by omega), bf_w_ne (show p ≠ o by omega)]; exact (hp p (by omega) (by omega)).2.2⟩) hCl11) ?_
  intro ad12 hA12 hCl12
  refine bf_widen (k2 := (8, 144)) (Nat.le_of_ble_eq_true rfl) (Nat.le_of_ble_eq_true rfl) ?_
  have hag12 : ∀ i, i < o + 1 → ad12 i = ad0 i := fun i hi => (hA12 i (by omega)).trans (hag11 i hi)
  clear hag11
  clear hCl11
  clear hA12
  refine bf_xast (a := o + 2) (t := o + 7) (t0 := 4) (cc := 17) (ci := 1) dX9_init_46 (by omega) (by omega) (kx_9_2 hk) (by decide) (kx_9_7 hk) (by decide) rfl rfl (by rw [(lx_9_2 hk)]; decide) ?_
  rw [show (((2) : Int32).toNatClampNeg) = 2 from by decide, bf_u_w]
  have hCl13 : bf_Cl (o + 9) (bf_w (bf_w Rf o (va_up (va_up (fun _ => none) 3 (some (o + 1))) 2 (some (o + 2)))) (o + 2) (va_up (va_up (va_up (fun _ => none) 0 (some (o + 3))) 1 (some (o + 5))) 2 (some (o + 7)))) := by have h := bf_Cl_u (o := o + 2) (i := 2) (t := o + 7) hCl12 (by omega); rw [bf_u_w] at h; exact h
  clear hCl12
  refine bf_iinc 0 (v := 3) (lv2 := [(1, .int _), (0, .ref _)]) dX9_init_47 rfl (by decide) (by decide) rfl ?_
  refine bf_goto 28 dX9_init_50 (by decide) ?_
  refine bf_iload_n 0 dX9_init_28 rfl rfl ?_
  refine bf_bipush (v := 8) dX9_init_29 (by decide) ?_
  refine bf_icmp_ge 53 dX9_init_31 (by decide) (fun q => absurd q (by decide)) (fun _ => ?_)
  refine bf_aload_n 1 dX9_init_34 rfl rfl ?_
  refine bf_xgetR (i := 2) (t := o + 2) dX9_init_35 wf_X9_21 (by omega) hk (by decide) rfl in_X9 (by decide) (by decide) (by decide) (by rw [bf_w_ne (show o ≠ o + 2 by omega), bf_w_o]; rfl) ?_
  refine bf_iload_n 0 dX9_init_38 rfl rfl ?_
  refine bf_xnew (n := o + 9) (lvf := (fun ad => [(1, .int (3)), (0, .ref (ad o))])) (stf := (fun ad => [.int (3), .ref (ad (o + 2))])) tyX1 dX9_init_39 wq_X9_19 wj_X1 wi_X1 in_X1 tyX1_ok rfl (kx_9_9 hk) (by decide) (by decide) dv_1 (Nat.le_of_ble_eq_true rfl) (Nat.le_of_ble_eq_true rfl) hCl13 (fun ad2 h => ⟨by simp only [h o (by omega)], by simp only [h (o + 2) (by omega)]⟩) ?_
  intro ad14 hA14 hCl14
  refine bf_widen (k2 := (9, 150)) (Nat.le_of_ble_eq_true rfl) (Nat.le_of_ble_eq_true rfl) ?_
  have hag14 : ∀ i, i < o + 1 → ad14 i = ad0 i := fun i hi => (hA14 i (by omega)).trans (hag12 i hi)
  clear hag12
  clear hCl13
  clear hA14
  refine bf_dup dX9_init_42 rfl ?_
  refine bf_xcall (n2 := o + 11) (d := 1) (mc := 1) (ms := 6) (ν := mu_X1_init) (o := (o + 9)) (As := []) (I2 := (bf_w I o (va_up (fun _ => 0) 0 (0)))) (L2 := L) (R2 := (bf_w (bf_w Rf o (va_up (va_up (fun _ => none) 3 (some (o + 1))) 2 (some (o + 2)))) (o + 2) (va_up (va_up (va_up (fun _ => none) 0 (some (o + 3))) 1 (some (o + 5))) 2 (some (o + 7))))) (lvf := (fun ad => [(1, .int (3)), (0, .ref (ad o))])) (stf := (fun ad => [.ref (ad (o + 9)), .int (3), .ref (ad (o + 2))])) dX9_init_43 rfl rfl wl_X9_25 wm_X1_init wi_X1 wc_X1_init rfl wx_X1_init ⟨(Nat.le_of_ble_eq_true rfl), (Nat.le_of_ble_eq_true rfl)⟩ ⟨(Nat.le_of_ble_eq_true rfl), (Nat.le_of_ble_eq_true rfl)⟩ (Nat.le_of_ble_eq_true rfl) (fun ad2 h => ⟨by simp only [h o (by omega)], by simp only [h (o + 2) (by omega), h (o + 9) (by omega)]⟩) (okx_X1_init (kx_9_9 hk) (fun p h1 h2 => ⟨by rw [bf_w_ne (show p ≠ o by omega)]; exact (hp p (by omega) (by omega)).1, (hp p (by omega) (by omega)).2.1, by rw [bf_w_ne (show p ≠ o + 2 by omega), bf_w_ne (show p ≠ o by omega)]; exact (hp p (by omega) (by omega)).2.2⟩) hCl14) ?_
  intro ad15 hA15 hCl15
  refine bf_widen (k2 := (10, 156)) (Nat.le_of_ble_eq_true rfl) (Nat.le_of_ble_eq_true rfl) ?_
  have hag15 : ∀ i, i < o + 1 → ad15 i = ad0 i := fun i hi => (hA15 i (by omega)).trans (hag14 i hi)
  clear hag14
  clear hCl14
  clear hA15
  refine bf_xast (a := o + 2) (t := o + 9) (t0 := 4) (cc := 17) (ci := 1) dX9_init_46 (by omega) (by omega) (kx_9_2 hk) (by decide) (kx_9_9 hk) (by decide) rfl rfl (by rw [(lx_9_2 hk)]; decide) ?_
  rw [show (((3) : Int32).toNatClampNeg) = 3 from by decide, bf_u_w]
  have hCl16 : bf_Cl (o + 11) (bf_w (bf_w Rf o (va_up (va_up (fun _ => none) 3 (some (o + 1))) 2 (some (o + 2)))) (o + 2) (va_up (va_up (va_up (va_up (fun _ => none) 0 (some (o + 3))) 1 (some (o + 5))) 2 (some (o + 7))) 3 (some (o + 9)))) := by have h := bf_Cl_u (o := o + 2) (i := 3) (t := o + 9) hCl15 (by omega); rw [bf_u_w] at h; exact h
  clear hCl15
  refine bf_iinc 0 (v := 4) (lv2 := [(1, .int _), (0, .ref _)]) dX9_init_47 rfl (by decide) (by decide) rfl ?_
  refine bf_goto 28 dX9_init_50 (by decide) ?_
  refine bf_iload_n 0 dX9_init_28 rfl rfl ?_
  refine bf_bipush (v := 8) dX9_init_29 (by decide) ?_
  refine bf_icmp_ge 53 dX9_init_31 (by decide) (fun q => absurd q (by decide)) (fun _ => ?_)
  refine bf_aload_n 1 dX9_init_34 rfl rfl ?_
  refine bf_xgetR (i := 2) (t := o + 2) dX9_init_35 wf_X9_21 (by omega) hk (by decide) rfl in_X9 (by decide) (by decide) (by decide) (by rw [bf_w_ne (show o ≠ o + 2 by omega), bf_w_o]; rfl) ?_
  refine bf_iload_n 0 dX9_init_38 rfl rfl ?_
  refine bf_xnew (n := o + 11) (lvf := (fun ad => [(1, .int (4)), (0, .ref (ad o))])) (stf := (fun ad => [.int (4), .ref (ad (o + 2))])) tyX1 dX9_init_39 wq_X9_19 wj_X1 wi_X1 in_X1 tyX1_ok rfl (kx_9_11 hk) (by decide) (by decide) dv_1 (Nat.le_of_ble_eq_true rfl) (Nat.le_of_ble_eq_true rfl) hCl16 (fun ad2 h => ⟨by simp only [h o (by omega)], by simp only [h (o + 2) (by omega)]⟩) ?_
  intro ad17 hA17 hCl17
  refine bf_widen (k2 := (11, 162)) (Nat.le_of_ble_eq_true rfl) (Nat.le_of_ble_eq_true rfl) ?_
  have hag17 : ∀ i, i < o + 1 → ad17 i = ad0 i := fun i hi => (hA17 i (by omega)).trans (hag15 i hi)
  clear hag15
  clear hCl16
  clear hA17
  refine bf_dup dX9_init_42 rfl ?_
  refine bf_xcall (n2 := o + 13) (d := 1) (mc := 1) (ms := 6) (ν := mu_X1_init) (o := (o + 11)) (As := []) (I2 := (bf_w I o (va_up (fun _ => 0) 0 (0)))) (L2 := L) (R2 := (bf_w (bf_w Rf o (va_up (va_up (fun _ => none) 3 (some (o + 1))) 2 (some (o + 2)))) (o + 2) (va_up (va_up (va_up (va_up (fun _ => none) 0 (some (o + 3))) 1 (some (o + 5))) 2 (some (o + 7))) 3 (some (o + 9))))) (lvf := (fun ad => [(1, .int (4)), (0, .ref (ad o))])) (stf := (fun ad => [.ref (ad (o + 11)), .int (4), .ref (ad (o + 2))])) dX9_init_43 rfl rfl wl_X9_25 wm_X1_init wi_X1 wc_X1_init rfl wx_X1_init ⟨(Nat.le_of_ble_eq_true rfl), (Nat.le_of_ble_eq_true rfl)⟩ ⟨(Nat.le_of_ble_eq_true rfl), (Nat.le_of_ble_eq_true rfl)⟩ (Nat.le_of_ble_eq_true rfl) (fun ad2 h => ⟨by simp only [h o (by omega)], by simp only [h (o + 2) (by omega), h (o + 11) (by omega)]⟩) (okx_X1_init (kx_9_11 hk) (fun p h1 h2 => ⟨by rw [bf_w_ne (show p ≠ o by omega)]; exact (hp p (by omega) (by omega)).1, (hp p (by omega) (by omega)).2.1, by rw [bf_w_ne (show p ≠ o + 2 by omega), bf_w_ne (show p ≠ o by omega)]; exact (hp p (by omega) (by omega)).2.2⟩) hCl17) ?_
  intro ad18 hA18 hCl18
  refine bf_widen (k2 := (12, 168)) (Nat.le_of_ble_eq_true rfl) (Nat.le_of_ble_eq_true rfl) ?_
  have hag18 : ∀ i, i < o + 1 → ad18 i = ad0 i := fun i hi => (hA18 i (by omega)).trans (hag17 i hi)
  clear hag17
  clear hCl17
  clear hA18
  refine bf_xast (a := o + 2) (t := o + 11) (t0 := 4) (cc := 17) (ci := 1) dX9_init_46 (by omega) (by omega) (kx_9_2 hk) (by decide) (kx_9_11 hk) (by decide) rfl rfl (by rw [(lx_9_2 hk)]; decide) ?_
  rw [show (((4) : Int32).toNatClampNeg) = 4 from by decide, bf_u_w]
  have hCl19 : bf_Cl (o + 13) (bf_w (bf_w Rf o (va_up (va_up (fun _ => none) 3 (some (o + 1))) 2 (some (o + 2)))) (o + 2) (va_up (va_up (va_up (va_up (va_up (fun _ => none) 0 (some (o + 3))) 1 (some (o + 5))) 2 (some (o + 7))) 3 (some (o + 9))) 4 (some (o + 11)))) := by have h := bf_Cl_u (o := o + 2) (i := 4) (t := o + 11) hCl18 (by omega); rw [bf_u_w] at h; exact h
  clear hCl18
  refine bf_iinc 0 (v := 5) (lv2 := [(1, .int _), (0, .ref _)]) dX9_init_47 rfl (by decide) (by decide) rfl ?_
  refine bf_goto 28 dX9_init_50 (by decide) ?_
  refine bf_iload_n 0 dX9_init_28 rfl rfl ?_
  refine bf_bipush (v := 8) dX9_init_29 (by decide) ?_
  refine bf_icmp_ge 53 dX9_init_31 (by decide) (fun q => absurd q (by decide)) (fun _ => ?_)
  refine bf_aload_n 1 dX9_init_34 rfl rfl ?_
  refine bf_xgetR (i := 2) (t := o + 2) dX9_init_35 wf_X9_21 (by omega) hk (by decide) rfl in_X9 (by decide) (by decide) (by decide) (by rw [bf_w_ne (show o ≠ o + 2 by omega), bf_w_o]; rfl) ?_
  refine bf_iload_n 0 dX9_init_38 rfl rfl ?_
  refine bf_xnew (n := o + 13) (lvf := (fun ad => [(1, .int (5)), (0, .ref (ad o))])) (stf := (fun ad => [.int (5), .ref (ad (o + 2))])) tyX1 dX9_init_39 wq_X9_19 wj_X1 wi_X1 in_X1 tyX1_ok rfl (kx_9_13 hk) (by decide) (by decide) dv_1 (Nat.le_of_ble_eq_true rfl) (Nat.le_of_ble_eq_true rfl) hCl19 (fun ad2 h => ⟨by simp only [h o (by omega)], by simp only [h (o + 2) (by omega)]⟩) ?_
  intro ad20 hA20 hCl20
  refine bf_widen (k2 := (13, 174)) (Nat.le_of_ble_eq_true rfl) (Nat.le_of_ble_eq_true rfl) ?_
  have hag20 : ∀ i, i < o + 1 → ad20 i = ad0 i := fun i hi => (hA20 i (by omega)).trans (hag18 i hi)
  clear hag18
  clear hCl19
  clear hA20
  refine bf_dup dX9_init_42 rfl ?_
  refine bf_xcall (n2 := o + 15) (d := 1) (mc := 1) (ms := 6) (ν := mu_X1_init) (o := (o + 13)) (As := []) (I2 := (bf_w I o (va_up (fun _ => 0) 0 (0)))) (L2 := L) (R2 := (bf_w (bf_w Rf o (va_up (va_up (fun _ => none) 3 (some (o + 1))) 2 (some (o + 2)))) (o + 2) (va_up (va_up (va_up (va_up (va_up (fun _ => none) 0 (some (o + 3))) 1 (some (o + 5))) 2 (some (o + 7))) 3 (some (o + 9))) 4 (some (o + 11))))) (lvf := (fun ad => [(1, .int (5)), (0, .ref (ad o))])) (stf := (fun ad => [.ref (ad (o + 13)), .int (5), .ref (ad (o + 2))])) dX9_init_43 rfl rfl wl_X9_25 wm_X1_init wi_X1 wc_X1_init rfl wx_X1_init ⟨(Nat.le_of_ble_eq_true rfl), (Nat.le_of_ble_eq_true rfl)⟩ ⟨(Nat.le_of_ble_eq_true rfl), (Nat.le_of_ble_eq_true rfl)⟩ (Nat.le_of_ble_eq_true rfl) (fun ad2 h => ⟨by simp only [h o (by omega)], by simp only [h (o + 2) (by omega), h (o + 13) (by omega)]⟩) (okx_X1_init (kx_9_13 hk) (fun p h1 h2 => ⟨by rw [bf_w_ne (show p ≠ o by omega)]; exact (hp p (by omega) (by omega)).1, (hp p (by omega) (by omega)).2.1, by rw [bf_w_ne (show p ≠ o + 2 by omega), bf_w_ne (show p ≠ o by omega)]; exact (hp p (by omega) (by omega)).2.2⟩) hCl20) ?_
  intro ad21 hA21 hCl21
  refine bf_widen (k2 := (14, 180)) (Nat.le_of_ble_eq_true rfl) (Nat.le_of_ble_eq_true rfl) ?_
  have hag21 : ∀ i, i < o + 1 → ad21 i = ad0 i := fun i hi => (hA21 i (by omega)).trans (hag20 i hi)
  clear hag20
  clear hCl20
  clear hA21
  refine bf_xast (a := o + 2) (t := o + 13) (t0 := 4) (cc := 17) (ci := 1) dX9_init_46 (by omega) (by omega) (kx_9_2 hk) (by decide) (kx_9_13 hk) (by decide) rfl rfl (by rw [(lx_9_2 hk)]; decide) ?_
  rw [show (((5) : Int32).toNatClampNeg) = 5 from by decide, bf_u_w]
  have hCl22 : bf_Cl (o + 15) (bf_w (bf_w Rf o (va_up (va_up (fun _ => none) 3 (some (o + 1))) 2 (some (o + 2)))) (o + 2) (va_up (va_up (va_up (va_up (va_up (va_up (fun _ => none) 0 (some (o + 3))) 1 (some (o + 5))) 2 (some (o + 7))) 3 (some (o + 9))) 4 (some (o + 11))) 5 (some (o + 13)))) := by have h := bf_Cl_u (o := o + 2) (i := 5) (t := o + 13) hCl21 (by omega); rw [bf_u_w] at h; exact h
  clear hCl21
  refine bf_iinc 0 (v := 6) (lv2 := [(1, .int _), (0, .ref _)]) dX9_init_47 rfl (by decide) (by decide) rfl ?_
  refine bf_goto 28 dX9_init_50 (by decide) ?_
  refine bf_iload_n 0 dX9_init_28 rfl rfl ?_
  refine bf_bipush (v := 8) dX9_init_29 (by decide) ?_
  refine bf_icmp_ge 53 dX9_init_31 (by decide) (fun q => absurd q (by decide)) (fun _ => ?_)
  refine bf_aload_n 1 dX9_init_34 rfl rfl ?_
  refine bf_xgetR (i := 2) (t := o + 2) dX9_init_35 wf_X9_21 (by omega) hk (by decide) rfl in_X9 (by decide) (by decide) (by decide) (by rw [bf_w_ne (show o ≠ o + 2 by omega), bf_w_o]; rfl) ?_
  refine bf_iload_n 0 dX9_init_38 rfl rfl ?_
  refine bf_xnew (n := o + 15) (lvf := (fun ad => [(1, .int (6)), (0, .ref (ad o))])) (stf := (fun ad => [.int (6), .ref (ad (o + 2))])) tyX1 dX9_init_39 wq_X9_19 wj_X1 wi_X1 in_X1 tyX1_ok rfl (kx_9_15 hk) (by decide) (by decide) dv_1 (Nat.le_of_ble_eq_true rfl) (Nat.le_of_ble_eq_true rfl) hCl22 (fun ad2 h => ⟨by simp only [h o (by omega)], by simp only [h (o + 2) (by omega)]⟩) ?_
  intro ad23 hA23 hCl23
  refine bf_widen (k2 := (15, 186)) (Nat.le_of_ble_eq_true rfl) (Nat.le_of_ble_eq_true rfl) ?_
  have hag23 : ∀ i, i < o + 1 → ad23 i = ad0 i := fun i hi => (hA23 i (by omega)).trans (hag21 i hi)
  clear hag21
  clear hCl22
  clear hA23
  refine bf_dup dX9_init_42 rfl ?_
  refine bf_xcall (n2 := o + 17) (d := 1) (mc := 1) (ms := 6) (ν := mu_X1_init) (o := (o + 15)) (As := []) (I2 := (bf_w I o (va_up (fun _ => 0) 0 (0)))) (L2 := L) (R2 := (bf_w (bf_w Rf o (va_up (va_up (fun _ => none) 3 (some (o + 1))) 2 (some (o + 2)))) (o + 2) (va_up (va_up (va_up (va_up (va_up (va_up (fun _ => none) 0 (some (o + 3))) 1 (some (o + 5))) 2 (some (o + 7))) 3 (some (o + 9))) 4 (some (o + 11))) 5 (some (o + 13))))) (lvf := (fun ad => [(1, .int (6)), (0, .ref (ad o))])) (stf := (fun ad => [.ref (ad (o + 15)), .int (6), .ref (ad (o + 2))])) dX9_init_43 rfl rfl wl_X9_25 wm_X1_init wi_X1 wc_X1_init rfl wx_X1_init ⟨(Nat.le_of_ble_eq_true rfl), (Nat.le_of_ble_eq_true rfl)⟩ ⟨(Nat.le_of_ble_eq_true rfl), (Nat.le_of_ble_eq_true rfl)⟩ (Nat.le_of_ble_eq_true rfl) (fun ad2 h => ⟨by simp only [h o (by omega)], by simp only [h (o + 2) (by omega), h (o + 15) (by omega)]⟩) (okx_X1_init (kx_9_15 hk) (fun p h1 h2 => ⟨by rw [bf_w_ne (show p ≠ o by omega)]; exact (hp p (by omega) (by omega)).1, (hp p (by omega) (by omega)).2.1, by rw [bf_w_ne (show p ≠ o + 2 by omega), bf_w_ne (show p ≠ o by omega)]; exact (hp p (by omega) (by omega)).2.2⟩) hCl23) ?_
  intro ad24 hA24 hCl24
  refine bf_widen (k2 := (16, 192)) (Nat.le_of_ble_eq_true rfl) (Nat.le_of_ble_eq_true rfl) ?_
  have hag24 : ∀ i, i < o + 1 → ad24 i = ad0 i := fun i hi => (hA24 i (by omega)).trans (hag23 i hi)
  clear hag23
  clear hCl23
  clear hA24
  refine bf_xast (a := o + 2) (t := o + 15) (t0 := 4) (cc := 17) (ci := 1) dX9_init_46 (by omega) (by omega) (kx_9_2 hk) (by decide) (kx_9_15 hk) (by decide) rfl rfl (by rw [(lx_9_2 hk)]; decide) ?_
  rw [show (((6) : Int32).toNatClampNeg) = 6 from by decide, bf_u_w]
  have hCl25 : bf_Cl (o + 17) (bf_w (bf_w Rf o (va_up (va_up (fun _ => none) 3 (some (o + 1))) 2 (some (o + 2)))) (o + 2) (va_up (va_up (va_up (va_up (va_up (va_up (va_up (fun _ => none) 0 (some (o + 3))) 1 (some (o + 5))) 2 (some (o + 7))) 3 (some (o + 9))) 4 (some (o + 11))) 5 (some (o + 13))) 6 (some (o + 15)))) := by have h := bf_Cl_u (o := o + 2) (i := 6) (t := o + 15) hCl24 (by omega); rw [bf_u_w] at h; exact h
  clear hCl24
  refine bf_iinc 0 (v := 7) (lv2 := [(1, .int _), (0, .ref _)]) dX9_init_47 rfl (by decide) (by decide) rfl ?_
  refine bf_goto 28 dX9_init_50 (by decide) ?_
  refine bf_iload_n 0 dX9_init_28 rfl rfl ?_
  refine bf_bipush (v := 8) dX9_init_29 (by decide) ?_
  refine bf_icmp_ge 53 dX9_init_31 (by decide) (fun q => absurd q (by decide)) (fun _ => ?_)
  refine bf_aload_n 1 dX9_init_34 rfl rfl ?_
  refine bf_xgetR (i := 2) (t := o + 2) dX9_init_35 wf_X9_21 (by omega) hk (by decide) rfl in_X9 (by decide) (by decide) (by decide) (by rw [bf_w_ne (show o ≠ o + 2 by omega), bf_w_o]; rfl) ?_
  refine bf_iload_n 0 dX9_init_38 rfl rfl ?_
  refine bf_xnew (n := o + 17) (lvf := (fun ad => [(1, .int (7)), (0, .ref (ad o))])) (stf := (fun ad => [.int (7), .ref (ad (o + 2))])) tyX1 dX9_init_39 wq_X9_19 wj_X1 wi_X1 in_X1 tyX1_ok rfl (kx_9_17 hk) (by decide) (by decide) dv_1 (Nat.le_of_ble_eq_true rfl) (Nat.le_of_ble_eq_true rfl) hCl25 (fun ad2 h => ⟨by simp only [h o (by omega)], by simp only [h (o + 2) (by omega)]⟩) ?_
  intro ad26 hA26 hCl26
  refine bf_widen (k2 := (17, 198)) (Nat.le_of_ble_eq_true rfl) (Nat.le_of_ble_eq_true rfl) ?_
  have hag26 : ∀ i, i < o + 1 → ad26 i = ad0 i := fun i hi => (hA26 i (by omega)).trans (hag24 i hi)
  clear hag24
  clear hCl25
  clear hA26
  refine bf_dup dX9_init_42 rfl ?_
  refine bf_xcall (n2 := o + 19) (d := 1) (mc := 1) (ms := 6) (ν := mu_X1_init) (o := (o + 17)) (As := []) (I2 := (bf_w I o (va_up (fun _ => 0) 0 (0)))) (L2 := L) (R2 := (bf_w (bf_w Rf o (va_up (va_up (fun _ => none) 3 (some (o + 1))) 2 (some (o + 2)))) (o + 2) (va_up (va_up (va_up (va_up (va_up (va_up (va_up (fun _ => none) 0 (some (o + 3))) 1 (some (o + 5))) 2 (some (o + 7))) 3 (some (o + 9))) 4 (some (o + 11))) 5 (some (o + 13))) 6 (some (o + 15))))) (lvf := (fun ad => [(1, .int (7)), (0, .ref (ad o))])) (stf := (fun ad => [.ref (ad (o + 17)), .int (7), .ref (ad (o + 2))])) dX9_init_43 rfl rfl wl_X9_25 wm_X1_init wi_X1 wc_X1_init rfl wx_X1_init ⟨(Nat.le_of_ble_eq_true rfl), (Nat.le_of_ble_eq_true rfl)⟩ ⟨(Nat.le_of_ble_eq_true rfl), (Nat.le_of_ble_eq_true rfl)⟩ (Nat.le_of_ble_eq_true rfl) (fun ad2 h => ⟨by simp only [h o (by omega)], by simp only [h (o + 2) (by omega), h (o + 17) (by omega)]⟩) (okx_X1_init (kx_9_17 hk) (fun p h1 h2 => ⟨by rw [bf_w_ne (show p ≠ o by omega)]; exact (hp p (by omega) (by omega)).1, (hp p (by omega) (by omega)).2.1, by rw [bf_w_ne (show p ≠ o + 2 by omega), bf_w_ne (show p ≠ o by omega)]; exact (hp p (by omega) (by omega)).2.2⟩) hCl26) ?_
  intro ad27 hA27 hCl27
  refine bf_widen (k2 := (18, 204)) (Nat.le_of_ble_eq_true rfl) (Nat.le_of_ble_eq_true rfl) ?_
  have hag27 : ∀ i, i < o + 1 → ad27 i = ad0 i := fun i hi => (hA27 i (by omega)).trans (hag26 i hi)
  clear hag26
  clear hCl26
  clear hA27
  refine bf_xast (a := o + 2) (t := o + 17) (t0 := 4) (cc := 17) (ci := 1) dX9_init_46 (by omega) (by omega) (kx_9_2 hk) (by decide) (kx_9_17 hk) (by decide) rfl rfl (by rw [(lx_9_2 hk)]; decide) ?_
  rw [show (((7) : Int32).toNatClampNeg) = 7 from by decide, bf_u_w]
  have hCl28 : bf_Cl (o + 19) (bf_w (bf_w Rf o (va_up (va_up (fun _ => none) 3 (some (o + 1))) 2 (some (o + 2)))) (o + 2) (va_up (va_up (va_up (va_up (va_up (va_up (va_up (va_up (fun _ => none) 0 (some (o + 3))) 1 (some (o + 5))) 2 (some (o + 7))) 3 (some (o + 9))) 4 (some (o + 11))) 5 (some (o + 13))) 6 (some (o + 15))) 7 (some (o + 17)))) := by have h := bf_Cl_u (o := o + 2) (i := 7) (t := o + 17) hCl27 (by omega); rw [bf_u_w] at h; exact h
  clear hCl27
  refine bf_iinc 0 (v := 8) (lv2 := [(1, .int _), (0, .ref _)]) dX9_init_47 rfl (by decide) (by decide) rfl ?_
  refine bf_goto 28 dX9_init_50 (by decide) ?_
  refine bf_iload_n 0 dX9_init_28 rfl rfl ?_
  refine bf_bipush (v := 8) dX9_init_29 (by decide) ?_
  refine bf_icmp_ge 53 dX9_init_31 (by decide) (fun _ => ?_) (fun q => absurd q (by decide))
  have eA2 : bf_w (bf_w Rf o (va_up (va_up (fun _ => none) 3 (some (o + 1))) 2 (some (o + 2)))) (o + 2) (va_up (va_up (va_up (va_up (va_up (va_up (va_up (va_up (fun _ => none) 0 (some (o + 3))) 1 (some (o + 5))) 2 (some (o + 7))) 3 (some (o + 9))) 4 (some (o + 11))) 5 (some (o + 13))) 6 (some (o + 15))) 7 (some (o + 17))) = bf_w Rf o (va_up (va_up (fun _ => none) 3 (some (o + 1))) 2 (some (o + 2))) := bf_wS (by rw [bf_w_ne (show o + 2 ≠ o by omega), (hp (o + 2) (by omega) (by omega)).2.2]; exact rq_9_2 hk)
  rw [eA2] at hCl28 ⊢
  have eI : bf_w I o (va_up (fun _ => 0) 0 (0)) = I := bf_wS (by rw [(hp o (by omega) (by omega)).1]; exact ri_9 hk)
  have eR : bf_w Rf o (va_up (va_up (fun _ => none) 3 (some (o + 1))) 2 (some (o + 2))) = Rf := bf_wS (by rw [(hp o (by omega) (by omega)).2.2]; exact rr_9 hk)
  rw [eI, eR]
  rw [eR] at hCl28
  exact bf_vret dX9_init_53 rfl (Nat.le_of_ble_eq_true rfl) (Nat.le_of_ble_eq_true rfl) ⟨rfl, _, hag27, rfl, hCl28⟩
set_option maxRecDepth 100000 in
set_option maxHeartbeats 40000000 in
theorem okx_X11_init {Γ : bf_Gm} {o : Nat} {ad0 : Nat → Nat} {I : Nat → Nat → Int32} {L : Nat → Nat → Int64} {Rf : Nat → Nat → Option Nat} (hk : bf_kd o = 11) (hp : bf_Fu o 156 I L Rf) (hCl : bf_Cl (o + 1) (bf_w Rf o (fun _ => none))) : bf_Cn Γ 4 mu_X11_init 155 3945 [.ref (ad0 o)] (o + 1, ad0, bf_w I o (fun _ => 0), L, bf_w Rf o (fun _ => none)) (bf_Qx (o + 1) ad0 (o + 156) I L Rf) := by
  refine bf_met rfl (Nat.le_of_ble_eq_true rfl) ?_
  have hag : ∀ i, i < o + 1 → ad0 i = ad0 i := fun _ _ => rfl
  refine bf_aload_n 0 dX11_init_0 rfl rfl ?_
  refine bf_xobj dX11_init_1 wl_X11_5 wm_Jobj wc_Jobj (Nat.le_of_ble_eq_true rfl) (Nat.le_of_ble_eq_true rfl) ?_
  refine bf_aload_n 0 dX11_init_4 rfl rfl ?_
  refine bf_xnew (n := o + 1) (lvf := (fun ad => [(0, .ref (ad o))])) (stf := (fun ad => [.ref (ad o)])) tyX7 dX11_init_5 wq_X11_11 wj_X7 wi_X7 in_X7 tyX7_ok rfl (kx_11_1 hk) (by decide) (by decide) dv_7 (Nat.le_of_ble_eq_true rfl) (Nat.le_of_ble_eq_true rfl) hCl (fun ad2 h => ⟨by simp only [h o (by omega)], by simp only [h o (by omega)]⟩) ?_
  intro ad1 hA1 hCl1
  refine bf_widen (k2 := (1, 4)) (Nat.le_of_ble_eq_true rfl) (Nat.le_of_ble_eq_true rfl) ?_
  have hag1 : ∀ i, i < o + 1 → ad1 i = ad0 i := fun i hi => (hA1 i (by omega)).trans (hag i hi)
  clear hA1
  refine bf_dup dX11_init_8 rfl ?_
  refine bf_xcall (n2 := o + 39) (d := 3) (mc := 37) (ms := 973) (ν := mu_X7_init) (o := (o + 1)) (As := []) (I2 := (bf_w I o (fun _ => 0))) (L2 := L) (R2 := (bf_w Rf o (fun _ => none))) (lvf := (fun ad => [(0, .ref (ad o))])) (stf := (fun ad => [.ref (ad (o + 1)), .ref (ad o)])) dX11_init_9 rfl rfl wl_X11_13 wm_X7_init wi_X7 wc_X7_init rfl wx_X7_init ⟨(Nat.le_of_ble_eq_true rfl), (Nat.le_of_ble_eq_true rfl)⟩ ⟨(Nat.le_of_ble_eq_true rfl), (Nat.le_of_ble_eq_true rfl)⟩ (Nat.le_of_ble_eq_true rfl) (fun ad2 h => ⟨by simp only [h o (by omega)], by simp only [h o (by omega), h (o + 1) (by omega)]⟩) (okx_X7_init (kx_11_1 hk) (fun p h1 h2 => ⟨by rw [bf_w_ne (show p ≠ o by omega)]; exact (hp p (by omega) (by omega)).1, (hp p (by omega) (by omega)).2.1, by rw [bf_w_ne (show p ≠ o by omega)]; exact (hp p (by omega) (by omega)).2.2⟩) hCl1) ?_
  intro ad2 hA2 hCl2
  refine bf_widen (k2 := (38, 977)) (Nat.le_of_ble_eq_true rfl) (Nat.le_of_ble_eq_true rfl) ?_
  have hag2 : ∀ i, i < o + 1 → ad2 i = ad0 i := fun i hi => (hA2 i (by omega)).trans (hag1 i hi)
  clear hag1
  clear hCl1
  clear hA2
  refine bf_xputR (i := 0) (ty := tyX11 0) (t := o + 1) tyX11 dX11_init_12 wf_X11_14 (by omega) hk (by decide) rfl in_X11 tyX11_ok nmX11 (by decide) (by decide) (by decide) rfl rfl rfl (by decide +kernel) (fun _ => rfl) (fun _ => rfl) ?_
  rw [bf_u_w]
  have hCl3 : bf_Cl (o + 39) (bf_w Rf o (va_up (fun _ => none) 0 (some (o + 1)))) := by have h := bf_Cl_u (o := o) (i := 0) (t := o + 1) hCl2 (by omega); rw [bf_u_w] at h; exact h
  clear hCl2
  refine bf_aload_n 0 dX11_init_15 rfl rfl ?_
  refine bf_xnew (n := o + 39) (lvf := (fun ad => [(0, .ref (ad o))])) (stf := (fun ad => [.ref (ad o)])) tyX7 dX11_init_16 wq_X11_11 wj_X7 wi_X7 in_X7 tyX7_ok rfl (kx_11_39 hk) (by decide) (by decide) dv_7 (Nat.le_of_ble_eq_true rfl) (Nat.le_of_ble_eq_true rfl) hCl3 (fun ad2 h => ⟨by simp only [h o (by omega)], by simp only [h o (by omega)]⟩) ?_
  intro ad4 hA4 hCl4
  refine bf_widen (k2 := (39, 981)) (Nat.le_of_ble_eq_true rfl) (Nat.le_of_ble_eq_true rfl) ?_
  have hag4 : ∀ i, i < o + 1 → ad4 i = ad0 i := fun i hi => (hA4 i (by omega)).trans (hag2 i hi)
  clear hag2
  clear hCl3
  clear hA4
  refine bf_dup dX11_init_19 rfl ?_
  refine bf_xcall (n2 := o + 77) (d := 3) (mc := 37) (ms := 973) (ν := mu_X7_init) (o := (o + 39)) (As := []) (I2 := (bf_w I o (fun _ => 0))) (L2 := L) (R2 := (bf_w Rf o (va_up (fun _ => none) 0 (some (o + 1))))) (lvf := (fun ad => [(0, .ref (ad o))])) (stf := (fun ad => [.ref (ad (o + 39)), .ref (ad o)])) dX11_init_20 rfl rfl wl_X11_13 wm_X7_init wi_X7 wc_X7_init rfl wx_X7_init ⟨(Nat.le_of_ble_eq_true rfl), (Nat.le_of_ble_eq_true rfl)⟩ ⟨(Nat.le_of_ble_eq_true rfl), (Nat.le_of_ble_eq_true rfl)⟩ (Nat.le_of_ble_eq_true rfl) (fun ad2 h => ⟨by simp only [h o (by omega)], by simp only [h o (by omega), h (o + 39) (by omega)]⟩) (okx_X7_init (kx_11_39 hk) (fun p h1 h2 => ⟨by rw [bf_w_ne (show p ≠ o by omega)]; exact (hp p (by omega) (by omega)).1, (hp p (by omega) (by omega)).2.1, by rw [bf_w_ne (show p ≠ o by omega)]; exact (hp p (by omega) (by omega)).2.2⟩) hCl4) ?_
  intro ad5 hA5 hCl5
  refine bf_widen (k2 := (76, 1954)) (Nat.le_of_ble_eq_true rfl) (Nat.le_of_ble_eq_true rfl) ?_
  have hag5 : ∀ i, i < o + 1 → ad5 i = ad0 i := fun i hi => (hA5 i (by omega)).trans (hag4 i hi)
  clear hag4
  clear hCl4
  clear hA5
  refine bf_xputR (i := 1) (ty := tyX11 1) (t := o + 39) tyX11 dX11_init_23 wf_X11_18 (by omega) hk (by decide) rfl in_X11 tyX11_ok nmX11 (by decide) (by decide) (by decide) rfl rfl rfl (by decide +kernel) (fun _ => rfl) (fun _ => rfl) ?_
  rw [bf_u_w]
  have hCl6 : bf_Cl (o + 77) (bf_w Rf o (va_up (va_up (fun _ => none) 0 (some (o + 1))) 1 (some (o + 39)))) := by have h := bf_Cl_u (o := o) (i := 1) (t := o + 39) hCl5 (by omega); rw [bf_u_w] at h; exact h
  clear hCl5
  refine bf_aload_n 0 dX11_init_26 rfl rfl ?_
  refine bf_iconst (v := 0) dX11_init_27 (by decide) ?_
  refine bf_xputI (i := 2) (ty := .boolean) tyX11 dX11_init_28 wf_X11_21 (by omega) hk (by decide) rfl in_X11 tyX11_ok nmX11 (by decide) (by decide) (by decide) rfl (by decide +kernel) rfl rfl ?_
  rw [bf_u_w]
  refine bf_aload_n 0 dX11_init_31 rfl rfl ?_
  refine bf_xnew (n := o + 77) (lvf := (fun ad => [(0, .ref (ad o))])) (stf := (fun ad => [.ref (ad o)])) tyX3 dX11_init_32 wq_X11_25 wj_X3 wi_X3 in_X3 tyX3_ok rfl (kx_11_77 hk) (by decide) (by decide) dv_3 (Nat.le_of_ble_eq_true rfl) (Nat.le_of_ble_eq_true rfl) hCl6 (fun ad2 h => ⟨by simp only [h o (by omega)], by simp only [h o (by omega)]⟩) ?_
  intro ad7 hA7 hCl7
  refine bf_widen (k2 := (77, 1958)) (Nat.le_of_ble_eq_true rfl) (Nat.le_of_ble_eq_true rfl) ?_
  have hag7 : ∀ i, i < o + 1 → ad7 i = ad0 i := fun i hi => (hA7 i (by omega)).trans (hag5 i hi)
  clear hag5
  clear hCl6
  clear hA7
  refine bf_dup dX11_init_35 rfl ?_
  refine bf_xcall (n2 := o + 102) (d := 2) (mc := 24) (ms := 888) (ν := mu_X3_init) (o := (o + 77)) (As := []) (I2 := (bf_w I o (va_up (fun _ => 0) 2 (0)))) (L2 := L) (R2 := (bf_w Rf o (va_up (va_up (fun _ => none) 0 (some (o + 1))) 1 (some (o + 39))))) (lvf := (fun ad => [(0, .ref (ad o))])) (stf := (fun ad => [.ref (ad (o + 77)), .ref (ad o)])) dX11_init_36 rfl rfl wl_X11_27 wm_X3_init wi_X3 wc_X3_init rfl wx_X3_init ⟨(Nat.le_of_ble_eq_true rfl), (Nat.le_of_ble_eq_true rfl)⟩ ⟨(Nat.le_of_ble_eq_true rfl), (Nat.le_of_ble_eq_true rfl)⟩ (Nat.le_of_ble_eq_true rfl) (fun ad2 h => ⟨by simp only [h o (by omega)], by simp only [h o (by omega), h (o + 77) (by omega)]⟩) (okx_X3_init (kx_11_77 hk) (fun p h1 h2 => ⟨by rw [bf_w_ne (show p ≠ o by omega)]; exact (hp p (by omega) (by omega)).1, (hp p (by omega) (by omega)).2.1, by rw [bf_w_ne (show p ≠ o by omega)]; exact (hp p (by omega) (by omega)).2.2⟩) hCl7) ?_
  intro ad8 hA8 hCl8
  refine bf_widen (k2 := (101, 2846)) (Nat.le_of_ble_eq_true rfl) (Nat.le_of_ble_eq_true rfl) ?_
  have hag8 : ∀ i, i < o + 1 → ad8 i = ad0 i := fun i hi => (hA8 i (by omega)).trans (hag7 i hi)
  clear hag7
  clear hCl7
  clear hA8
  refine bf_xputR (i := 3) (ty := tyX11 3) (t := o + 77) tyX11 dX11_init_39 wf_X11_28 (by omega) hk (by decide) rfl in_X11 tyX11_ok nmX11 (by decide) (by decide) (by decide) rfl rfl rfl (by decide +kernel) (fun _ => rfl) (fun _ => rfl) ?_
  rw [bf_u_w]
  have hCl9 : bf_Cl (o + 102) (bf_w Rf o (va_up (va_up (va_up (fun _ => none) 0 (some (o + 1))) 1 (some (o + 39))) 3 (some (o + 77)))) := by have h := bf_Cl_u (o := o) (i := 3) (t := o + 77) hCl8 (by omega); rw [bf_u_w] at h; exact h
  clear hCl8
  refine bf_aload_n 0 dX11_init_42 rfl rfl ?_
  refine bf_xnew (n := o + 102) (lvf := (fun ad => [(0, .ref (ad o))])) (stf := (fun ad => [.ref (ad o)])) tyX6 dX11_init_43 wq_X11_32 wj_X6 wi_X6 in_X6 tyX6_ok rfl (kx_11_102 hk) (by decide) (by decide) dv_6 (Nat.le_of_ble_eq_true rfl) (Nat.le_of_ble_eq_true rfl) hCl9 (fun ad2 h => ⟨by simp only [h o (by omega)], by simp only [h o (by omega)]⟩) ?_
  intro ad10 hA10 hCl10
  refine bf_widen (k2 := (102, 2856)) (Nat.le_of_ble_eq_true rfl) (Nat.le_of_ble_eq_true rfl) ?_
  have hag10 : ∀ i, i < o + 1 → ad10 i = ad0 i := fun i hi => (hA10 i (by omega)).trans (hag8 i hi)
  clear hag8
  clear hCl9
  clear hA10
  refine bf_dup dX11_init_46 rfl ?_
  refine bf_xcall (n2 := o + 110) (d := 2) (mc := 7) (ms := 395) (ν := mu_X6_init) (o := (o + 102)) (As := []) (I2 := (bf_w I o (va_up (fun _ => 0) 2 (0)))) (L2 := L) (R2 := (bf_w Rf o (va_up (va_up (va_up (fun _ => none) 0 (some (o + 1))) 1 (some (o + 39))) 3 (some (o + 77))))) (lvf := (fun ad => [(0, .ref (ad o))])) (stf := (fun ad => [.ref (ad (o + 102)), .ref (ad o)])) dX11_init_47 rfl rfl wl_X11_34 wm_X6_init wi_X6 wc_X6_init rfl wx_X6_init ⟨(Nat.le_of_ble_eq_true rfl), (Nat.le_of_ble_eq_true rfl)⟩ ⟨(Nat.le_of_ble_eq_true rfl), (Nat.le_of_ble_eq_true rfl)⟩ (Nat.le_of_ble_eq_true rfl) (fun ad2 h => ⟨by simp only [h o (by omega)], by simp only [h o (by omega), h (o + 102) (by omega)]⟩) (okx_X6_init (kx_11_102 hk) (fun p h1 h2 => ⟨by rw [bf_w_ne (show p ≠ o by omega)]; exact (hp p (by omega) (by omega)).1, (hp p (by omega) (by omega)).2.1, by rw [bf_w_ne (show p ≠ o by omega)]; exact (hp p (by omega) (by omega)).2.2⟩) hCl10) ?_
  intro ad11 hA11 hCl11
  refine bf_widen (k2 := (109, 3251)) (Nat.le_of_ble_eq_true rfl) (Nat.le_of_ble_eq_true rfl) ?_
  have hag11 : ∀ i, i < o + 1 → ad11 i = ad0 i := fun i hi => (hA11 i (by omega)).trans (hag10 i hi)
  clear hag10
  clear hCl10
  clear hA11
  refine bf_xputR (i := 4) (ty := tyX11 4) (t := o + 102) tyX11 dX11_init_50 wf_X11_35 (by omega) hk (by decide) rfl in_X11 tyX11_ok nmX11 (by decide) (by decide) (by decide) rfl rfl rfl (by decide +kernel) (fun _ => rfl) (fun _ => rfl) ?_
  rw [bf_u_w]
  have hCl12 : bf_Cl (o + 110) (bf_w Rf o (va_up (va_up (va_up (va_up (fun _ => none) 0 (some (o + 1))) 1 (some (o + 39))) 3 (some (o + 77))) 4 (some (o + 102)))) := by have h := bf_Cl_u (o := o) (i := 4) (t := o + 102) hCl11 (by omega); rw [bf_u_w] at h; exact h
  clear hCl11
  refine bf_aload_n 0 dX11_init_53 rfl rfl ?_
  refine bf_xnew (n := o + 110) (lvf := (fun ad => [(0, .ref (ad o))])) (stf := (fun ad => [.ref (ad o)])) tyX4 dX11_init_54 wq_X11_39 wj_X4 wi_X4 in_X4 tyX4_ok rfl (kx_11_110 hk) (by decide) (by decide) dv_4 (Nat.le_of_ble_eq_true rfl) (Nat.le_of_ble_eq_true rfl) hCl12 (fun ad2 h => ⟨by simp only [h o (by omega)], by simp only [h o (by omega)]⟩) ?_
  intro ad13 hA13 hCl13
  refine bf_widen (k2 := (110, 3256)) (Nat.le_of_ble_eq_true rfl) (Nat.le_of_ble_eq_true rfl) ?_
  have hag13 : ∀ i, i < o + 1 → ad13 i = ad0 i := fun i hi => (hA13 i (by omega)).trans (hag11 i hi)
  clear hag11
  clear hCl12
  clear hA13
  refine bf_dup dX11_init_57 rfl ?_
  refine bf_xcall (n2 := o + 124) (d := 2) (mc := 13) (ms := 96) (ν := mu_X4_init) (o := (o + 110)) (As := []) (I2 := (bf_w I o (va_up (fun _ => 0) 2 (0)))) (L2 := L) (R2 := (bf_w Rf o (va_up (va_up (va_up (va_up (fun _ => none) 0 (some (o + 1))) 1 (some (o + 39))) 3 (some (o + 77))) 4 (some (o + 102))))) (lvf := (fun ad => [(0, .ref (ad o))])) (stf := (fun ad => [.ref (ad (o + 110)), .ref (ad o)])) dX11_init_58 rfl rfl wl_X11_41 wm_X4_init wi_X4 wc_X4_init rfl wx_X4_init ⟨(Nat.le_of_ble_eq_true rfl), (Nat.le_of_ble_eq_true rfl)⟩ ⟨(Nat.le_of_ble_eq_true rfl), (Nat.le_of_ble_eq_true rfl)⟩ (Nat.le_of_ble_eq_true rfl) (fun ad2 h => ⟨by simp only [h o (by omega)], by simp only [h o (by omega), h (o + 110) (by omega)]⟩) (okx_X4_init (kx_11_110 hk) (fun p h1 h2 => ⟨by rw [bf_w_ne (show p ≠ o by omega)]; exact (hp p (by omega) (by omega)).1, (hp p (by omega) (by omega)).2.1, by rw [bf_w_ne (show p ≠ o by omega)]; exact (hp p (by omega) (by omega)).2.2⟩) hCl13) ?_
  intro ad14 hA14 hCl14
  refine bf_widen (k2 := (123, 3352)) (Nat.le_of_ble_eq_true rfl) (Nat.le_of_ble_eq_true rfl) ?_
  have hag14 : ∀ i, i < o + 1 → ad14 i = ad0 i := fun i hi => (hA14 i (by omega)).trans (hag13 i hi)
  clear hag13
  clear hCl13
  clear hA14
  refine bf_xputR (i := 5) (ty := tyX11 5) (t := o + 110) tyX11 dX11_init_61 wf_X11_42 (by omega) hk (by decide) rfl in_X11 tyX11_ok nmX11 (by decide) (by decide) (by decide) rfl rfl rfl (by decide +kernel) (fun _ => rfl) (fun _ => rfl) ?_
  rw [bf_u_w]
  have hCl15 : bf_Cl (o + 124) (bf_w Rf o (va_up (va_up (va_up (va_up (va_up (fun _ => none) 0 (some (o + 1))) 1 (some (o + 39))) 3 (some (o + 77))) 4 (some (o + 102))) 5 (some (o + 110)))) := by have h := bf_Cl_u (o := o) (i := 5) (t := o + 110) hCl14 (by omega); rw [bf_u_w] at h; exact h
  clear hCl14
  refine bf_aload_n 0 dX11_init_64 rfl rfl ?_
  refine bf_xnew (n := o + 124) (lvf := (fun ad => [(0, .ref (ad o))])) (stf := (fun ad => [.ref (ad o)])) tyX9 dX11_init_65 wq_X11_46 wj_X9 wi_X9 in_X9 tyX9_ok rfl (kx_11_124 hk) (by decide) (by decide) dv_9 (Nat.le_of_ble_eq_true rfl) (Nat.le_of_ble_eq_true rfl) hCl15 (fun ad2 h => ⟨by simp only [h o (by omega)], by simp only [h o (by omega)]⟩) ?_
  intro ad16 hA16 hCl16
  refine bf_widen (k2 := (124, 3357)) (Nat.le_of_ble_eq_true rfl) (Nat.le_of_ble_eq_true rfl) ?_
  have hag16 : ∀ i, i < o + 1 → ad16 i = ad0 i := fun i hi => (hA16 i (by omega)).trans (hag14 i hi)
  clear hag14
  clear hCl15
  clear hA16
  refine bf_dup dX11_init_68 rfl ?_
  refine bf_xcall (n2 := o + 143) (d := 2) (mc := 18) (ms := 204) (ν := mu_X9_init) (o := (o + 124)) (As := []) (I2 := (bf_w I o (va_up (fun _ => 0) 2 (0)))) (L2 := L) (R2 := (bf_w Rf o (va_up (va_up (va_up (va_up (va_up (fun _ => none) 0 (some (o + 1))) 1 (some (o + 39))) 3 (some (o + 77))) 4 (some (o + 102))) 5 (some (o + 110))))) (lvf := (fun ad => [(0, .ref (ad o))])) (stf := (fun ad => [.ref (ad (o + 124)), .ref (ad o)])) dX11_init_69 rfl rfl wl_X11_48 wm_X9_init wi_X9 wc_X9_init rfl wx_X9_init ⟨(Nat.le_of_ble_eq_true rfl), (Nat.le_of_ble_eq_true rfl)⟩ ⟨(Nat.le_of_ble_eq_true rfl), (Nat.le_of_ble_eq_true rfl)⟩ (Nat.le_of_ble_eq_true rfl) (fun ad2 h => ⟨by simp only [h o (by omega)], by simp only [h o (by omega), h (o + 124) (by omega)]⟩) (okx_X9_init (kx_11_124 hk) (fun p h1 h2 => ⟨by rw [bf_w_ne (show p ≠ o by omega)]; exact (hp p (by omega) (by omega)).1, (hp p (by omega) (by omega)).2.1, by rw [bf_w_ne (show p ≠ o by omega)]; exact (hp p (by omega) (by omega)).2.2⟩) hCl16) ?_
  intro ad17 hA17 hCl17
  refine bf_widen (k2 := (142, 3561)) (Nat.le_of_ble_eq_true rfl) (Nat.le_of_ble_eq_true rfl) ?_
  have hag17 : ∀ i, i < o + 1 → ad17 i = ad0 i := fun i hi => (hA17 i (by omega)).trans (hag16 i hi)
  clear hag16
  clear hCl16
  clear hA17
  refine bf_xputR (i := 6) (ty := tyX11 6) (t := o + 124) tyX11 dX11_init_72 wf_X11_49 (by omega) hk (by decide) rfl in_X11 tyX11_ok nmX11 (by decide) (by decide) (by decide) rfl rfl rfl (by decide +kernel) (fun _ => rfl) (fun _ => rfl) ?_
  rw [bf_u_w]
  have hCl18 : bf_Cl (o + 143) (bf_w Rf o (va_up (va_up (va_up (va_up (va_up (va_up (fun _ => none) 0 (some (o + 1))) 1 (some (o + 39))) 3 (some (o + 77))) 4 (some (o + 102))) 5 (some (o + 110))) 6 (some (o + 124)))) := by have h := bf_Cl_u (o := o) (i := 6) (t := o + 124) hCl17 (by omega); rw [bf_u_w] at h; exact h
  clear hCl17
  refine bf_aload_n 0 dX11_init_75 rfl rfl ?_
  refine bf_bipush (v := 6) dX11_init_76 (by decide) ?_
  refine bf_xnewQ (n := o + 143) (lvf := (fun ad => [(0, .ref (ad o))])) (stf := (fun ad => [.ref (ad o)])) (t0 := 5) (cc := 18) (N := 6) dX11_init_78 wq_X11_53 (fun _ h => h.2.2.2.2.1) rfl (by decide) (by decide) (by decide) (kx_11_143 hk) (by decide) (lx_11_143 hk) (Nat.le_of_ble_eq_true rfl) (Nat.le_of_ble_eq_true rfl) hCl18 (fun ad2 h => ⟨by simp only [h o (by omega)], by simp only [h o (by omega)]⟩) ?_
  intro ad19 hA19 hCl19
  refine bf_widen (k2 := (143, 3567)) (Nat.le_of_ble_eq_true rfl) (Nat.le_of_ble_eq_true rfl) ?_
  have hag19 : ∀ i, i < o + 1 → ad19 i = ad0 i := fun i hi => (hA19 i (by omega)).trans (hag17 i hi)
  clear hag17
  clear hCl18
  clear hA19
  refine bf_xputR (i := 7) (ty := tyX11 7) (t := o + 143) tyX11 dX11_init_81 wf_X11_55 (by omega) hk (by decide) rfl in_X11 tyX11_ok nmX11 (by decide) (by decide) (by decide) rfl rfl rfl (by decide +kernel) (fun _ => rfl) (fun _ => rfl) ?_
  rw [bf_u_w2 (by omega)]
  have hCl20 : bf_Cl (o + 144) (bf_w (bf_w Rf o (va_up (va_up (va_up (va_up (va_up (va_up (va_up (fun _ => none) 0 (some (o + 1))) 1 (some (o + 39))) 3 (some (o + 77))) 4 (some (o + 102))) 5 (some (o + 110))) 6 (some (o + 124))) 7 (some (o + 143)))) (o + 143) (fun _ => none)) := by have h := bf_Cl_u (o := o) (i := 7) (t := o + 143) hCl19 (by omega); rw [bf_u_w2 (by omega)] at h; exact h
  clear hCl19
  refine bf_iconst (v := 0) dX11_init_84 (by decide) ?_
  refine bf_istore_n (lv2 := [(1, .int _), (0, .ref _)]) dX11_init_85 rfl (by decide) rfl ?_
  refine bf_iload_n 0 dX11_init_86 rfl rfl ?_
  refine bf_bipush (v := 6) dX11_init_87 (by decide) ?_
  refine bf_icmp_ge 111 dX11_init_89 (by decide) (fun q => absurd q (by decide)) (fun _ => ?_)
  refine bf_aload_n 1 dX11_init_92 rfl rfl ?_
  refine bf_xgetR (i := 7) (t := o + 143) dX11_init_93 wf_X11_55 (by omega) hk (by decide) rfl in_X11 (by decide) (by decide) (by decide) (by rw [bf_w_ne (show o ≠ o + 143 by omega), bf_w_o]; rfl) ?_
  refine bf_iload_n 0 dX11_init_96 rfl rfl ?_
  refine bf_xnew (n := o + 144) (lvf := (fun ad => [(1, .int (0)), (0, .ref (ad o))])) (stf := (fun ad => [.int (0), .ref (ad (o + 143))])) tyX8 dX11_init_97 wq_X11_53 wj_X8 wi_X8 in_X8 tyX8_ok rfl (kx_11_144 hk) (by decide) (by decide) dv_8 (Nat.le_of_ble_eq_true rfl) (Nat.le_of_ble_eq_true rfl) hCl20 (fun ad2 h => ⟨by simp only [h o (by omega)], by simp only [h (o + 143) (by omega)]⟩) ?_
  intro ad21 hA21 hCl21
  refine bf_widen (k2 := (144, 3570)) (Nat.le_of_ble_eq_true rfl) (Nat.le_of_ble_eq_true rfl) ?_
  have hag21 : ∀ i, i < o + 1 → ad21 i = ad0 i := fun i hi => (hA21 i (by omega)).trans (hag19 i hi)
  clear hag19
  clear hCl20
  clear hA21
  refine bf_dup dX11_init_100 rfl ?_
  refine bf_xcall (n2 := o + 146) (d := 1) (mc := 1) (ms := 60) (ν := mu_X8_init) (o := (o + 144)) (As := []) (I2 := (bf_w I o (va_up (fun _ => 0) 2 (0)))) (L2 := L) (R2 := (bf_w (bf_w Rf o (va_up (va_up (va_up (va_up (va_up (va_up (va_up (fun _ => none) 0 (some (o + 1))) 1 (some (o + 39))) 3 (some (o + 77))) 4 (some (o + 102))) 5 (some (o + 110))) 6 (some (o + 124))) 7 (some (o + 143)))) (o + 143) (fun _ => none))) (lvf := (fun ad => [(1, .int (0)), (0, .ref (ad o))])) (stf := (fun ad => [.ref (ad (o + 144)), .int (0), .ref (ad (o + 143))])) dX11_init_101 rfl rfl wl_X11_59 wm_X8_init wi_X8 wc_X8_init rfl wx_X8_init ⟨(Nat.le_of_ble_eq_true rfl), (Nat.le_of_ble_eq_true rfl)⟩ ⟨(Nat.le_of_ble_eq_true rfl), (Nat.le_of_ble_eq_true rfl)⟩ (Nat.le_of_ble_eq_true rfl) (fun ad2 h => ⟨by simp only [h o (by omega)], by simp only [h (o + 143) (by omega), h (o + 144) (by omega)]⟩) (okx_X8_init (kx_11_144 hk) (fun p h1 h2 => ⟨by rw [bf_w_ne (show p ≠ o by omega)]; exact (hp p (by omega) (by omega)).1, (hp p (by omega) (by omega)).2.1, by rw [bf_w_ne (show p ≠ o + 143 by omega), bf_w_ne (show p ≠ o by omega)]; exact (hp p (by omega) (by omega)).2.2⟩) hCl21) ?_
  intro ad22 hA22 hCl22
  refine bf_widen (k2 := (145, 3630)) (Nat.le_of_ble_eq_true rfl) (Nat.le_of_ble_eq_true rfl) ?_
  have hag22 : ∀ i, i < o + 1 → ad22 i = ad0 i := fun i hi => (hA22 i (by omega)).trans (hag21 i hi)
  clear hag21
  clear hCl21
  clear hA22
  refine bf_xast (a := o + 143) (t := o + 144) (t0 := 5) (cc := 18) (ci := 8) dX11_init_104 (by omega) (by omega) (kx_11_143 hk) (by decide) (kx_11_144 hk) (by decide) rfl rfl (by rw [(lx_11_143 hk)]; decide) ?_
  rw [show (((0) : Int32).toNatClampNeg) = 0 from by decide, bf_u_w]
  have hCl23 : bf_Cl (o + 146) (bf_w (bf_w Rf o (va_up (va_up (va_up (va_up (va_up (va_up (va_up (fun _ => none) 0 (some (o + 1))) 1 (some (o + 39))) 3 (some (o + 77))) 4 (some (o + 102))) 5 (some (o + 110))) 6 (some (o + 124))) 7 (some (o + 143)))) (o + 143) (va_up (fun _ => none) 0 (some (o + 144)))) := by have h := bf_Cl_u (o := o + 143) (i := 0) (t := o + 144) hCl22 (by omega); rw [bf_u_w] at h; exact h
  clear hCl22
  refine bf_iinc 0 (v := 1) (lv2 := [(1, .int _), (0, .ref _)]) dX11_init_105 rfl (by decide) (by decide) rfl ?_
  refine bf_goto 86 dX11_init_108 (by decide) ?_
  refine bf_iload_n 0 dX11_init_86 rfl rfl ?_
  refine bf_bipush (v := 6) dX11_init_87 (by decide) ?_
  refine bf_icmp_ge 111 dX11_init_89 (by decide) (fun q => absurd q (by decide)) (fun _ => ?_)
  refine bf_aload_n 1 dX11_init_92 rfl rfl ?_
  refine bf_xgetR (i := 7) (t := o + 143) dX11_init_93 wf_X11_55 (by omega) hk (by decide) rfl in_X11 (by decide) (by decide) (by decide) (by rw [bf_w_ne (show o ≠ o + 143 by omega), bf_w_o]; rfl) ?_
  refine bf_iload_n 0 dX11_init_96 rfl rfl ?_
  refine bf_xnew (n := o + 146) (lvf := (fun ad => [(1, .int (1)), (0, .ref (ad o))])) (stf := (fun ad => [.int (1), .ref (ad (o + 143))])) tyX8 dX11_init_97 wq_X11_53 wj_X8 wi_X8 in_X8 tyX8_ok rfl (kx_11_146 hk) (by decide) (by decide) dv_8 (Nat.le_of_ble_eq_true rfl) (Nat.le_of_ble_eq_true rfl) hCl23 (fun ad2 h => ⟨by simp only [h o (by omega)], by simp only [h (o + 143) (by omega)]⟩) ?_
  intro ad24 hA24 hCl24
  refine bf_widen (k2 := (146, 3633)) (Nat.le_of_ble_eq_true rfl) (Nat.le_of_ble_eq_true rfl) ?_
  have hag24 : ∀ i, i < o + 1 → ad24 i = ad0 i := fun i hi => (hA24 i (by omega)).trans (hag22 i hi)
  clear hag22
  clear hCl23
  clear hA24
  refine bf_dup dX11_init_100 rfl ?_
  refine bf_xcall (n2 := o + 148) (d := 1) (mc := 1) (ms := 60) (ν := mu_X8_init) (o := (o + 146)) (As := []) (I2 := (bf_w I o (va_up (fun _ => 0) 2 (0)))) (L2 := L) (R2 := (bf_w (bf_w Rf o (va_up (va_up (va_up (va_up (va_up (va_up (va_up (fun _ => none) 0 (some (o + 1))) 1 (some (o + 39))) 3 (some (o + 77))) 4 (some (o + 102))) 5 (some (o + 110))) 6 (some (o + 124))) 7 (some (o + 143)))) (o + 143) (va_up (fun _ => none) 0 (some (o + 144))))) (lvf := (fun ad => [(1, .int (1)), (0, .ref (ad o))])) (stf := (fun ad => [.ref (ad (o + 146)), .int (1), .ref (ad (o + 143))])) dX11_init_101 rfl rfl wl_X11_59 wm_X8_init wi_X8 wc_X8_init rfl wx_X8_init ⟨(Nat.le_of_ble_eq_true rfl), (Nat.le_of_ble_eq_true rfl)⟩ ⟨(Nat.le_of_ble_eq_true rfl), (Nat.le_of_ble_eq_true rfl)⟩ (Nat.le_of_ble_eq_true rfl) (fun ad2 h => ⟨by simp only [h o (by omega)], by simp only [h (o + 143) (by omega), h (o + 146) (by omega)]⟩) (okx_X8_init (kx_11_146 hk) (fun p h1 h2 => ⟨by rw [bf_w_ne (show p ≠ o by omega)]; exact (hp p (by omega) (by omega)).1, (hp p (by omega) (by omega)).2.1, by rw [bf_w_ne (show p ≠ o + 143 by omega), bf_w_ne (show p ≠ o by omega)]; exact (hp p (by omega) (by omega)).2.2⟩) hCl24) ?_
  intro ad25 hA25 hCl25
  refine bf_widen (k2 := (147, 3693)) (Nat.le_of_ble_eq_true rfl) (Nat.le_of_ble_eq_true rfl) ?_
  have hag25 : ∀ i, i < o + 1 → ad25 i = ad0 i := fun i hi => (hA25 i (by omega)).trans (hag24 i hi)
  clear hag24
  clear hCl24
  clear hA25
  refine bf_xast (a := o + 143) (t := o + 146) (t0 := 5) (cc := 18) (ci := 8) dX11_init_104 (by omega) (by omega) (kx_11_143 hk) (by decide) (kx_11_146 hk) (by decide) rfl rfl (by rw [(lx_11_143 hk)]; decide) ?_
  rw [show (((1) : Int32).toNatClampNeg) = 1 from by decide, bf_u_w]
  have hCl26 : bf_Cl (o + 148) (bf_w (bf_w Rf o (va_up (va_up (va_up (va_up (va_up (va_up (va_up (fun _ => none) 0 (some (o + 1))) 1 (some (o + 39))) 3 (some (o + 77))) 4 (some (o + 102))) 5 (some (o + 110))) 6 (some (o + 124))) 7 (some (o + 143)))) (o + 143) (va_up (va_up (fun _ => none) 0 (some (o + 144))) 1 (some (o + 146)))) := by have h := bf_Cl_u (o := o + 143) (i := 1) (t := o + 146) hCl25 (by omega); rw [bf_u_w] at h; exact h
  clear hCl25
  refine bf_iinc 0 (v := 2) (lv2 := [(1, .int _), (0, .ref _)]) dX11_init_105 rfl (by decide) (by decide) rfl ?_
  refine bf_goto 86 dX11_init_108 (by decide) ?_
  refine bf_iload_n 0 dX11_init_86 rfl rfl ?_
  refine bf_bipush (v := 6) dX11_init_87 (by decide) ?_
  refine bf_icmp_ge 111 dX11_init_89 (by decide) (fun q => absurd q (by decide)) (fun _ => ?_)
  refine bf_aload_n 1 dX11_init_92 rfl rfl ?_
  refine bf_xgetR (i := 7) (t := o + 143) dX11_init_93 wf_X11_55 (by omega) hk (by decide) rfl in_X11 (by decide) (by decide) (by decide) (by rw [bf_w_ne (show o ≠ o + 143 by omega), bf_w_o]; rfl) ?_
  refine bf_iload_n 0 dX11_init_96 rfl rfl ?_
  refine bf_xnew (n := o + 148) (lvf := (fun ad => [(1, .int (2)), (0, .ref (ad o))])) (stf := (fun ad => [.int (2), .ref (ad (o + 143))])) tyX8 dX11_init_97 wq_X11_53 wj_X8 wi_X8 in_X8 tyX8_ok rfl (kx_11_148 hk) (by decide) (by decide) dv_8 (Nat.le_of_ble_eq_true rfl) (Nat.le_of_ble_eq_true rfl) hCl26 (fun ad2 h => ⟨by simp only [h o (by omega)], by simp only [h (o + 143) (by omega)]⟩) ?_
  intro ad27 hA27 hCl27
  refine bf_widen (k2 := (148, 3696)) (Nat.le_of_ble_eq_true rfl) (Nat.le_of_ble_eq_true rfl) ?_
  have hag27 : ∀ i, i < o + 1 → ad27 i = ad0 i := fun i hi => (hA27 i (by omega)).trans (hag25 i hi)
  clear hag25
  clear hCl26
  clear hA27
  refine bf_dup dX11_init_100 rfl ?_
  refine bf_xcall (n2 := o + 150) (d := 1) (mc := 1) (ms := 60) (ν := mu_X8_init) (o := (o + 148)) (As := []) (I2 := (bf_w I o (va_up (fun _ => 0) 2 (0)))) (L2 := L) (R2 := (bf_w (bf_w Rf o (va_up (va_up (va_up (va_up (va_up (va_up (va_up (fun _ => none) 0 (some (o + 1))) 1 (some (o + 39))) 3 (some (o + 77))) 4 (some (o + 102))) 5 (some (o + 110))) 6 (some (o + 124))) 7 (some (o + 143)))) (o + 143) (va_up (va_up (fun _ => none) 0 (some (o + 144))) 1 (some (o + 146))))) (lvf := (fun ad => [(1, .int (2)), (0, .ref (ad o))])) (stf := (fun ad => [.ref (ad (o + 148)), .int (2), .ref (ad (o + 143))])) dX11_init_101 rfl rfl wl_X11_59 wm_X8_init wi_X8 wc_X8_init rfl wx_X8_init ⟨(Nat.le_of_ble_eq_true rfl), (Nat.le_of_ble_eq_true rfl)⟩ ⟨(Nat.le_of_ble_eq_true rfl), (Nat.le_of_ble_eq_true rfl)⟩ (Nat.le_of_ble_eq_true rfl) (fun ad2 h => ⟨by simp only [h o (by omega)], by simp only [h (o + 143) (by omega), h (o + 148) (by omega)]⟩) (okx_X8_init (kx_11_148 hk) (fun p h1 h2 => ⟨by rw [bf_w_ne (show p ≠ o by omega)]; exact (hp p (by omega) (by omega)).1, (hp p (by omega) (by omega)).2.1, by rw [bf_w_ne (show p ≠ o + 143 by omega), bf_w_ne (show p ≠ o by omega)]; exact (hp p (by omega) (by omega)).2.2⟩) hCl27) ?_
  intro ad28 hA28 hCl28
  refine bf_widen (k2 := (149, 3756)) (Nat.le_of_ble_eq_true rfl) (Nat.le_of_ble_eq_true rfl) ?_
  have hag28 : ∀ i, i < o + 1 → ad28 i = ad0 i := fun i hi => (hA28 i (by omega)).trans (hag27 i hi)
  clear hag27
  clear hCl27
  clear hA28
  refine bf_xast (a := o + 143) (t := o + 148) (t0 := 5) (cc := 18) (ci := 8) dX11_init_104 (by omega) (by omega) (kx_11_143 hk) (by decide) (kx_11_148 hk) (by decide) rfl rfl (by rw [(lx_11_143 hk)]; decide) ?_
  rw [show (((2) : Int32).toNatClampNeg) = 2 from by decide, bf_u_w]
  have hCl29 : bf_Cl (o + 150) (bf_w (bf_w Rf o (va_up (va_up (va_up (va_up (va_up (va_up (va_up (fun _ => none) 0 (some (o + 1))) 1 (some (o + 39))) 3 (some (o + 77))) 4 (some (o + 102))) 5 (some (o + 110))) 6 (some (o + 124))) 7 (some (o + 143)))) (o + 143) (va_up (va_up (va_up (fun _ => none) 0 (some (o + 144))) 1 (some (o + 146))) 2 (some (o + 148)))) := by have h := bf_Cl_u (o := o + 143) (i := 2) (t := o + 148) hCl28 (by omega); rw [bf_u_w] at h; exact h
  clear hCl28
  refine bf_iinc 0 (v := 3) (lv2 := [(1, .int _), (0, .ref _)]) dX11_init_105 rfl (by decide) (by decide) rfl ?_
  refine bf_goto 86 dX11_init_108 (by decide) ?_
  refine bf_iload_n 0 dX11_init_86 rfl rfl ?_
  refine bf_bipush (v := 6) dX11_init_87 (by decide) ?_
  refine bf_icmp_ge 111 dX11_init_89 (by decide) (fun q => absurd q (by decide)) (fun _ => ?_)
  refine bf_aload_n 1 dX11_init_92 rfl rfl ?_
  refine bf_xgetR (i := 7) (t := o + 143) dX11_init_93 wf_X11_55 (by omega) hk (by decide) rfl in_X11 (by decide) (by decide) (by decide) (by rw [bf_w_ne (show o ≠ o + 143 by omega), bf_w_o]; rfl) ?_
  refine bf_iload_n 0 dX11_init_96 rfl rfl ?_
  refine bf_xnew (n := o + 150) (lvf := (fun ad => [(1, .int (3)), (0, .ref (ad o))])) (stf := (fun ad => [.int (3), .ref (ad (o + 143))])) tyX8 dX11_init_97 wq_X11_53 wj_X8 wi_X8 in_X8 tyX8_ok rfl (kx_11_150 hk) (by decide) (by decide) dv_8 (Nat.le_of_ble_eq_true rfl) (Nat.le_of_ble_eq_true rfl) hCl29 (fun ad2 h => ⟨by simp only [h o (by omega)], by simp only [h (o + 143) (by omega)]⟩) ?_
  intro ad30 hA30 hCl30
  refine bf_widen (k2 := (150, 3759)) (Nat.le_of_ble_eq_true rfl) (Nat.le_of_ble_eq_true rfl) ?_
  have hag30 : ∀ i, i < o + 1 → ad30 i = ad0 i := fun i hi => (hA30 i (by omega)).trans (hag28 i hi)
  clear hag28
  clear hCl29
  clear hA30
  refine bf_dup dX11_init_100 rfl ?_
  refine bf_xcall (n2 := o + 152) (d := 1) (mc := 1) (ms := 60) (ν := mu_X8_init) (o := (o + 150)) (As := []) (I2 := (bf_w I o (va_up (fun _ => 0) 2 (0)))) (L2 := L) (R2 := (bf_w (bf_w Rf o (va_up (va_up (va_up (va_up (va_up (va_up (va_up (fun _ => none) 0 (some (o + 1))) 1 (some (o + 39))) 3 (some (o + 77))) 4 (some (o + 102))) 5 (some (o + 110))) 6 (some (o + 124))) 7 (some (o + 143)))) (o + 143) (va_up (va_up (va_up (fun _ => none) 0 (some (o + 144))) 1 (some (o + 146))) 2 (some (o + 148))))) (lvf := (fun ad => [(1, .int (3)), (0, .ref (ad o))])) (stf := (fun ad => [.ref (ad (o + 150)), .int (3), .ref (ad (o + 143))])) dX11_init_101 rfl rfl wl_X11_59 wm_X8_init wi_X8 wc_X8_init rfl wx_X8_init ⟨(Nat.le_of_ble_eq_true rfl), (Nat.le_of_ble_eq_true rfl)⟩ ⟨(Nat.le_of_ble_eq_true rfl), (Nat.le_of_ble_eq_true rfl)⟩ (Nat.le_of_ble_eq_true rfl) (fun ad2 h => ⟨by simp only [h o (by omega)], by simp only [h (o + 143) (by omega), h (o + 150) (by omega)]⟩) (okx_X8_init (kx_11_150 hk) (fun p h1 h2 => ⟨by rw [bf_w_ne (show p ≠ o by omega)]; exact (hp p (by omega) (by omega)).1, (hp p (by omega) (by omega)).2.1, by rw [bf_w_ne (show p ≠ o + 143 by omega), bf_w_ne (show p ≠ o by omega)]; exact (hp p (by omega) (by omega)).2.2⟩) hCl30) ?_
  intro ad31 hA31 hCl31
  refine bf_widen (k2 := (151, 3819)) (Nat.le_of_ble_eq_true rfl) (Nat.le_of_ble_eq_true rfl) ?_
  have hag31 : ∀ i, i < o + 1 → ad31 i = ad0 i := fun i hi => (hA31 i (by omega)).trans (hag30 i hi)
  clear hag30
  clear hCl30
  clear hA31
  refine bf_xast (a := o + 143) (t := o + 150) (t0 := 5) (cc := 18) (ci := 8) dX11_init_104 (by omega) (by omega) (kx_11_143 hk) (by decide) (kx_11_150 hk) (by decide) rfl rfl (by rw [(lx_11_143 hk)]; decide) ?_
  rw [show (((3) : Int32).toNatClampNeg) = 3 from by decide, bf_u_w]
  have hCl32 : bf_Cl (o + 152) (bf_w (bf_w Rf o (va_up (va_up (va_up (va_up (va_up (va_up (va_up (fun _ => none) 0 (some (o + 1))) 1 (some (o + 39))) 3 (some (o + 77))) 4 (some (o + 102))) 5 (some (o + 110))) 6 (some (o + 124))) 7 (some (o + 143)))) (o + 143) (va_up (va_up (va_up (va_up (fun _ => none) 0 (some (o + 144))) 1 (some (o + 146))) 2 (some (o + 148))) 3 (some (o + 150)))) := by have h := bf_Cl_u (o := o + 143) (i := 3) (t := o + 150) hCl31 (by omega); rw [bf_u_w] at h; exact h
  clear hCl31
  refine bf_iinc 0 (v := 4) (lv2 := [(1, .int _), (0, .ref _)]) dX11_init_105 rfl (by decide) (by decide) rfl ?_
  refine bf_goto 86 dX11_init_108 (by decide) ?_
  refine bf_iload_n 0 dX11_init_86 rfl rfl ?_
  refine bf_bipush (v := 6) dX11_init_87 (by decide) ?_
  refine bf_icmp_ge 111 dX11_init_89 (by decide) (fun q => absurd q (by decide)) (fun _ => ?_)
  refine bf_aload_n 1 dX11_init_92 rfl rfl ?_
  refine bf_xgetR (i := 7) (t := o + 143) dX11_init_93 wf_X11_55 (by omega) hk (by decide) rfl in_X11 (by decide) (by decide) (by decide) (by rw [bf_w_ne (show o ≠ o + 143 by omega), bf_w_o]; rfl) ?_
  refine bf_iload_n 0 dX11_init_96 rfl rfl ?_
  refine bf_xnew (n := o + 152) (lvf := (fun ad => [(1, .int (4)), (0, .ref (ad o))])) (stf := (fun ad => [.int (4), .ref (ad (o + 143))])) tyX8 dX11_init_97 wq_X11_53 wj_X8 wi_X8 in_X8 tyX8_ok rfl (kx_11_152 hk) (by decide) (by decide) dv_8 (Nat.le_of_ble_eq_true rfl) (Nat.le_of_ble_eq_true rfl) hCl32 (fun ad2 h => ⟨by simp only [h o (by omega)], by simp only [h (o + 143) (by omega)]⟩) ?_
  intro ad33 hA33 hCl33
  refine bf_widen (k2 := (152, 3822)) (Nat.le_of_ble_eq_true rfl) (Nat.le_of_ble_eq_true rfl) ?_
  have hag33 : ∀ i, i < o + 1 → ad33 i = ad0 i := fun i hi => (hA33 i (by omega)).trans (hag31 i hi)
  clear hag31
  clear hCl32
  clear hA33
  refine bf_dup dX11_init_100 rfl ?_
  refine bf_xcall (n2 := o + 154) (d := 1) (mc := 1) (ms := 60) (ν := mu_X8_init) (o := (o + 152)) (As := []) (I2 := (bf_w I o (va_up (fun _ => 0) 2 (0)))) (L2 := L) (R2 := (bf_w (bf_w Rf o (va_up (va_up (va_up (va_up (va_up (va_up (va_up (fun _ => none) 0 (some (o + 1))) 1 (some (o + 39))) 3 (some (o + 77))) 4 (some (o + 102))) 5 (some (o + 110))) 6 (some (o + 124))) 7 (some (o + 143)))) (o + 143) (va_up (va_up (va_up (va_up (fun _ => none) 0 (some (o + 144))) 1 (some (o + 146))) 2 (some (o + 148))) 3 (some (o + 150))))) (lvf := (fun ad => [(1, .int (4)), (0, .ref (ad o))])) (stf := (fun ad => [.ref (ad (o + 152)), .int (4), .ref (ad (o + 143))])) dX11_init_101 rfl rfl wl_X11_59 wm_X8_init wi_X8 wc_X8_init rfl wx_X8_init ⟨(Nat.le_of_ble_eq_true rfl), (Nat.le_of_ble_eq_true rfl)⟩ ⟨(Nat.le_of_ble_eq_true rfl), (Nat.le_of_ble_eq_true rfl)⟩ (Nat.le_of_ble_eq_true rfl) (fun ad2 h => ⟨by simp only [h o (by omega)], by simp only [h (o + 143) (by omega), h (o + 152) (by omega)]⟩) (okx_X8_init (kx_11_152 hk) (fun p h1 h2 => ⟨by rw [bf_w_ne (show p ≠ o by omega)]; exact (hp p (by omega) (by omega)).1, (hp p (by omega) (by omega)).2.1, by rw [bf_w_ne (show p ≠ o + 143 by omega), bf_w_ne (show p ≠ o by omega)]; exact (hp p (by omega) (by omega)).2.2⟩) hCl33) ?_
  intro ad34 hA34 hCl34
  refine bf_widen (k2 := (153, 3882)) (Nat.le_of_ble_eq_true rfl) (Nat.le_of_ble_eq_true rfl) ?_
  have hag34 : ∀ i, i < o + 1 → ad34 i = ad0 i := fun i hi => (hA34 i (by omega)).trans (hag33 i hi)
  clear hag33
  clear hCl33
  clear hA34
  refine bf_xast (a := o + 143) (t := o + 152) (t0 := 5) (cc := 18) (ci := 8) dX11_init_104 (by omega) (by omega) (kx_11_143 hk) (by decide) (kx_11_152 hk) (by decide) rfl rfl (by rw [(lx_11_143 hk)]; decide) ?_
  rw [show (((4) : Int32).toNatClampNeg) = 4 from by decide, bf_u_w]
  have hCl35 : bf_Cl (o + 154) (bf_w (bf_w Rf o (va_up (va_up (va_up (va_up (va_up (va_up (va_up (fun _ => none) 0 (some (o + 1))) 1 (some (o + 39))) 3 (some (o + 77))) 4 (some (o + 102))) 5 (some (o + 110))) 6 (some (o + 124))) 7 (some (o + 143)))) (o + 143) (va_up (va_up (va_up (va_up (va_up (fun _ => none) 0 (some (o + 144))) 1 (some (o + 146))) 2 (some (o + 148))) 3 (some (o + 150))) 4 (some (o + 152)))) := by have h := bf_Cl_u (o := o + 143) (i := 4) (t := o + 152) hCl34 (by omega); rw [bf_u_w] at h; exact h
  clear hCl34
  refine bf_iinc 0 (v := 5) (lv2 := [(1, .int _), (0, .ref _)]) dX11_init_105 rfl (by decide) (by decide) rfl ?_
  refine bf_goto 86 dX11_init_108 (by decide) ?_
  refine bf_iload_n 0 dX11_init_86 rfl rfl ?_
  refine bf_bipush (v := 6) dX11_init_87 (by decide) ?_
  refine bf_icmp_ge 111 dX11_init_89 (by decide) (fun q => absurd q (by decide)) (fun _ => ?_)
  refine bf_aload_n 1 dX11_init_92 rfl rfl ?_
  refine bf_xgetR (i := 7) (t := o + 143) dX11_init_93 wf_X11_55 (by omega) hk (by decide) rfl in_X11 (by decide) (by decide) (by decide) (by rw [bf_w_ne (show o ≠ o + 143 by omega), bf_w_o]; rfl) ?_
  refine bf_iload_n 0 dX11_init_96 rfl rfl ?_
  refine bf_xnew (n := o + 154) (lvf := (fun ad => [(1, .int (5)), (0, .ref (ad o))])) (stf := (fun ad => [.int (5), .ref (ad (o + 143))])) tyX8 dX11_init_97 wq_X11_53 wj_X8 wi_X8 in_X8 tyX8_ok rfl (kx_11_154 hk) (by decide) (by decide) dv_8 (Nat.le_of_ble_eq_true rfl) (Nat.le_of_ble_eq_true rfl) hCl35 (fun ad2 h => ⟨by simp only [h o (by omega)], by simp only [h (o + 143) (by omega)]⟩) ?_
  intro ad36 hA36 hCl36
  refine bf_widen (k2 := (154, 3885)) (Nat.le_of_ble_eq_true rfl) (Nat.le_of_ble_eq_true rfl) ?_
  have hag36 : ∀ i, i < o + 1 → ad36 i = ad0 i := fun i hi => (hA36 i (by omega)).trans (hag34 i hi)
  clear hag34
  clear hCl35
  clear hA36
  refine bf_dup dX11_init_100 rfl ?_
  refine bf_xcall (n2 := o + 156) (d := 1) (mc := 1) (ms := 60) (ν := mu_X8_init) (o := (o + 154)) (As := []) (I2 := (bf_w I o (va_up (fun _ => 0) 2 (0)))) (L2 := L) (R2 := (bf_w (bf_w Rf o (va_up (va_up (va_up (va_up (va_up (va_up (va_up (fun _ => none) 0 (some (o + 1))) 1 (some (o + 39))) 3 (some (o + 77))) 4 (some (o + 102))) 5 (some (o + 110))) 6 (some (o + 124))) 7 (some (o + 143)))) (o + 143) (va_up (va_up (va_up (va_up (va_up (fun _ => none) 0 (some (o + 144))) 1 (some (o + 146))) 2 (some (o + 148))) 3 (some (o + 150))) 4 (some (o + 152))))) (lvf := (fun ad => [(1, .int (5)), (0, .ref (ad o))])) (stf := (fun ad => [.ref (ad (o + 154)), .int (5), .ref (ad (o + 143))])) dX11_init_101 rfl rfl wl_X11_59 wm_X8_init wi_X8 wc_X8_init rfl wx_X8_init ⟨(Nat.le_of_ble_eq_true rfl), (Nat.le_of_ble_eq_true rfl)⟩ ⟨(Nat.le_of_ble_eq_true rfl), (Nat.le_of_ble_eq_true rfl)⟩ (Nat.le_of_ble_eq_true rfl) (fun ad2 h => ⟨by simp only [h o (by omega)], by simp only [h (o + 143) (by omega), h (o + 154) (by omega)]⟩) (okx_X8_init (kx_11_154 hk) (fun p h1 h2 => ⟨by rw [bf_w_ne (show p ≠ o by omega)]; exact (hp p (by omega) (by omega)).1, (hp p (by omega) (by omega)).2.1, by rw [bf_w_ne (show p ≠ o + 143 by omega), bf_w_ne (show p ≠ o by omega)]; exact (hp p (by omega) (by omega)).2.2⟩) hCl36) ?_
  intro ad37 hA37 hCl37
  refine bf_widen (k2 := (155, 3945)) (Nat.le_of_ble_eq_true rfl) (Nat.le_of_ble_eq_true rfl) ?_
  have hag37 : ∀ i, i < o + 1 → ad37 i = ad0 i := fun i hi => (hA37 i (by omega)).trans (hag36 i hi)
  clear hag36
  clear hCl36
  clear hA37
  refine bf_xast (a := o + 143) (t := o + 154) (t0 := 5) (cc := 18) (ci := 8) dX11_init_104 (by omega) (by omega) (kx_11_143 hk) (by decide) (kx_11_154 hk) (by decide) rfl rfl (by rw [(lx_11_143 hk)]; decide) ?_
  rw [show (((5) : Int32).toNatClampNeg) = 5 from by decide, bf_u_w]
  have hCl38 : bf_Cl (o + 156) (bf_w (bf_w Rf o (va_up (va_up (va_up (va_up (va_up (va_up (va_up (fun _ => none) 0 (some (o + 1))) 1 (some (o + 39))) 3 (some (o + 77))) 4 (some (o + 102))) 5 (some (o + 110))) 6 (some (o + 124))) 7 (some (o + 143)))) (o + 143) (va_up (va_up (va_up (va_up (va_up (va_up (fun _ => none) 0 (some (o + 144))) 1 (some (o + 146))) 2 (some (o + 148))) 3 (some (o + 150))) 4 (some (o + 152))) 5 (some (o + 154)))) := by have h := bf_Cl_u (o := o + 143) (i := 5) (t := o + 154) hCl37 (by omega); rw [bf_u_w] at h; exact h
  clear hCl37
  refine bf_iinc 0 (v := 6) (lv2 := [(1, .int _), (0, .ref _)]) dX11_init_105 rfl (by decide) (by decide) rfl ?_
  refine bf_goto 86 dX11_init_108 (by decide) ?_
  refine bf_iload_n 0 dX11_init_86 rfl rfl ?_
  refine bf_bipush (v := 6) dX11_init_87 (by decide) ?_
  refine bf_icmp_ge 111 dX11_init_89 (by decide) (fun _ => ?_) (fun q => absurd q (by decide))
  have eA143 : bf_w (bf_w Rf o (va_up (va_up (va_up (va_up (va_up (va_up (va_up (fun _ => none) 0 (some (o + 1))) 1 (some (o + 39))) 3 (some (o + 77))) 4 (some (o + 102))) 5 (some (o + 110))) 6 (some (o + 124))) 7 (some (o + 143)))) (o + 143) (va_up (va_up (va_up (va_up (va_up (va_up (fun _ => none) 0 (some (o + 144))) 1 (some (o + 146))) 2 (some (o + 148))) 3 (some (o + 150))) 4 (some (o + 152))) 5 (some (o + 154))) = bf_w Rf o (va_up (va_up (va_up (va_up (va_up (va_up (va_up (fun _ => none) 0 (some (o + 1))) 1 (some (o + 39))) 3 (some (o + 77))) 4 (some (o + 102))) 5 (some (o + 110))) 6 (some (o + 124))) 7 (some (o + 143))) := bf_wS (by rw [bf_w_ne (show o + 143 ≠ o by omega), (hp (o + 143) (by omega) (by omega)).2.2]; exact rq_11_143 hk)
  rw [eA143] at hCl38 ⊢
  have eI : bf_w I o (va_up (fun _ => 0) 2 (0)) = I := bf_wS (by rw [(hp o (by omega) (by omega)).1]; exact ri_11 hk)
  have eR : bf_w Rf o (va_up (va_up (va_up (va_up (va_up (va_up (va_up (fun _ => none) 0 (some (o + 1))) 1 (some (o + 39))) 3 (some (o + 77))) 4 (some (o + 102))) 5 (some (o + 110))) 6 (some (o + 124))) 7 (some (o + 143))) = Rf := bf_wS (by rw [(hp o (by omega) (by omega)).2.2]; exact rr_11 hk)
  rw [eI, eR]
  rw [eR] at hCl38
  exact bf_vret dX11_init_111 rfl (Nat.le_of_ble_eq_true rfl) (Nat.le_of_ble_eq_true rfl) ⟨rfl, _, hag37, rfl, hCl38⟩
set_option maxRecDepth 100000 in
set_option maxHeartbeats 40000000 in
theorem okx_X12_init {Γ : bf_Gm} {o : Nat} {ad0 : Nat → Nat} {I : Nat → Nat → Int32} {L : Nat → Nat → Int64} {Rf : Nat → Nat → Option Nat} (hk : bf_kd o = 12) (hp : bf_Fu o 17 I L Rf) (hCl : bf_Cl (o + 1) (bf_w Rf o (fun _ => none))) : bf_Cn Γ 1 mu_X12_init 16 5234 [.ref (ad0 o)] (o + 1, ad0, bf_w I o (fun _ => 0), L, bf_w Rf o (fun _ => none)) (bf_Qx (o + 1) ad0 (o + 17) I L Rf) := by
  refine bf_met rfl (Nat.le_of_ble_eq_true rfl) ?_
  have hag : ∀ i, i < o + 1 → ad0 i = ad0 i := fun _ _ => rfl
  refine bf_aload_n 0 dX12_init_0 rfl rfl ?_
  refine bf_xobj dX12_init_1 wl_X12_3 wm_Jobj wc_Jobj (Nat.le_of_ble_eq_true rfl) (Nat.le_of_ble_eq_true rfl) ?_
  refine bf_aload_n 0 dX12_init_4 rfl rfl ?_
  refine bf_sipush (v := 914) dX12_init_5 (by decide) ?_
  refine bf_xnewI (n := o + 1) (lvf := (fun ad => [(0, .ref (ad o))])) (stf := (fun ad => [.ref (ad o)])) (N := 914) dX12_init_8 wy_int (by decide) (by decide) (by decide) (kx_12_1 hk) (lx_12_1 hk) (by rw [bf_w_ne (show o + 1 ≠ o by omega), (hp (o + 1) (by omega) (by omega)).1]; exact bf_I0_z (by rw [(kx_12_1 hk)]; decide) (nx_12_1 hk)) (fun j => by rw [bf_w_ne (show o + 1 ≠ o by omega), (hp (o + 1) (by omega) (by omega)).2.2]; exact bf_R0_z (by rw [(kx_12_1 hk)]; decide) (by rw [(kx_12_1 hk)]; decide)) (Nat.le_of_ble_eq_true rfl) (Nat.le_of_ble_eq_true rfl) hCl (fun ad2 h => ⟨by simp only [h o (by omega)], by simp only [h o (by omega)]⟩) ?_
  intro ad1 hA1 hCl1
  refine bf_widen (k2 := (1, 914)) (Nat.le_of_ble_eq_true rfl) (Nat.le_of_ble_eq_true rfl) ?_
  have hag1 : ∀ i, i < o + 1 → ad1 i = ad0 i := fun i hi => (hA1 i (by omega)).trans (hag i hi)
  clear hA1
  refine bf_xputR (i := 0) (ty := tyX12 0) (t := o + 1) tyX12 dX12_init_10 wf_X12_11 (by omega) hk (by decide) rfl in_X12 tyX12_ok nmX12 (by decide) (by decide) (by decide) rfl rfl rfl (by decide +kernel) (fun _ => rfl) (fun _ => rfl) ?_
  rw [bf_u_w]
  have hCl2 : bf_Cl (o + 2) (bf_w Rf o (va_up (fun _ => none) 0 (some (o + 1)))) := by have h := bf_Cl_u (o := o) (i := 0) (t := o + 1) hCl1 (by omega); rw [bf_u_w] at h; exact h
  clear hCl1
  refine bf_aload_n 0 dX12_init_13 rfl rfl ?_
  refine bf_sipush (v := 914) dX12_init_14 (by decide) ?_
  refine bf_xnewI (n := o + 2) (lvf := (fun ad => [(0, .ref (ad o))])) (stf := (fun ad => [.ref (ad o)])) (N := 914) dX12_init_17 wy_int (by decide) (by decide) (by decide) (kx_12_2 hk) (lx_12_2 hk) (by rw [bf_w_ne (show o + 2 ≠ o by omega), (hp (o + 2) (by omega) (by omega)).1]; exact bf_I0_z (by rw [(kx_12_2 hk)]; decide) (nx_12_2 hk)) (fun j => by rw [bf_w_ne (show o + 2 ≠ o by omega), (hp (o + 2) (by omega) (by omega)).2.2]; exact bf_R0_z (by rw [(kx_12_2 hk)]; decide) (by rw [(kx_12_2 hk)]; decide)) (Nat.le_of_ble_eq_true rfl) (Nat.le_of_ble_eq_true rfl) hCl2 (fun ad2 h => ⟨by simp only [h o (by omega)], by simp only [h o (by omega)]⟩) ?_
  intro ad3 hA3 hCl3
  refine bf_widen (k2 := (2, 1828)) (Nat.le_of_ble_eq_true rfl) (Nat.le_of_ble_eq_true rfl) ?_
  have hag3 : ∀ i, i < o + 1 → ad3 i = ad0 i := fun i hi => (hA3 i (by omega)).trans (hag1 i hi)
  clear hag1
  clear hCl2
  clear hA3
  refine bf_xputR (i := 1) (ty := tyX12 1) (t := o + 2) tyX12 dX12_init_19 wf_X12_15 (by omega) hk (by decide) rfl in_X12 tyX12_ok nmX12 (by decide) (by decide) (by decide) rfl rfl rfl (by decide +kernel) (fun _ => rfl) (fun _ => rfl) ?_
  rw [bf_u_w]
  have hCl4 : bf_Cl (o + 3) (bf_w Rf o (va_up (va_up (fun _ => none) 0 (some (o + 1))) 1 (some (o + 2)))) := by have h := bf_Cl_u (o := o) (i := 1) (t := o + 2) hCl3 (by omega); rw [bf_u_w] at h; exact h
  clear hCl3
  refine bf_aload_n 0 dX12_init_22 rfl rfl ?_
  refine bf_sipush (v := 914) dX12_init_23 (by decide) ?_
  refine bf_xnewI (n := o + 3) (lvf := (fun ad => [(0, .ref (ad o))])) (stf := (fun ad => [.ref (ad o)])) (N := 914) dX12_init_26 wy_int (by decide) (by decide) (by decide) (kx_12_3 hk) (lx_12_3 hk) (by rw [bf_w_ne (show o + 3 ≠ o by omega), (hp (o + 3) (by omega) (by omega)).1]; exact bf_I0_z (by rw [(kx_12_3 hk)]; decide) (nx_12_3 hk)) (fun j => by rw [bf_w_ne (show o + 3 ≠ o by omega), (hp (o + 3) (by omega) (by omega)).2.2]; exact bf_R0_z (by rw [(kx_12_3 hk)]; decide) (by rw [(kx_12_3 hk)]; decide)) (Nat.le_of_ble_eq_true rfl) (Nat.le_of_ble_eq_true rfl) hCl4 (fun ad2 h => ⟨by simp only [h o (by omega)], by simp only [h o (by omega)]⟩) ?_
  intro ad5 hA5 hCl5
  refine bf_widen (k2 := (3, 2742)) (Nat.le_of_ble_eq_true rfl) (Nat.le_of_ble_eq_true rfl) ?_
  have hag5 : ∀ i, i < o + 1 → ad5 i = ad0 i := fun i hi => (hA5 i (by omega)).trans (hag3 i hi)
  clear hag3
  clear hCl4
  clear hA5
  refine bf_xputR (i := 2) (ty := tyX12 2) (t := o + 3) tyX12 dX12_init_28 wf_X12_18 (by omega) hk (by decide) rfl in_X12 tyX12_ok nmX12 (by decide) (by decide) (by decide) rfl rfl rfl (by decide +kernel) (fun _ => rfl) (fun _ => rfl) ?_
  rw [bf_u_w]
  have hCl6 : bf_Cl (o + 4) (bf_w Rf o (va_up (va_up (va_up (fun _ => none) 0 (some (o + 1))) 1 (some (o + 2))) 2 (some (o + 3)))) := by have h := bf_Cl_u (o := o) (i := 2) (t := o + 3) hCl5 (by omega); rw [bf_u_w] at h; exact h
  clear hCl5
  refine bf_aload_n 0 dX12_init_31 rfl rfl ?_
  refine bf_bipush (v := 100) dX12_init_32 (by decide) ?_
  refine bf_xnewI (n := o + 4) (lvf := (fun ad => [(0, .ref (ad o))])) (stf := (fun ad => [.ref (ad o)])) (N := 100) dX12_init_34 wy_int (by decide) (by decide) (by decide) (kx_12_4 hk) (lx_12_4 hk) (by rw [bf_w_ne (show o + 4 ≠ o by omega), (hp (o + 4) (by omega) (by omega)).1]; exact bf_I0_z (by rw [(kx_12_4 hk)]; decide) (nx_12_4 hk)) (fun j => by rw [bf_w_ne (show o + 4 ≠ o by omega), (hp (o + 4) (by omega) (by omega)).2.2]; exact bf_R0_z (by rw [(kx_12_4 hk)]; decide) (by rw [(kx_12_4 hk)]; decide)) (Nat.le_of_ble_eq_true rfl) (Nat.le_of_ble_eq_true rfl) hCl6 (fun ad2 h => ⟨by simp only [h o (by omega)], by simp only [h o (by omega)]⟩) ?_
  intro ad7 hA7 hCl7
  refine bf_widen (k2 := (4, 2842)) (Nat.le_of_ble_eq_true rfl) (Nat.le_of_ble_eq_true rfl) ?_
  have hag7 : ∀ i, i < o + 1 → ad7 i = ad0 i := fun i hi => (hA7 i (by omega)).trans (hag5 i hi)
  clear hag5
  clear hCl6
  clear hA7
  refine bf_xputR (i := 4) (ty := tyX12 4) (t := o + 4) tyX12 dX12_init_36 wf_X12_21 (by omega) hk (by decide) rfl in_X12 tyX12_ok nmX12 (by decide) (by decide) (by decide) rfl rfl rfl (by decide +kernel) (fun _ => rfl) (fun _ => rfl) ?_
  rw [bf_u_w]
  have hCl8 : bf_Cl (o + 5) (bf_w Rf o (va_up (va_up (va_up (va_up (fun _ => none) 0 (some (o + 1))) 1 (some (o + 2))) 2 (some (o + 3))) 4 (some (o + 4)))) := by have h := bf_Cl_u (o := o) (i := 4) (t := o + 4) hCl7 (by omega); rw [bf_u_w] at h; exact h
  clear hCl7
  refine bf_aload_n 0 dX12_init_39 rfl rfl ?_
  refine bf_bipush (v := 88) dX12_init_40 (by decide) ?_
  refine bf_xnewI (n := o + 5) (lvf := (fun ad => [(0, .ref (ad o))])) (stf := (fun ad => [.ref (ad o)])) (N := 88) dX12_init_42 wy_int (by decide) (by decide) (by decide) (kx_12_5 hk) (lx_12_5 hk) (by rw [bf_w_ne (show o + 5 ≠ o by omega), (hp (o + 5) (by omega) (by omega)).1]; exact bf_I0_z (by rw [(kx_12_5 hk)]; decide) (nx_12_5 hk)) (fun j => by rw [bf_w_ne (show o + 5 ≠ o by omega), (hp (o + 5) (by omega) (by omega)).2.2]; exact bf_R0_z (by rw [(kx_12_5 hk)]; decide) (by rw [(kx_12_5 hk)]; decide)) (Nat.le_of_ble_eq_true rfl) (Nat.le_of_ble_eq_true rfl) hCl8 (fun ad2 h => ⟨by simp only [h o (by omega)], by simp only [h o (by omega)]⟩) ?_
  intro ad9 hA9 hCl9
  refine bf_widen (k2 := (5, 2930)) (Nat.le_of_ble_eq_true rfl) (Nat.le_of_ble_eq_true rfl) ?_
  have hag9 : ∀ i, i < o + 1 → ad9 i = ad0 i := fun i hi => (hA9 i (by omega)).trans (hag7 i hi)
  clear hag7
  clear hCl8
  clear hA9
  refine bf_xputR (i := 7) (ty := tyX12 7) (t := o + 5) tyX12 dX12_init_44 wf_X12_24 (by omega) hk (by decide) rfl in_X12 tyX12_ok nmX12 (by decide) (by decide) (by decide) rfl rfl rfl (by decide +kernel) (fun _ => rfl) (fun _ => rfl) ?_
  rw [bf_u_w]
  have hCl10 : bf_Cl (o + 6) (bf_w Rf o (va_up (va_up (va_up (va_up (va_up (fun _ => none) 0 (some (o + 1))) 1 (some (o + 2))) 2 (some (o + 3))) 4 (some (o + 4))) 7 (some (o + 5)))) := by have h := bf_Cl_u (o := o) (i := 7) (t := o + 5) hCl9 (by omega); rw [bf_u_w] at h; exact h
  clear hCl9
  refine bf_aload_n 0 dX12_init_47 rfl rfl ?_
  refine bf_bipush (v := 6) dX12_init_48 (by decide) ?_
  refine bf_xnewJ (n := o + 6) (lvf := (fun ad => [(0, .ref (ad o))])) (stf := (fun ad => [.ref (ad o)])) (N := 6) dX12_init_50 wy_long (by decide) (by decide) (by decide) (kx_12_6 hk) (lx_12_6 hk) (hp (o + 6) (by omega) (by omega)).2.1 (fun j => by rw [bf_w_ne (show o + 6 ≠ o by omega), (hp (o + 6) (by omega) (by omega)).2.2]; exact bf_R0_z (by rw [(kx_12_6 hk)]; decide) (by rw [(kx_12_6 hk)]; decide)) (Nat.le_of_ble_eq_true rfl) (Nat.le_of_ble_eq_true rfl) hCl10 (fun ad2 h => ⟨by simp only [h o (by omega)], by simp only [h o (by omega)]⟩) ?_
  intro ad11 hA11 hCl11
  refine bf_widen (k2 := (6, 2936)) (Nat.le_of_ble_eq_true rfl) (Nat.le_of_ble_eq_true rfl) ?_
  have hag11 : ∀ i, i < o + 1 → ad11 i = ad0 i := fun i hi => (hA11 i (by omega)).trans (hag9 i hi)
  clear hag9
  clear hCl10
  clear hA11
  refine bf_xputR (i := 14) (ty := tyX12 14) (t := o + 6) tyX12 dX12_init_52 wf_X12_27 (by omega) hk (by decide) rfl in_X12 tyX12_ok nmX12 (by decide) (by decide) (by decide) rfl rfl rfl (by decide +kernel) (fun _ => rfl) (fun _ => rfl) ?_
  rw [bf_u_w]
  have hCl12 : bf_Cl (o + 7) (bf_w Rf o (va_up (va_up (va_up (va_up (va_up (va_up (fun _ => none) 0 (some (o + 1))) 1 (some (o + 2))) 2 (some (o + 3))) 4 (some (o + 4))) 7 (some (o + 5))) 14 (some (o + 6)))) := by have h := bf_Cl_u (o := o) (i := 14) (t := o + 6) hCl11 (by omega); rw [bf_u_w] at h; exact h
  clear hCl11
  refine bf_aload_n 0 dX12_init_55 rfl rfl ?_
  refine bf_bipush (v := 6) dX12_init_56 (by decide) ?_
  refine bf_xnewJ (n := o + 7) (lvf := (fun ad => [(0, .ref (ad o))])) (stf := (fun ad => [.ref (ad o)])) (N := 6) dX12_init_58 wy_long (by decide) (by decide) (by decide) (kx_12_7 hk) (lx_12_7 hk) (hp (o + 7) (by omega) (by omega)).2.1 (fun j => by rw [bf_w_ne (show o + 7 ≠ o by omega), (hp (o + 7) (by omega) (by omega)).2.2]; exact bf_R0_z (by rw [(kx_12_7 hk)]; decide) (by rw [(kx_12_7 hk)]; decide)) (Nat.le_of_ble_eq_true rfl) (Nat.le_of_ble_eq_true rfl) hCl12 (fun ad2 h => ⟨by simp only [h o (by omega)], by simp only [h o (by omega)]⟩) ?_
  intro ad13 hA13 hCl13
  refine bf_widen (k2 := (7, 2942)) (Nat.le_of_ble_eq_true rfl) (Nat.le_of_ble_eq_true rfl) ?_
  have hag13 : ∀ i, i < o + 1 → ad13 i = ad0 i := fun i hi => (hA13 i (by omega)).trans (hag11 i hi)
  clear hag11
  clear hCl12
  clear hA13
  refine bf_xputR (i := 15) (ty := tyX12 15) (t := o + 7) tyX12 dX12_init_60 wf_X12_31 (by omega) hk (by decide) rfl in_X12 tyX12_ok nmX12 (by decide) (by decide) (by decide) rfl rfl rfl (by decide +kernel) (fun _ => rfl) (fun _ => rfl) ?_
  rw [bf_u_w]
  have hCl14 : bf_Cl (o + 8) (bf_w Rf o (va_up (va_up (va_up (va_up (va_up (va_up (va_up (fun _ => none) 0 (some (o + 1))) 1 (some (o + 2))) 2 (some (o + 3))) 4 (some (o + 4))) 7 (some (o + 5))) 14 (some (o + 6))) 15 (some (o + 7)))) := by have h := bf_Cl_u (o := o) (i := 15) (t := o + 7) hCl13 (by omega); rw [bf_u_w] at h; exact h
  clear hCl13
  refine bf_aload_n 0 dX12_init_63 rfl rfl ?_
  refine bf_bipush (v := 6) dX12_init_64 (by decide) ?_
  refine bf_xnewI (n := o + 8) (lvf := (fun ad => [(0, .ref (ad o))])) (stf := (fun ad => [.ref (ad o)])) (N := 6) dX12_init_66 wy_int (by decide) (by decide) (by decide) (kx_12_8 hk) (lx_12_8 hk) (by rw [bf_w_ne (show o + 8 ≠ o by omega), (hp (o + 8) (by omega) (by omega)).1]; exact bf_I0_z (by rw [(kx_12_8 hk)]; decide) (nx_12_8 hk)) (fun j => by rw [bf_w_ne (show o + 8 ≠ o by omega), (hp (o + 8) (by omega) (by omega)).2.2]; exact bf_R0_z (by rw [(kx_12_8 hk)]; decide) (by rw [(kx_12_8 hk)]; decide)) (Nat.le_of_ble_eq_true rfl) (Nat.le_of_ble_eq_true rfl) hCl14 (fun ad2 h => ⟨by simp only [h o (by omega)], by simp only [h o (by omega)]⟩) ?_
  intro ad15 hA15 hCl15
  refine bf_widen (k2 := (8, 2948)) (Nat.le_of_ble_eq_true rfl) (Nat.le_of_ble_eq_true rfl) ?_
  have hag15 : ∀ i, i < o + 1 → ad15 i = ad0 i := fun i hi => (hA15 i (by omega)).trans (hag13 i hi)
  clear hag13
  clear hCl14
  clear hA15
  refine bf_xputR (i := 16) (ty := tyX12 16) (t := o + 8) tyX12 dX12_init_68 wf_X12_34 (by omega) hk (by decide) rfl in_X12 tyX12_ok nmX12 (by decide) (by decide) (by decide) rfl rfl rfl (by decide +kernel) (fun _ => rfl) (fun _ => rfl) ?_
  rw [bf_u_w]
  have hCl16 : bf_Cl (o + 9) (bf_w Rf o (va_up (va_up (va_up (va_up (va_up (va_up (va_up (va_up (fun _ => none) 0 (some (o + 1))) 1 (some (o + 2))) 2 (some (o + 3))) 4 (some (o + 4))) 7 (some (o + 5))) 14 (some (o + 6))) 15 (some (o + 7))) 16 (some (o + 8)))) := by have h := bf_Cl_u (o := o) (i := 16) (t := o + 8) hCl15 (by omega); rw [bf_u_w] at h; exact h
  clear hCl15
  refine bf_aload_n 0 dX12_init_71 rfl rfl ?_
  refine bf_bipush (v := 6) dX12_init_72 (by decide) ?_
  refine bf_xnewI (n := o + 9) (lvf := (fun ad => [(0, .ref (ad o))])) (stf := (fun ad => [.ref (ad o)])) (N := 6) dX12_init_74 wy_int (by decide) (by decide) (by decide) (kx_12_9 hk) (lx_12_9 hk) (by rw [bf_w_ne (show o + 9 ≠ o by omega), (hp (o + 9) (by omega) (by omega)).1]; exact bf_I0_z (by rw [(kx_12_9 hk)]; decide) (nx_12_9 hk)) (fun j => by rw [bf_w_ne (show o + 9 ≠ o by omega), (hp (o + 9) (by omega) (by omega)).2.2]; exact bf_R0_z (by rw [(kx_12_9 hk)]; decide) (by rw [(kx_12_9 hk)]; decide)) (Nat.le_of_ble_eq_true rfl) (Nat.le_of_ble_eq_true rfl) hCl16 (fun ad2 h => ⟨by simp only [h o (by omega)], by simp only [h o (by omega)]⟩) ?_
  intro ad17 hA17 hCl17
  refine bf_widen (k2 := (9, 2954)) (Nat.le_of_ble_eq_true rfl) (Nat.le_of_ble_eq_true rfl) ?_
  have hag17 : ∀ i, i < o + 1 → ad17 i = ad0 i := fun i hi => (hA17 i (by omega)).trans (hag15 i hi)
  clear hag15
  clear hCl16
  clear hA17
  refine bf_xputR (i := 17) (ty := tyX12 17) (t := o + 9) tyX12 dX12_init_76 wf_X12_37 (by omega) hk (by decide) rfl in_X12 tyX12_ok nmX12 (by decide) (by decide) (by decide) rfl rfl rfl (by decide +kernel) (fun _ => rfl) (fun _ => rfl) ?_
  rw [bf_u_w]
  have hCl18 : bf_Cl (o + 10) (bf_w Rf o (va_up (va_up (va_up (va_up (va_up (va_up (va_up (va_up (va_up (fun _ => none) 0 (some (o + 1))) 1 (some (o + 2))) 2 (some (o + 3))) 4 (some (o + 4))) 7 (some (o + 5))) 14 (some (o + 6))) 15 (some (o + 7))) 16 (some (o + 8))) 17 (some (o + 9)))) := by have h := bf_Cl_u (o := o) (i := 17) (t := o + 9) hCl17 (by omega); rw [bf_u_w] at h; exact h
  clear hCl17
  refine bf_aload_n 0 dX12_init_79 rfl rfl ?_
  refine bf_bipush (v := 8) dX12_init_80 (by decide) ?_
  refine bf_xnewI (n := o + 10) (lvf := (fun ad => [(0, .ref (ad o))])) (stf := (fun ad => [.ref (ad o)])) (N := 8) dX12_init_82 wy_int (by decide) (by decide) (by decide) (kx_12_10 hk) (lx_12_10 hk) (by rw [bf_w_ne (show o + 10 ≠ o by omega), (hp (o + 10) (by omega) (by omega)).1]; exact bf_I0_z (by rw [(kx_12_10 hk)]; decide) (nx_12_10 hk)) (fun j => by rw [bf_w_ne (show o + 10 ≠ o by omega), (hp (o + 10) (by omega) (by omega)).2.2]; exact bf_R0_z (by rw [(kx_12_10 hk)]; decide) (by rw [(kx_12_10 hk)]; decide)) (Nat.le_of_ble_eq_true rfl) (Nat.le_of_ble_eq_true rfl) hCl18 (fun ad2 h => ⟨by simp only [h o (by omega)], by simp only [h o (by omega)]⟩) ?_
  intro ad19 hA19 hCl19
  refine bf_widen (k2 := (10, 2962)) (Nat.le_of_ble_eq_true rfl) (Nat.le_of_ble_eq_true rfl) ?_
  have hag19 : ∀ i, i < o + 1 → ad19 i = ad0 i := fun i hi => (hA19 i (by omega)).trans (hag17 i hi)
  clear hag17
  clear hCl18
  clear hA19
  refine bf_xputR (i := 18) (ty := tyX12 18) (t := o + 10) tyX12 dX12_init_84 wf_X12_40 (by omega) hk (by decide) rfl in_X12 tyX12_ok nmX12 (by decide) (by decide) (by decide) rfl rfl rfl (by decide +kernel) (fun _ => rfl) (fun _ => rfl) ?_
  rw [bf_u_w]
  have hCl20 : bf_Cl (o + 11) (bf_w Rf o (va_up (va_up (va_up (va_up (va_up (va_up (va_up (va_up (va_up (va_up (fun _ => none) 0 (some (o + 1))) 1 (some (o + 2))) 2 (some (o + 3))) 4 (some (o + 4))) 7 (some (o + 5))) 14 (some (o + 6))) 15 (some (o + 7))) 16 (some (o + 8))) 17 (some (o + 9))) 18 (some (o + 10)))) := by have h := bf_Cl_u (o := o) (i := 18) (t := o + 10) hCl19 (by omega); rw [bf_u_w] at h; exact h
  clear hCl19
  refine bf_aload_n 0 dX12_init_87 rfl rfl ?_
  refine bf_sipush (v := 914) dX12_init_88 (by decide) ?_
  refine bf_xnewI (n := o + 11) (lvf := (fun ad => [(0, .ref (ad o))])) (stf := (fun ad => [.ref (ad o)])) (N := 914) dX12_init_91 wy_int (by decide) (by decide) (by decide) (kx_12_11 hk) (lx_12_11 hk) (by rw [bf_w_ne (show o + 11 ≠ o by omega), (hp (o + 11) (by omega) (by omega)).1]; exact bf_I0_z (by rw [(kx_12_11 hk)]; decide) (nx_12_11 hk)) (fun j => by rw [bf_w_ne (show o + 11 ≠ o by omega), (hp (o + 11) (by omega) (by omega)).2.2]; exact bf_R0_z (by rw [(kx_12_11 hk)]; decide) (by rw [(kx_12_11 hk)]; decide)) (Nat.le_of_ble_eq_true rfl) (Nat.le_of_ble_eq_true rfl) hCl20 (fun ad2 h => ⟨by simp only [h o (by omega)], by simp only [h o (by omega)]⟩) ?_
  intro ad21 hA21 hCl21
  refine bf_widen (k2 := (11, 3876)) (Nat.le_of_ble_eq_true rfl) (Nat.le_of_ble_eq_true rfl) ?_
  have hag21 : ∀ i, i < o + 1 → ad21 i = ad0 i := fun i hi => (hA21 i (by omega)).trans (hag19 i hi)
  clear hag19
  clear hCl20
  clear hA21
  refine bf_xputR (i := 21) (ty := tyX12 21) (t := o + 11) tyX12 dX12_init_93 wf_X12_43 (by omega) hk (by decide) rfl in_X12 tyX12_ok nmX12 (by decide) (by decide) (by decide) rfl rfl rfl (by decide +kernel) (fun _ => rfl) (fun _ => rfl) ?_
  rw [bf_u_w]
  have hCl22 : bf_Cl (o + 12) (bf_w Rf o (va_up (va_up (va_up (va_up (va_up (va_up (va_up (va_up (va_up (va_up (va_up (fun _ => none) 0 (some (o + 1))) 1 (some (o + 2))) 2 (some (o + 3))) 4 (some (o + 4))) 7 (some (o + 5))) 14 (some (o + 6))) 15 (some (o + 7))) 16 (some (o + 8))) 17 (some (o + 9))) 18 (some (o + 10))) 21 (some (o + 11)))) := by have h := bf_Cl_u (o := o) (i := 21) (t := o + 11) hCl21 (by omega); rw [bf_u_w] at h; exact h
  clear hCl21
  refine bf_aload_n 0 dX12_init_96 rfl rfl ?_
  refine bf_bipush (v := 72) dX12_init_97 (by decide) ?_
  refine bf_xnewI (n := o + 12) (lvf := (fun ad => [(0, .ref (ad o))])) (stf := (fun ad => [.ref (ad o)])) (N := 72) dX12_init_99 wy_int (by decide) (by decide) (by decide) (kx_12_12 hk) (lx_12_12 hk) (by rw [bf_w_ne (show o + 12 ≠ o by omega), (hp (o + 12) (by omega) (by omega)).1]; exact bf_I0_z (by rw [(kx_12_12 hk)]; decide) (nx_12_12 hk)) (fun j => by rw [bf_w_ne (show o + 12 ≠ o by omega), (hp (o + 12) (by omega) (by omega)).2.2]; exact bf_R0_z (by rw [(kx_12_12 hk)]; decide) (by rw [(kx_12_12 hk)]; decide)) (Nat.le_of_ble_eq_true rfl) (Nat.le_of_ble_eq_true rfl) hCl22 (fun ad2 h => ⟨by simp only [h o (by omega)], by simp only [h o (by omega)]⟩) ?_
  intro ad23 hA23 hCl23
  refine bf_widen (k2 := (12, 3948)) (Nat.le_of_ble_eq_true rfl) (Nat.le_of_ble_eq_true rfl) ?_
  have hag23 : ∀ i, i < o + 1 → ad23 i = ad0 i := fun i hi => (hA23 i (by omega)).trans (hag21 i hi)
  clear hag21
  clear hCl22
  clear hA23
  refine bf_xputR (i := 22) (ty := tyX12 22) (t := o + 12) tyX12 dX12_init_101 wf_X12_46 (by omega) hk (by decide) rfl in_X12 tyX12_ok nmX12 (by decide) (by decide) (by decide) rfl rfl rfl (by decide +kernel) (fun _ => rfl) (fun _ => rfl) ?_
  rw [bf_u_w]
  have hCl24 : bf_Cl (o + 13) (bf_w Rf o (va_up (va_up (va_up (va_up (va_up (va_up (va_up (va_up (va_up (va_up (va_up (va_up (fun _ => none) 0 (some (o + 1))) 1 (some (o + 2))) 2 (some (o + 3))) 4 (some (o + 4))) 7 (some (o + 5))) 14 (some (o + 6))) 15 (some (o + 7))) 16 (some (o + 8))) 17 (some (o + 9))) 18 (some (o + 10))) 21 (some (o + 11))) 22 (some (o + 12)))) := by have h := bf_Cl_u (o := o) (i := 22) (t := o + 12) hCl23 (by omega); rw [bf_u_w] at h; exact h
  clear hCl23
  refine bf_aload_n 0 dX12_init_104 rfl rfl ?_
  refine bf_sipush (v := 914) dX12_init_105 (by decide) ?_
  refine bf_xnewI (n := o + 13) (lvf := (fun ad => [(0, .ref (ad o))])) (stf := (fun ad => [.ref (ad o)])) (N := 914) dX12_init_108 wy_int (by decide) (by decide) (by decide) (kx_12_13 hk) (lx_12_13 hk) (by rw [bf_w_ne (show o + 13 ≠ o by omega), (hp (o + 13) (by omega) (by omega)).1]; exact bf_I0_z (by rw [(kx_12_13 hk)]; decide) (nx_12_13 hk)) (fun j => by rw [bf_w_ne (show o + 13 ≠ o by omega), (hp (o + 13) (by omega) (by omega)).2.2]; exact bf_R0_z (by rw [(kx_12_13 hk)]; decide) (by rw [(kx_12_13 hk)]; decide)) (Nat.le_of_ble_eq_true rfl) (Nat.le_of_ble_eq_true rfl) hCl24 (fun ad2 h => ⟨by simp only [h o (by omega)], by simp only [h o (by omega)]⟩) ?_
  intro ad25 hA25 hCl25
  refine bf_widen (k2 := (13, 4862)) (Nat.le_of_ble_eq_true rfl) (Nat.le_of_ble_eq_true rfl) ?_
  have hag25 : ∀ i, i < o + 1 → ad25 i = ad0 i := fun i hi => (hA25 i (by omega)).trans (hag23 i hi)
  clear hag23
  clear hCl24
  clear hA25
  refine bf_xputR (i := 24) (ty := tyX12 24) (t := o + 13) tyX12 dX12_init_110 wf_X12_49 (by omega) hk (by decide) rfl in_X12 tyX12_ok nmX12 (by decide) (by decide) (by decide) rfl rfl rfl (by decide +kernel) (fun _ => rfl) (fun _ => rfl) ?_
  rw [bf_u_w]
  have hCl26 : bf_Cl (o + 14) (bf_w Rf o (va_up (va_up (va_up (va_up (va_up (va_up (va_up (va_up (va_up (va_up (va_up (va_up (va_up (fun _ => none) 0 (some (o + 1))) 1 (some (o + 2))) 2 (some (o + 3))) 4 (some (o + 4))) 7 (some (o + 5))) 14 (some (o + 6))) 15 (some (o + 7))) 16 (some (o + 8))) 17 (some (o + 9))) 18 (some (o + 10))) 21 (some (o + 11))) 22 (some (o + 12))) 24 (some (o + 13)))) := by have h := bf_Cl_u (o := o) (i := 24) (t := o + 13) hCl25 (by omega); rw [bf_u_w] at h; exact h
  clear hCl25
  refine bf_aload_n 0 dX12_init_113 rfl rfl ?_
  refine bf_bipush (v := 6) dX12_init_114 (by decide) ?_
  refine bf_same (I2 := bf_w (bf_w I o (fun _ => 0)) (o + 14) (fun _ => 0)) (fun p h => bf_w_ne (by omega)) (fun _ _ => rfl) (fun _ _ => rfl) ?_
  refine bf_xnewI (n := o + 14) (lvf := (fun ad => [(0, .ref (ad o))])) (stf := (fun ad => [.ref (ad o)])) (N := 6) dX12_init_116 wy_int (by decide) (by decide) (by decide) (kx_12_14 hk) (lx_12_14 hk) bf_w_o (fun j => by rw [bf_w_ne (show o + 14 ≠ o by omega), (hp (o + 14) (by omega) (by omega)).2.2]; exact bf_R0_z (by rw [(kx_12_14 hk)]; decide) (by rw [(kx_12_14 hk)]; decide)) (Nat.le_of_ble_eq_true rfl) (Nat.le_of_ble_eq_true rfl) hCl26 (fun ad2 h => ⟨by simp only [h o (by omega)], by simp only [h o (by omega)]⟩) ?_
  intro ad27 hA27 hCl27
  refine bf_widen (k2 := (14, 4868)) (Nat.le_of_ble_eq_true rfl) (Nat.le_of_ble_eq_true rfl) ?_
  have hag27 : ∀ i, i < o + 1 → ad27 i = ad0 i := fun i hi => (hA27 i (by omega)).trans (hag25 i hi)
  clear hag25
  clear hCl26
  clear hA27
  refine bf_dup dX12_init_118 rfl ?_
  refine bf_iconst (v := 0) dX12_init_119 (by decide) ?_
  refine bf_iconst (v := -1) dX12_init_120 (by decide) ?_
  refine bf_xiast (a := o + 14) dX12_init_121 (by omega) (kx_12_14 hk) (by rw [(lx_12_14 hk)]; decide) ?_
  rw [show (((0) : Int32).toNatClampNeg) = 0 from by decide, bf_u_w]
  refine bf_dup dX12_init_122 rfl ?_
  refine bf_iconst (v := 1) dX12_init_123 (by decide) ?_
  refine bf_iconst (v := -1) dX12_init_124 (by decide) ?_
  refine bf_xiast (a := o + 14) dX12_init_125 (by omega) (kx_12_14 hk) (by rw [(lx_12_14 hk)]; decide) ?_
  rw [show (((1) : Int32).toNatClampNeg) = 1 from by decide, bf_u_w]
  refine bf_dup dX12_init_126 rfl ?_
  refine bf_iconst (v := 2) dX12_init_127 (by decide) ?_
  refine bf_iconst (v := -1) dX12_init_128 (by decide) ?_
  refine bf_xiast (a := o + 14) dX12_init_129 (by omega) (kx_12_14 hk) (by rw [(lx_12_14 hk)]; decide) ?_
  rw [show (((2) : Int32).toNatClampNeg) = 2 from by decide, bf_u_w]
  refine bf_dup dX12_init_130 rfl ?_
  refine bf_iconst (v := 3) dX12_init_131 (by decide) ?_
  refine bf_iconst (v := -1) dX12_init_132 (by decide) ?_
  refine bf_xiast (a := o + 14) dX12_init_133 (by omega) (kx_12_14 hk) (by rw [(lx_12_14 hk)]; decide) ?_
  rw [show (((3) : Int32).toNatClampNeg) = 3 from by decide, bf_u_w]
  refine bf_dup dX12_init_134 rfl ?_
  refine bf_iconst (v := 4) dX12_init_135 (by decide) ?_
  refine bf_iconst (v := -1) dX12_init_136 (by decide) ?_
  refine bf_xiast (a := o + 14) dX12_init_137 (by omega) (kx_12_14 hk) (by rw [(lx_12_14 hk)]; decide) ?_
  rw [show (((4) : Int32).toNatClampNeg) = 4 from by decide, bf_u_w]
  refine bf_dup dX12_init_138 rfl ?_
  refine bf_iconst (v := 5) dX12_init_139 (by decide) ?_
  refine bf_iconst (v := -1) dX12_init_140 (by decide) ?_
  refine bf_xiast (a := o + 14) dX12_init_141 (by omega) (kx_12_14 hk) (by rw [(lx_12_14 hk)]; decide) ?_
  rw [show (((5) : Int32).toNatClampNeg) = 5 from by decide, bf_u_w]
  refine bf_xputR (i := 25) (ty := tyX12 25) (t := o + 14) tyX12 dX12_init_142 wf_X12_52 (by omega) hk (by decide) rfl in_X12 tyX12_ok nmX12 (by decide) (by decide) (by decide) rfl rfl rfl (by decide +kernel) (fun _ => rfl) (fun _ => rfl) ?_
  rw [bf_u_w]
  have hCl28 : bf_Cl (o + 15) (bf_w Rf o (va_up (va_up (va_up (va_up (va_up (va_up (va_up (va_up (va_up (va_up (va_up (va_up (va_up (va_up (fun _ => none) 0 (some (o + 1))) 1 (some (o + 2))) 2 (some (o + 3))) 4 (some (o + 4))) 7 (some (o + 5))) 14 (some (o + 6))) 15 (some (o + 7))) 16 (some (o + 8))) 17 (some (o + 9))) 18 (some (o + 10))) 21 (some (o + 11))) 22 (some (o + 12))) 24 (some (o + 13))) 25 (some (o + 14)))) := by have h := bf_Cl_u (o := o) (i := 25) (t := o + 14) hCl27 (by omega); rw [bf_u_w] at h; exact h
  clear hCl27
  refine bf_aload_n 0 dX12_init_145 rfl rfl ?_
  refine bf_bipush (v := 6) dX12_init_146 (by decide) ?_
  refine bf_xnewI (n := o + 15) (lvf := (fun ad => [(0, .ref (ad o))])) (stf := (fun ad => [.ref (ad o)])) (N := 6) dX12_init_148 wy_int (by decide) (by decide) (by decide) (kx_12_15 hk) (lx_12_15 hk) (by rw [bf_w_ne (show o + 15 ≠ o + 14 by omega), bf_w_ne (show o + 15 ≠ o by omega), (hp (o + 15) (by omega) (by omega)).1]; exact bf_I0_z (by rw [(kx_12_15 hk)]; decide) (nx_12_15 hk)) (fun j => by rw [bf_w_ne (show o + 15 ≠ o by omega), (hp (o + 15) (by omega) (by omega)).2.2]; exact bf_R0_z (by rw [(kx_12_15 hk)]; decide) (by rw [(kx_12_15 hk)]; decide)) (Nat.le_of_ble_eq_true rfl) (Nat.le_of_ble_eq_true rfl) hCl28 (fun ad2 h => ⟨by simp only [h o (by omega)], by simp only [h o (by omega)]⟩) ?_
  intro ad29 hA29 hCl29
  refine bf_widen (k2 := (15, 4874)) (Nat.le_of_ble_eq_true rfl) (Nat.le_of_ble_eq_true rfl) ?_
  have hag29 : ∀ i, i < o + 1 → ad29 i = ad0 i := fun i hi => (hA29 i (by omega)).trans (hag27 i hi)
  clear hag27
  clear hCl28
  clear hA29
  refine bf_xputR (i := 26) (ty := tyX12 26) (t := o + 15) tyX12 dX12_init_150 wf_X12_55 (by omega) hk (by decide) rfl in_X12 tyX12_ok nmX12 (by decide) (by decide) (by decide) rfl rfl rfl (by decide +kernel) (fun _ => rfl) (fun _ => rfl) ?_
  rw [bf_u_w]
  have hCl30 : bf_Cl (o + 16) (bf_w Rf o (va_up (va_up (va_up (va_up (va_up (va_up (va_up (va_up (va_up (va_up (va_up (va_up (va_up (va_up (va_up (fun _ => none) 0 (some (o + 1))) 1 (some (o + 2))) 2 (some (o + 3))) 4 (some (o + 4))) 7 (some (o + 5))) 14 (some (o + 6))) 15 (some (o + 7))) 16 (some (o + 8))) 17 (some (o + 9))) 18 (some (o + 10))) 21 (some (o + 11))) 22 (some (o + 12))) 24 (some (o + 13))) 25 (some (o + 14))) 26 (some (o + 15)))) := by have h := bf_Cl_u (o := o) (i := 26) (t := o + 15) hCl29 (by omega); rw [bf_u_w] at h; exact h
  clear hCl29
  refine bf_aload_n 0 dX12_init_153 rfl rfl ?_
  refine bf_sipush (v := 360) dX12_init_154 (by decide) ?_
  refine bf_xnewJ (n := o + 16) (lvf := (fun ad => [(0, .ref (ad o))])) (stf := (fun ad => [.ref (ad o)])) (N := 360) dX12_init_157 wy_long (by decide) (by decide) (by decide) (kx_12_16 hk) (lx_12_16 hk) (hp (o + 16) (by omega) (by omega)).2.1 (fun j => by rw [bf_w_ne (show o + 16 ≠ o by omega), (hp (o + 16) (by omega) (by omega)).2.2]; exact bf_R0_z (by rw [(kx_12_16 hk)]; decide) (by rw [(kx_12_16 hk)]; decide)) (Nat.le_of_ble_eq_true rfl) (Nat.le_of_ble_eq_true rfl) hCl30 (fun ad2 h => ⟨by simp only [h o (by omega)], by simp only [h o (by omega)]⟩) ?_
  intro ad31 hA31 hCl31
  refine bf_widen (k2 := (16, 5234)) (Nat.le_of_ble_eq_true rfl) (Nat.le_of_ble_eq_true rfl) ?_
  have hag31 : ∀ i, i < o + 1 → ad31 i = ad0 i := fun i hi => (hA31 i (by omega)).trans (hag29 i hi)
  clear hag29
  clear hCl30
  clear hA31
  refine bf_xputR (i := 27) (ty := tyX12 27) (t := o + 16) tyX12 dX12_init_159 wf_X12_58 (by omega) hk (by decide) rfl in_X12 tyX12_ok nmX12 (by decide) (by decide) (by decide) rfl rfl rfl (by decide +kernel) (fun _ => rfl) (fun _ => rfl) ?_
  rw [bf_u_w]
  have hCl32 : bf_Cl (o + 17) (bf_w Rf o (va_up (va_up (va_up (va_up (va_up (va_up (va_up (va_up (va_up (va_up (va_up (va_up (va_up (va_up (va_up (va_up (fun _ => none) 0 (some (o + 1))) 1 (some (o + 2))) 2 (some (o + 3))) 4 (some (o + 4))) 7 (some (o + 5))) 14 (some (o + 6))) 15 (some (o + 7))) 16 (some (o + 8))) 17 (some (o + 9))) 18 (some (o + 10))) 21 (some (o + 11))) 22 (some (o + 12))) 24 (some (o + 13))) 25 (some (o + 14))) 26 (some (o + 15))) 27 (some (o + 16)))) := by have h := bf_Cl_u (o := o) (i := 27) (t := o + 16) hCl31 (by omega); rw [bf_u_w] at h; exact h
  clear hCl31
  have eI : bf_w I o (fun _ => 0) = I := bf_wS (by rw [(hp o (by omega) (by omega)).1]; exact ri_12 hk)
  have eR : bf_w Rf o (va_up (va_up (va_up (va_up (va_up (va_up (va_up (va_up (va_up (va_up (va_up (va_up (va_up (va_up (va_up (va_up (fun _ => none) 0 (some (o + 1))) 1 (some (o + 2))) 2 (some (o + 3))) 4 (some (o + 4))) 7 (some (o + 5))) 14 (some (o + 6))) 15 (some (o + 7))) 16 (some (o + 8))) 17 (some (o + 9))) 18 (some (o + 10))) 21 (some (o + 11))) 22 (some (o + 12))) 24 (some (o + 13))) 25 (some (o + 14))) 26 (some (o + 15))) 27 (some (o + 16))) = Rf := bf_wS (by rw [(hp o (by omega) (by omega)).2.2]; exact rr_12 hk)
  have eI2 : bf_w I (o + 14) (va_up (va_up (va_up (va_up (va_up (va_up (fun _ => 0) 0 (-1)) 1 (-1)) 2 (-1)) 3 (-1)) 4 (-1)) 5 (-1)) = I := bf_wS (by rw [(hp (o + 14) (by omega) (by omega)).1]; exact ri_170 hk)
  rw [eI, eI2, eR]
  rw [eR] at hCl32
  exact bf_vret dX12_init_162 rfl (Nat.le_of_ble_eq_true rfl) (Nat.le_of_ble_eq_true rfl) ⟨rfl, _, hag31, rfl, hCl32⟩
