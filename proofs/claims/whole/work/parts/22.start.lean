set_option maxRecDepth 100000 in
set_option maxHeartbeats 4000000 in
theorem whole_start_of (hrun : ∀ (N : Nat) (xs : Nat → Int32), N ≤ 3072 → ∃ (n : Nat) (r : bf_St), f_law xs N n 0 bf_I0 bf_L0 = some r) {p : Program} {e : Env} {s : State} {m : MethodId} {below : List Frame} {meth : Method} {c : Code} (l : Launch) {b L : Nat} {xs : Nat → Int32} (hL : L ≤ 3072) (C0 : lw_At p s m meth c b L xs) : W p l e room_1 s m #[Value.ref b] below meth c s.heap [] 0 0 (lw_Z below #[Value.ref b] s) (entryFrame m ([Value.ref b] : List Value).toArray 4) := by
  obtain ⟨hx, hb, hr, hml, hown, hts, hX, hbl, hlocks, hgv⟩ := id C0
  obtain ⟨D, cy, hK⟩ := bf_start hts
  obtain ⟨n, r, hf⟩ := hrun L xs hL
  have htT : ∀ w ∈ bf_T, w.before #[Value.ref b] s = true := fun w hw => hts w (List.mem_filter.mp hw).1
  rw [lg_entry_eq]
  obtain ⟨Γ, hΓ⟩ : ∃ Γ : bf_Gm, Γ = (l, D, cy, s.heap.size) := ⟨_, rfl⟩
  have hgo : bf_Go Γ room_1 (bf_mL meth.name) (bf_E1 Γ b L xs) (bf_ZL b) (0, 0) 0 [(0, .ref b)] [] (0, fun _ => 0, bf_I0, bf_L0, bf_R0) := by
    have hp0 : ∀ o sz, bf_Fu o sz bf_I0 bf_L0 bf_R0 := fun _ _ _ _ _ => ⟨rfl, rfl, rfl⟩
    have hCl : bf_Cl 0 bf_R0 := fun o ho => absurd ho (Nat.not_lt_zero _)
    refine bf_xnew (n := 0) (lvf := (fun ad => [(0, .ref b)])) (stf := (fun ad => [])) tyX11 dL_law_0 wq_L_7 wj_X11 wi_X11 in_X11 tyX11_ok rfl hk_flow (by decide) (by decide) dv_11 (Nat.le_of_ble_eq_true rfl) (Nat.le_of_ble_eq_true rfl) hCl (fun _ _ => ⟨rfl, rfl⟩) ?_
    intro ad1 hA1 hCl1
    refine bf_dup dL_law_3 rfl ?_
    refine bf_xcall (n2 := 0 + 156) (d := 4) (mc := 155) (ms := 3945) (ν := mu_X11_init) (o := 0) (As := []) (I2 := bf_I0) (L2 := bf_L0) (R2 := bf_R0) (lvf := (fun ad => [(0, .ref b)])) (stf := (fun ad => [.ref (ad 0)])) dL_law_4 rfl rfl wl_L_9 wm_X11_init wi_X11 wc_X11_init rfl wx_X11_init ⟨Nat.le_of_ble_eq_true rfl, Nat.le_of_ble_eq_true rfl⟩ ⟨Nat.le_of_ble_eq_true rfl, Nat.le_of_ble_eq_true rfl⟩ (Nat.le_of_ble_eq_true rfl) (fun ad2 h => ⟨rfl, by simp only [h 0 (by omega)]⟩) (okx_X11_init hk_flow (hp0 _ _) hCl1) ?_
    intro ad2 hA2 hCl2
    refine bf_astore_n (lv2 := [(1, .ref _), (0, .ref _)]) dL_law_7 rfl (Nat.le_of_ble_eq_true rfl) rfl ?_
    refine bf_xnew (n := 156) (lvf := (fun ad => [(1, .ref (ad 0)), (0, .ref b)])) (stf := (fun ad => [])) tyX12 dL_law_8 wq_L_10 wj_X12 wi_X12 in_X12 tyX12_ok rfl hk_model (by decide) (by decide) dv_12 (Nat.le_of_ble_eq_true rfl) (Nat.le_of_ble_eq_true rfl) hCl2 (fun ad2 h => ⟨by simp only [h 0 (by omega)], rfl⟩) ?_
    intro ad3 hA3 hCl3
    refine bf_dup dL_law_11 rfl ?_
    refine bf_xcall (n2 := 156 + 17) (d := 1) (mc := 16) (ms := 5234) (ν := mu_X12_init) (o := 156) (As := []) (I2 := bf_I0) (L2 := bf_L0) (R2 := bf_R0) (lvf := (fun ad => [(1, .ref (ad 0)), (0, .ref b)])) (stf := (fun ad => [.ref (ad 156)])) dL_law_12 rfl rfl wl_L_12 wm_X12_init wi_X12 wc_X12_init rfl wx_X12_init ⟨Nat.le_of_ble_eq_true rfl, Nat.le_of_ble_eq_true rfl⟩ ⟨Nat.le_of_ble_eq_true rfl, Nat.le_of_ble_eq_true rfl⟩ (Nat.le_of_ble_eq_true rfl) (fun ad2 h => ⟨by simp only [h 0 (by omega)], by simp only [h 156 (by omega)]⟩) (okx_X12_init hk_model (hp0 _ _) hCl3) ?_
    intro ad4 hA4 hCl4
    refine bf_astore_n (lv2 := [(2, .ref _), (1, .ref _), (0, .ref _)]) dL_law_15 rfl (Nat.le_of_ble_eq_true rfl) rfl ?_
    refine bf_iconst (v := 0) dL_law_16 (by decide) ?_
    refine bf_istore_n (lv2 := [(3, .int _), (2, .ref _), (1, .ref _), (0, .ref _)]) dL_law_17 rfl (Nat.le_of_ble_eq_true rfl) rfl ?_
    refine bf_perm [3, 2, 1, 0] rfl ?_
    refine bf_widen (k2 := (173, 9215)) (Nat.le_of_ble_eq_true rfl) (Nat.le_of_ble_eq_true rfl) ?_
    exact ok_law n 0 bf_I0 bf_L0 hf
  have hS : va_S (bf_A Γ) s.heap s.heap [] := va_S.rf
  have hl := lv_entry ([.ref b]) (n := 4) (Nat.le_of_ble_eq_true rfl)
  have e1 : Γ.1 = l := by rw [hΓ]
  have K := hgo p e s m #[Value.ref b] below meth c s.heap [] _ ⟨hx, hb, hr, hml, hown, htT, hlocks, rfl, by rw [hΓ]; exact hK _ _, by rw [hΓ]; exact Nat.le_refl _⟩ ⟨rfl, hX, hbl, by rw [hΓ]⟩ (fun k q h => (by cases h)) ⟨fun i j x y h => (by cases h), fun k q h => (by cases h)⟩ hS hl
  rw [e1] at K
  exact K
