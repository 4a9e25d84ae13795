theorem law_go {c : Option (Int32 × bf_St)} {m : (Nat → Nat → Int32) → (Nat → Nat → Int64) → Option (Int32 × bf_St)} {k : (Nat → Nat → Int32) → (Nat → Nat → Int64) → Option bf_St} (h : bo_OK c m) (hk : ∀ I L, bo_St I L → ∃ r, k I L = some r) : ∃ r, (c.bind (fun r7 => (m r7.2.1 r7.2.2).bind (fun r11 => if r7.1 = r11.1 then k r11.2.1 r11.2.2 else none))) = some r := by
  obtain ⟨x, I1, L1, I2, L2, h1, h2, h3⟩ := h
  obtain ⟨r, hr⟩ := hk I2 L2 h3
  refine ⟨r, ?_⟩
  rw [h1]
  simp only [Option.bind_some]
  rw [h2]
  simp only [Option.bind_some]
  rw [if_pos trivial, hr]
theorem law_goL {c : Option (Int64 × bf_St)} {m : (Nat → Nat → Int32) → (Nat → Nat → Int64) → Option (Int64 × bf_St)} {k : (Nat → Nat → Int32) → (Nat → Nat → Int64) → Option bf_St} (h : bo_OK c m) (hk : ∀ I L, bo_St I L → ∃ r, k I L = some r) : ∃ r, (c.bind (fun r7 => (m r7.2.1 r7.2.2).bind (fun r11 => if lg_cmp r7.1 r11.1 = 0 then k r11.2.1 r11.2.2 else none))) = some r := by
  obtain ⟨x, I1, L1, I2, L2, h1, h2, h3⟩ := h
  obtain ⟨r, hr⟩ := hk I2 L2 h3
  refine ⟨r, ?_⟩
  rw [h1]
  simp only [Option.bind_some]
  rw [h2]
  simp only [Option.bind_some]
  rw [if_pos ((lg_cmp_eq x x).mpr rfl), hr]
set_option maxRecDepth 100000 in
set_option maxHeartbeats 4000000 in
theorem law_run {N : Nat} {xs : Nat → Int32} (hN : N ≤ 3072) : ∀ (n i : Nat) (I : Nat → Nat → Int32) (L : Nat → Nat → Int64), i ≤ N → N < i + 6 * n → bo_St I L → ∃ r, f_law xs N n (nI i) I L = some r
  | 0, i, I, L, h1, h2, h => by omega
  | n + 1, i, I, L, h1, h2, h => by
    rw [f_law]
    by_cases hx : i + 6 ≤ N
    · have nx : ¬ (Int32.ofNat N - 6) < nI i := by
        rw [bp_ltI, show (Int32.ofNat N - (6 : Int32)).toInt = (N : Int) - 6 from pk_sub_toInt (a := N) (b := 6) (by omega) (by omega), bp_toI (by omega)]
        omega
      have ih : ∀ (I : Nat → Nat → Int32) (L : Nat → Nat → Int64), bo_St I L → ∃ r, f_law xs N n (nI (i + 6)) I L = some r := fun I L h => law_run hN n (i + 6) I L (by omega) (by omega) h
      rw [if_neg nx]
      simp only [bp_p1, bp_p2, bp_p3, bp_p4, bp_p5, bp_p6, if_pos (bp_ok (show i < N by omega) (show N ≤ 100000 by omega)), if_pos (bp_ok (show i + 1 < N by omega) (show N ≤ 100000 by omega)), if_pos (bp_ok (show i + 2 < N by omega) (show N ≤ 100000 by omega)), if_pos (bp_ok (show i + 3 < N by omega) (show N ≤ 100000 by omega)), if_pos (bp_ok (show i + 4 < N by omega) (show N ≤ 100000 by omega)), if_pos (bp_ok (show i + 5 < N by omega) (show N ≤ 100000 by omega)), bp_cl (show i < 100000 by omega), bp_cl (show i + 1 < 100000 by omega), bp_cl (show i + 2 < 100000 by omega), bp_cl (show i + 3 < 100000 by omega), bp_cl (show i + 4 < 100000 by omega), bp_cl (show i + 5 < 100000 by omega)]
      by_cases h0 : xs i &&& 31 = 0
      · rw [if_pos h0]
        exact law_go (k := f_law xs N n (nI (i + 6))) (op_box h _ _) ih
      rw [if_neg h0]
      by_cases h1 : xs i &&& 31 = 1
      · rw [if_pos h1]
        exact law_go (k := f_law xs N n (nI (i + 6))) (op_wire h _ _ _ _) ih
      rw [if_neg h1]
      by_cases h2 : xs i &&& 31 = 2
      · rw [if_pos h2]
        exact law_go (k := f_law xs N n (nI (i + 6))) (op_token h _ _) ih
      rw [if_neg h2]
      by_cases h3 : xs i &&& 31 = 3
      · rw [if_pos h3]
        exact law_go (k := f_law xs N n (nI (i + 6))) (op_cut h _) ih
      rw [if_neg h3]
      by_cases h4 : xs i &&& 31 = 4
      · rw [if_pos h4]
        exact law_go (k := f_law xs N n (nI (i + 6))) (op_feed h _) ih
      rw [if_neg h4]
      by_cases h5 : xs i &&& 31 = 5
      · rw [if_pos h5]
        exact law_go (k := f_law xs N n (nI (i + 6))) (op_graph h) ih
      rw [if_neg h5]
      by_cases h6 : xs i &&& 31 = 6
      · rw [if_pos h6]
        exact law_go (k := f_law xs N n (nI (i + 6))) (op_of h _ _) ih
      rw [if_neg h6]
      by_cases h7 : xs i &&& 31 = 7
      · rw [if_pos h7]
        exact law_go (k := f_law xs N n (nI (i + 6))) (op_about h _ _) ih
      rw [if_neg h7]
      by_cases h8 : xs i &&& 31 = 8
      · rw [if_pos h8]
        exact law_goL (k := f_law xs N n (nI (i + 6))) (op_read h _ _) ih
      rw [if_neg h8]
      by_cases h9 : xs i &&& 31 = 9
      · rw [if_pos h9]
        exact law_goL (k := f_law xs N n (nI (i + 6))) (op_fire h _) ih
      rw [if_neg h9]
      by_cases h10 : xs i &&& 31 = 10
      · rw [if_pos h10]
        exact law_go (k := f_law xs N n (nI (i + 6))) (op_period h _) ih
      rw [if_neg h10]
      by_cases h11 : xs i &&& 31 = 11
      · rw [if_pos h11]
        exact law_go (k := f_law xs N n (nI (i + 6))) (op_told h _) ih
      rw [if_neg h11]
      by_cases h12 : xs i &&& 31 = 12
      · rw [if_pos h12]
        exact law_go (k := f_law xs N n (nI (i + 6))) (op_when h _) ih
      rw [if_neg h12]
      by_cases h13 : xs i &&& 31 = 13
      · rw [if_pos h13]
        exact law_go (k := f_law xs N n (nI (i + 6))) (op_on h _ _) ih
      rw [if_neg h13]
      by_cases h14 : xs i &&& 31 = 14
      · rw [if_pos h14]
        exact law_goL (k := f_law xs N n (nI (i + 6))) (op_then h _ _ _) ih
      rw [if_neg h14]
      by_cases h15 : xs i &&& 31 = 15
      · rw [if_pos h15]
        exact law_go (k := f_law xs N n (nI (i + 6))) (op_see h _ _ _) ih
      rw [if_neg h15]
      by_cases h16 : xs i &&& 31 = 16
      · rw [if_pos h16]
        exact law_go (k := f_law xs N n (nI (i + 6))) (op_fits h _ _) ih
      rw [if_neg h16]
      by_cases h17 : xs i &&& 31 = 17
      · rw [if_pos h17]
        exact law_goL (k := f_law xs N n (nI (i + 6))) (op_odds h _ _) ih
      rw [if_neg h17]
      by_cases h18 : xs i &&& 31 = 18
      · rw [if_pos h18]
        exact law_goL (k := f_law xs N n (nI (i + 6))) (op_mean h _) ih
      rw [if_neg h18]
      by_cases h19 : xs i &&& 31 = 19
      · rw [if_pos h19]
        exact law_go (k := f_law xs N n (nI (i + 6))) (op_plan h _ _) ih
      rw [if_neg h19]
      by_cases h20 : xs i &&& 31 = 20
      · rw [if_pos h20]
        exact law_go (k := f_law xs N n (nI (i + 6))) (op_ends h _) ih
      rw [if_neg h20]
      by_cases h21 : xs i &&& 31 = 21
      · rw [if_pos h21]
        exact law_go (k := f_law xs N n (nI (i + 6))) (op_book h _ _) ih
      rw [if_neg h21]
      by_cases h22 : xs i &&& 31 = 22
      · rw [if_pos h22]
        exact law_go (k := f_law xs N n (nI (i + 6))) (op_looked h) ih
      rw [if_neg h22]
      by_cases h23 : xs i &&& 31 = 23
      · rw [if_pos h23]
        exact law_go (k := f_law xs N n (nI (i + 6))) (op_judge h _ _ _) ih
      rw [if_neg h23]
      by_cases h24 : xs i &&& 31 = 24
      · rw [if_pos h24]
        exact law_go (k := f_law xs N n (nI (i + 6))) (op_image h) ih
      rw [if_neg h24]
      by_cases h25 : xs i &&& 31 = 25
      · rw [if_pos h25]
        exact law_go (k := f_law xs N n (nI (i + 6))) (op_undo h) ih
      rw [if_neg h25]
      by_cases h26 : xs i &&& 31 = 26
      · rw [if_pos h26]
        exact law_go (k := f_law xs N n (nI (i + 6))) (op_count h _) ih
      rw [if_neg h26]
      by_cases h27 : xs i &&& 31 = 27
      · rw [if_pos h27]
        exact law_go (k := f_law xs N n (nI (i + 6))) (op_tape h _ _ _) ih
      rw [if_neg h27]
      by_cases h28 : xs i &&& 31 = 28
      · rw [if_pos h28]
        exact law_go (k := f_law xs N n (nI (i + 6))) (op_item h _ _ _) ih
      rw [if_neg h28]
      by_cases h29 : xs i &&& 31 = 29
      · rw [if_pos h29]
        exact law_goL (k := f_law xs N n (nI (i + 6))) (op_peek h _ _) ih
      rw [if_neg h29]
      by_cases h30 : xs i &&& 31 = 30
      · rw [if_pos h30]
        exact law_go (k := f_law xs N n (nI (i + 6))) (op_shift h _ _ _ _ _) ih
      rw [if_neg h30]
      exact ih I L h
    · have nx : (Int32.ofNat N - 6) < nI i := by
        rw [bp_ltI, show (Int32.ofNat N - (6 : Int32)).toInt = (N : Int) - 6 from pk_sub_toInt (a := N) (b := 6) (by omega) (by omega), bp_toI (by omega)]
        omega
      rw [if_pos nx]
      exact ⟨_, rfl⟩
/-! the start -/
theorem st_0 {p : Nat} (h : bf_kd p ≠ 8) (h2 : p ≠ 170) : bf_I0 p = fun _ => 0 := by
  unfold bf_I0
  rw [if_neg h, if_neg h2]
theorem st_w : ∀ w : Fin 8, bf_kd (2 + 8 + 1 + 2 * w.1) ≠ 8 ∧ 2 + 8 + 1 + 2 * w.1 ≠ 170 := by decide +kernel
theorem st_t : ∀ t : Fin 6, bf_kd (144 + 2 * t.1) = 8 := by decide +kernel
theorem st_k : bf_kd 0 ≠ 8 ∧ bf_kd 2 ≠ 8 ∧ bf_kd 27 ≠ 8 ∧ bf_kd 31 ≠ 8 ∧ bf_kd 35 ≠ 8 ∧ bf_kd 124 ≠ 8 ∧ bf_kd 156 ≠ 8 ∧ bf_kd 157 ≠ 8 ∧ bf_kd 171 ≠ 8 ∧ bf_kd 170 ≠ 8 := by decide +kernel
def st_A : bn_A := (((0, fun _ => (0, 0, 0), 0, fun _ => (0, 0, 0, 0, false, [])), [], [], []), none, [], fun _ => (-1, 0, fun _ => 0))
theorem st_St : bo_St bf_I0 bf_L0 := by
  obtain ⟨k0, k2, k27, k31, k35, k124, k156, k157, k171, k170⟩ := st_k
  refine ⟨st_A, ?_, ?_, ?_⟩
  · refine ⟨⟨⟨Nat.zero_le _, Nat.zero_le _, fun b hb => absurd hb (Nat.not_lt_zero _), fun w => ⟨fun z => absurd (show false = true from z) (by decide), Nat.zero_le _, fun _ => rfl⟩, fun w _ => rfl⟩, Nat.zero_le _, Nat.zero_le _, Nat.zero_le _, fun x hx => absurd hx List.not_mem_nil, fun x hx => absurd hx List.not_mem_nil, fun x hx => absurd hx List.not_mem_nil⟩, fun S hS => ?_, Nat.zero_le _, fun c hc => absurd hc List.not_mem_nil, fun t ht => ⟨Nat.zero_le _, Or.inl ⟨rfl, rfl⟩⟩⟩
    exact absurd (show (none : Option bn_S) = some S from hS) (fun z => by cases z)
  · refine ⟨⟨⟨?_, ?_, fun b hb => absurd hb (Nat.not_lt_zero _), fun w hw => ?_⟩, ?_, ?_, ?_, fun k x hk => ?_, fun k x hk => ?_, fun k x hk => ?_⟩, ?_, fun S hS => ?_, ?_, fun k c hk => ?_, fun t ht => ?_⟩
    · rw [st_0 k2 (by omega)]; rfl
    · rw [st_0 k2 (by omega)]; rfl
    · have hz := st_w ⟨w, hw⟩
      have e : bf_I0 (1 + 1 + 8 + 1 + 2 * w) = fun _ => 0 := st_0 hz.1 hz.2
      exact ⟨fun z => absurd (show false = true from z) (by decide), by rw [e]; rfl, by rw [e]; rfl, 0, by omega, by rw [e]; rfl, fun i hi => absurd hi (Nat.not_lt_zero _)⟩
    · rw [st_0 k27 (by omega)]; rfl
    · rw [st_0 k31 (by omega)]; rfl
    · rw [st_0 k35 (by omega)]; rfl
    · exact absurd (show (none : Option _) = some x from hk) (fun z => by cases z)
    · exact absurd (show (none : Option _) = some x from hk) (fun z => by cases z)
    · exact absurd (show (none : Option _) = some x from hk) (fun z => by cases z)
    · rw [st_0 k0 (by omega)]; rfl
    · exact absurd (show (none : Option bn_S) = some S from hS) (fun z => by cases z)
    · rw [st_0 k124 (by omega)]; rfl
    · exact absurd (show (none : Option _) = some c from hk) (fun z => by cases z)
    · have e : bf_I0 (144 + 2 * t) = va_up (va_up (fun _ => 0) 0 (-1)) 1 0 := by
        unfold bf_I0
        rw [if_pos (st_t ⟨t, ht⟩)]
      rw [e]
      exact ⟨rfl, rfl, fun _ _ => rfl⟩
  · refine ⟨⟨⟨?_, ?_, fun b hb => absurd hb (Nat.not_lt_zero _), fun w hw => absurd hw (Nat.not_lt_zero _)⟩, ?_, ?_, ?_, fun k x hk => ?_, fun k x hk => ?_, fun k x hk => ?_⟩, ?_, fun S hS => ?_, ?_, fun k c hk => ?_, fun t ht => ?_⟩
    · rw [st_0 k157 (by omega)]; rfl
    · rw [st_0 k157 (by omega)]; rfl
    · rw [st_0 k157 (by omega)]; rfl
    · rw [st_0 k157 (by omega)]; rfl
    · rw [st_0 k157 (by omega)]; rfl
    · exact absurd (show (none : Option _) = some x from hk) (fun z => by cases z)
    · exact absurd (show (none : Option _) = some x from hk) (fun z => by cases z)
    · exact absurd (show (none : Option _) = some x from hk) (fun z => by cases z)
    · rw [st_0 k156 (by omega)]; rfl
    · exact absurd (show (none : Option bn_S) = some S from hS) (fun z => by cases z)
    · rw [st_0 k156 (by omega)]; rfl
    · exact absurd (show (none : Option _) = some c from hk) (fun z => by cases z)
    · have e : bf_I0 170 = va_up (va_up (va_up (va_up (va_up (va_up (fun _ => 0) 0 (-1)) 1 (-1)) 2 (-1)) 3 (-1)) 4 (-1)) 5 (-1) := by
        unfold bf_I0
        rw [if_neg k170, if_pos rfl]
      rw [e, st_0 k171 (by omega)]
      refine ⟨?_, rfl, fun _ _ => rfl⟩
      rcases tm_h6 ht with rfl | rfl | rfl | rfl | rfl | rfl <;> rfl
theorem law_all : ∀ (N : Nat) (xs : Nat → Int32), N ≤ 3072 → ∃ (n : Nat) (r : bf_St), f_law xs N n 0 bf_I0 bf_L0 = some r := fun N xs hN => by
  obtain ⟨r, hr⟩ := law_run (xs := xs) hN (N + 1) 0 bf_I0 bf_L0 (Nat.zero_le _) (by omega) st_St
  exact ⟨N + 1, r, hr⟩
