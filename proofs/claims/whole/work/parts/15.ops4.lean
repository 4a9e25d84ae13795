theorem bl_app {α : Type} {l : List α} {x y : α} {k : Nat} (h : (l ++ [x])[k]? = some y) : (k < l.length ∧ l[k]? = some y) ∨ (k = l.length ∧ y = x) := by
  by_cases q : k < l.length
  · rw [List.getElem?_append_left q] at h
    exact Or.inl ⟨q, h⟩
  · rw [List.getElem?_append_right (by omega)] at h
    have h1 : k - l.length < 1 := (List.getElem?_eq_some_iff.mp h).1
    rw [show k - l.length = 0 by omega] at h
    exact Or.inr ⟨by omega, (Option.some.inj h).symm⟩
theorem bl_mem {α : Type} {l : List α} {x y : α} (h : y ∈ l ++ [x]) : y ∈ l ∨ y = x := by
  rcases List.mem_append.mp h with h | h
  · exact Or.inl h
  · exact Or.inr (List.mem_singleton.mp h)
theorem bl_len {α : Type} {l : List α} {x : α} : (l ++ [x]).length = l.length + 1 := by rw [List.length_append]; rfl
theorem bc_A.setSh {I I1 : Nat → Nat → Int32} {L : Nat → Nat → Int64} {A : bn_A} {S : bn_S} (h : bc_A I L A) (hok : ba_ok A) (hI : ∀ q, q < 1 ∨ 38 < q → I1 q = I q) (hS : bc_S I1 1 S) : bc_A I1 L (S, A.2) := by
  obtain ⟨-, g2, g3, g4, g5, g6⟩ := h
  refine ⟨hS, by rw [hI 0 (by omega)]; exact g2, fun S hS => (g3 S hS).cg (hok.2.1 S hS) (fun q a b => hI q (by omega)), by rw [hI 124 (by omega)]; exact g4, fun k c hk => by rw [hI 125 (by omega)]; exact g5 k c hk, fun t ht => ?_⟩
  rw [hI (144 + 2 * t) (by omega)]
  exact g6 t ht
theorem bm_A.setSh {I I1 : Nat → Nat → Int32} {L : Nat → Nat → Int64} {A : bn_A} {S : bn_S} (h : bm_A I L A) (hq : ∀ q, q ≠ 157 → I1 q = I q) (hS : bm_S (I1 157) S) : bm_A I1 L (S, A.2) := by
  obtain ⟨-, g2, g3, g4, g5, g6⟩ := h
  refine ⟨hS, by rw [hq 156 (by omega)]; exact g2, by rw [hq 159 (by omega)]; exact g3, by rw [hq 156 (by omega)]; exact g4, by rw [hq 160 (by omega)]; exact g5, by rw [hq 170 (by omega), hq 171 (by omega)]; exact g6⟩
theorem rw_append {o len N : Nat} {I : Nat → Nat → Int32} {L : Nat → Nat → Int64} (a b c : Int32) (h0 : I o 0 = nI len) (hN1 : bf_le (o + 1) = N) (hN2 : bf_le (o + 2) = N) (hN3 : bf_le (o + 3) = N) (hl : len < N) (hN : N ≤ 100) : f_X5_append o a b c I L = some (nI (len + 1), bf_u (bf_u (bf_u (bf_u I (o + 1) len a) (o + 2) len b) (o + 3) len c) o 0 (nI (len + 1)), L) := by
  unfold f_X5_append
  rw [hN1, hN2, hN3]
  simp (disch := omega) only [bf_u_ne, bf_u_at, h0]
  rw [if_pos (show nI len < Int32.ofNat N from nI_lt hl (by omega)), if_pos (bp_ok hl (by omega)), if_pos (bp_ok hl (by omega)), if_pos (bp_ok hl (by omega)), bp_cl (by omega), nI_1]
theorem rw_full {o N : Nat} {I : Nat → Nat → Int32} {L : Nat → Nat → Int64} (a b c : Int32) (h0 : I o 0 = nI N) (hN1 : bf_le (o + 1) = N) (hN : N ≤ 100) : f_X5_append o a b c I L = some (-4, I, L) := by
  unfold f_X5_append
  rw [hN1, h0, if_neg (show ¬ nI N < Int32.ofNat N from nI_nlt (Nat.le_refl _) (by omega))]
theorem ok_app_s {A : bn_A} {x : Nat × Nat × Int32} (h : ba_ok A) (hl : (bs_s A.1).length < 5) (hx : x.1 < 8 ∧ x.2.1 ≤ 4) : ba_ok ((A.1.1, (bs_s A.1) ++ [x], A.1.2.2.1, A.1.2.2.2), A.2) := by
  obtain ⟨⟨h1, h2, h3, h4, h5, h6, h7⟩, g⟩ := h
  exact ⟨⟨h1, (by rw [bl_len]; exact hl), h3, h4, (fun y hy => (bl_mem hy).elim (h5 y) (fun e => by subst e; exact hx)), h6, h7⟩, g⟩
theorem ok_clr_s {A : bn_A} (h : ba_ok A) : ba_ok ((A.1.1, [], A.1.2.2.1, A.1.2.2.2), A.2) := by
  obtain ⟨⟨h1, h2, h3, h4, h5, h6, h7⟩, g⟩ := h
  exact ⟨⟨h1, Nat.zero_le _, h3, h4, (fun y hy => absurd hy List.not_mem_nil), h6, h7⟩, g⟩
theorem ca_app_s {I : Nat → Nat → Int32} {L : Nat → Nat → Int64} {A : bn_A} {x : Nat × Nat × Int32} (h : bc_A I L A) (hok : ba_ok A) (hl : (bs_s A.1).length < 5) : bc_A (bf_u (bf_u (bf_u (bf_u I 28 (bs_s A.1).length (nI x.1)) 29 (bs_s A.1).length (nI x.2.1)) 30 (bs_s A.1).length (x.2.2)) 27 0 (nI ((bs_s A.1).length + 1))) L ((A.1.1, (bs_s A.1) ++ [x], A.1.2.2.1, A.1.2.2.2), A.2) := by
  obtain ⟨k1, k2, k3, k4, k5, k6, k7⟩ := id h.1
  refine h.setSh hok (fun q hq => by simp (disch := omega) only [bf_u_ne]) ⟨k1.cg (fun q qa qb => by simp (disch := omega) only [bf_u_ne]) hok.1.1, ?_, ?_, ?_, fun k y hk => ?_, fun k y hk => ?_, fun k y hk => ?_⟩
  · show _ = nI ((bs_s A.1) ++ [x]).length
    rw [bl_len]
    simp (disch := omega) only [Nat.reduceAdd, bf_u_at]
  · simp (disch := omega) only [Nat.reduceAdd, bf_u_ne]
    exact k3
  · simp (disch := omega) only [Nat.reduceAdd, bf_u_ne]
    exact k4
  · rcases bl_app hk with ⟨q, hk⟩ | ⟨q, e⟩
    · have q : k < (bs_s A.1).length := q
      simp (disch := omega) only [Nat.reduceAdd, bf_u_ne, bf_u_ni]
      exact k5 k y hk
    · subst e
      have q : k = (bs_s A.1).length := q
      subst q
      simp (disch := omega) only [Nat.reduceAdd, bf_u_ne, bf_u_at]
      exact ⟨trivial, trivial, trivial⟩
  · simp (disch := omega) only [Nat.reduceAdd, bf_u_ne]
    exact k6 k y hk
  · simp (disch := omega) only [Nat.reduceAdd, bf_u_ne]
    exact k7 k y hk
theorem ca_clr_s {I : Nat → Nat → Int32} {L : Nat → Nat → Int64} {A : bn_A} (h : bc_A I L A) (hok : ba_ok A) : bc_A (bf_u I 27 0 0) L ((A.1.1, [], A.1.2.2.1, A.1.2.2.2), A.2) := by
  obtain ⟨k1, k2, k3, k4, k5, k6, k7⟩ := id h.1
  refine h.setSh hok (fun q hq => by simp (disch := omega) only [bf_u_ne]) ⟨k1.cg (fun q qa qb => by simp (disch := omega) only [bf_u_ne]) hok.1.1, ?_, ?_, ?_, fun k y hk => ?_, fun k y hk => ?_, fun k y hk => ?_⟩
  · simp (disch := omega) only [Nat.reduceAdd, bf_u_at]
    rfl
  · simp (disch := omega) only [Nat.reduceAdd, bf_u_ne]
    exact k3
  · simp (disch := omega) only [Nat.reduceAdd, bf_u_ne]
    exact k4
  · exact absurd (bs_get hk) (Nat.not_lt_zero _)
  · simp (disch := omega) only [Nat.reduceAdd, bf_u_ne]
    exact k6 k y hk
  · simp (disch := omega) only [Nat.reduceAdd, bf_u_ne]
    exact k7 k y hk
theorem ma_app_s {I : Nat → Nat → Int32} {L : Nat → Nat → Int64} {A : bn_A} {x : Nat × Nat × Int32} (h : bm_A I L A) (hok : ba_ok A) (hl : (bs_s A.1).length < 5) : bm_A (bf_u (bf_u (bf_u (bf_u I 157 (23 + 3 * (bs_s A.1).length) (nI x.1)) 157 (23 + 3 * (bs_s A.1).length + 1) (nI x.2.1)) 157 (23 + 3 * (bs_s A.1).length + 2) x.2.2) 157 2 (nI ((bs_s A.1).length + 1))) L ((A.1.1, (bs_s A.1) ++ [x], A.1.2.2.1, A.1.2.2.2), A.2) := by
  obtain ⟨k1, k2, k3, k4, k5, k6, k7⟩ := id h.1
  have o2 : (bs_s A.1).length ≤ 5 := hok.1.2.1
  have o3 : (bs_p A.1).length ≤ 10 := hok.1.2.2.1
  have o4 : (bs_b A.1).length ≤ 8 := hok.1.2.2.2.1
  refine h.setSh (fun q hq => by simp (disch := omega) only [bf_u_ne]) ⟨k1.cg hok.1.1 (fun q qa => by simp (disch := omega) only [bf_u_ni]), ?_, ?_, ?_, fun k y hk => ?_, fun k y hk => ?_, fun k y hk => ?_⟩
  · show _ = nI ((bs_s A.1) ++ [x]).length
    rw [bl_len]
    simp (disch := omega) only [bf_u_at]
  · simp (disch := omega) only [bf_u_ni]
    exact k3
  · simp (disch := omega) only [bf_u_ni]
    exact k4
  · rcases bl_app hk with ⟨q, hk⟩ | ⟨q, e⟩
    · have q : k < (bs_s A.1).length := q
      simp (disch := omega) only [bf_u_ni]
      exact k5 k y hk
    · subst e
      have q : k = (bs_s A.1).length := q
      subst q
      simp (disch := omega) only [bf_u_ni, bf_u_at]
      exact ⟨trivial, trivial, trivial⟩
  · have := bs_get hk
    have : k < 10 := Nat.lt_of_lt_of_le this o3
    simp (disch := omega) only [bf_u_ni]
    exact k6 k y hk
  · have := bs_get hk
    have : k < 8 := Nat.lt_of_lt_of_le this o4
    simp (disch := omega) only [bf_u_ni]
    exact k7 k y hk
theorem ma_clr_s {I : Nat → Nat → Int32} {L : Nat → Nat → Int64} {A : bn_A} (h : bm_A I L A) (hok : ba_ok A) : bm_A (bf_u I 157 2 0) L ((A.1.1, [], A.1.2.2.1, A.1.2.2.2), A.2) := by
  obtain ⟨k1, k2, k3, k4, k5, k6, k7⟩ := id h.1
  refine h.setSh (fun q hq => by simp (disch := omega) only [bf_u_ne]) ⟨k1.cg hok.1.1 (fun q qa => by simp (disch := omega) only [bf_u_ni]), ?_, ?_, ?_, fun k y hk => ?_, fun k y hk => ?_, fun k y hk => ?_⟩
  · simp (disch := omega) only [bf_u_at]
    rfl
  · simp (disch := omega) only [bf_u_ni]
    exact k3
  · simp (disch := omega) only [bf_u_ni]
    exact k4
  · exact absurd (bs_get hk) (Nat.not_lt_zero _)
  · simp (disch := omega) only [bf_u_ni]
    exact k6 k y hk
  · simp (disch := omega) only [bf_u_ni]
    exact k7 k y hk
theorem ok_app_p {A : bn_A} {x : Nat × Nat} (h : ba_ok A) (hl : (bs_p A.1).length < 10) (hx : x.1 ≤ 3 ∧ x.2 < 8 ∧ ((x.1 = 0 ∨ x.1 = 2) → x.2 < bn_nb A.1.1)) : ba_ok ((A.1.1, A.1.2.1, (bs_p A.1) ++ [x], A.1.2.2.2), A.2) := by
  obtain ⟨⟨h1, h2, h3, h4, h5, h6, h7⟩, g⟩ := h
  exact ⟨⟨h1, h2, (by rw [bl_len]; exact hl), h4, h5, (fun y hy => (bl_mem hy).elim (h6 y) (fun e => by subst e; exact hx)), h7⟩, g⟩
theorem ok_clr_p {A : bn_A} (h : ba_ok A) : ba_ok ((A.1.1, A.1.2.1, [], A.1.2.2.2), A.2) := by
  obtain ⟨⟨h1, h2, h3, h4, h5, h6, h7⟩, g⟩ := h
  exact ⟨⟨h1, h2, Nat.zero_le _, h4, h5, (fun y hy => absurd hy List.not_mem_nil), h7⟩, g⟩
theorem ca_app_p {I : Nat → Nat → Int32} {L : Nat → Nat → Int64} {A : bn_A} {x : Nat × Nat} {z : Int32} (h : bc_A I L A) (hok : ba_ok A) (hl : (bs_p A.1).length < 10) : bc_A (bf_u (bf_u (bf_u (bf_u I 32 (bs_p A.1).length (nI x.1)) 33 (bs_p A.1).length (nI x.2)) 34 (bs_p A.1).length (z)) 31 0 (nI ((bs_p A.1).length + 1))) L ((A.1.1, A.1.2.1, (bs_p A.1) ++ [x], A.1.2.2.2), A.2) := by
  obtain ⟨k1, k2, k3, k4, k5, k6, k7⟩ := id h.1
  refine h.setSh hok (fun q hq => by simp (disch := omega) only [bf_u_ne]) ⟨k1.cg (fun q qa qb => by simp (disch := omega) only [bf_u_ne]) hok.1.1, ?_, ?_, ?_, fun k y hk => ?_, fun k y hk => ?_, fun k y hk => ?_⟩
  · simp (disch := omega) only [Nat.reduceAdd, bf_u_ne]
    exact k2
  · show _ = nI ((bs_p A.1) ++ [x]).length
    rw [bl_len]
    simp (disch := omega) only [Nat.reduceAdd, bf_u_at]
  · simp (disch := omega) only [Nat.reduceAdd, bf_u_ne]
    exact k4
  · simp (disch := omega) only [Nat.reduceAdd, bf_u_ne]
    exact k5 k y hk
  · rcases bl_app hk with ⟨q, hk⟩ | ⟨q, e⟩
    · have q : k < (bs_p A.1).length := q
      simp (disch := omega) only [Nat.reduceAdd, bf_u_ne, bf_u_ni]
      exact k6 k y hk
    · subst e
      have q : k = (bs_p A.1).length := q
      subst q
      simp (disch := omega) only [Nat.reduceAdd, bf_u_ne, bf_u_at]
      exact ⟨trivial, trivial⟩
  · simp (disch := omega) only [Nat.reduceAdd, bf_u_ne]
    exact k7 k y hk
theorem ca_clr_p {I : Nat → Nat → Int32} {L : Nat → Nat → Int64} {A : bn_A} (h : bc_A I L A) (hok : ba_ok A) : bc_A (bf_u I 31 0 0) L ((A.1.1, A.1.2.1, [], A.1.2.2.2), A.2) := by
  obtain ⟨k1, k2, k3, k4, k5, k6, k7⟩ := id h.1
  refine h.setSh hok (fun q hq => by simp (disch := omega) only [bf_u_ne]) ⟨k1.cg (fun q qa qb => by simp (disch := omega) only [bf_u_ne]) hok.1.1, ?_, ?_, ?_, fun k y hk => ?_, fun k y hk => ?_, fun k y hk => ?_⟩
  · simp (disch := omega) only [Nat.reduceAdd, bf_u_ne]
    exact k2
  · simp (disch := omega) only [Nat.reduceAdd, bf_u_at]
    rfl
  · simp (disch := omega) only [Nat.reduceAdd, bf_u_ne]
    exact k4
  · simp (disch := omega) only [Nat.reduceAdd, bf_u_ne]
    exact k5 k y hk
  · exact absurd (bs_get hk) (Nat.not_lt_zero _)
  · simp (disch := omega) only [Nat.reduceAdd, bf_u_ne]
    exact k7 k y hk
theorem ma_app_p {I : Nat → Nat → Int32} {L : Nat → Nat → Int64} {A : bn_A} {x : Nat × Nat} {z : Int32} (hz : x.1 ≠ 3 → z = nI x.2) (h : bm_A I L A) (hok : ba_ok A) (hl : (bs_p A.1).length < 10) : bm_A (bf_u (bf_u (bf_u I 157 (38 + 2 * (bs_p A.1).length) (nI x.1)) 157 (38 + 2 * (bs_p A.1).length + 1) z) 157 3 (nI ((bs_p A.1).length + 1))) L ((A.1.1, A.1.2.1, (bs_p A.1) ++ [x], A.1.2.2.2), A.2) := by
  obtain ⟨k1, k2, k3, k4, k5, k6, k7⟩ := id h.1
  have o2 : (bs_s A.1).length ≤ 5 := hok.1.2.1
  have o3 : (bs_p A.1).length ≤ 10 := hok.1.2.2.1
  have o4 : (bs_b A.1).length ≤ 8 := hok.1.2.2.2.1
  refine h.setSh (fun q hq => by simp (disch := omega) only [bf_u_ne]) ⟨k1.cg hok.1.1 (fun q qa => by simp (disch := omega) only [bf_u_ni]), ?_, ?_, ?_, fun k y hk => ?_, fun k y hk => ?_, fun k y hk => ?_⟩
  · simp (disch := omega) only [bf_u_ni]
    exact k2
  · show _ = nI ((bs_p A.1) ++ [x]).length
    rw [bl_len]
    simp (disch := omega) only [bf_u_at]
  · simp (disch := omega) only [bf_u_ni]
    exact k4
  · have := bs_get hk
    have : k < 5 := Nat.lt_of_lt_of_le this o2
    simp (disch := omega) only [bf_u_ni]
    exact k5 k y hk
  · rcases bl_app hk with ⟨q, hk⟩ | ⟨q, e⟩
    · have q : k < (bs_p A.1).length := q
      simp (disch := omega) only [bf_u_ni]
      exact k6 k y hk
    · subst e
      have q : k = (bs_p A.1).length := q
      subst q
      simp (disch := omega) only [bf_u_ni, bf_u_at]
      exact ⟨trivial, hz⟩
  · have := bs_get hk
    have : k < 8 := Nat.lt_of_lt_of_le this o4
    simp (disch := omega) only [bf_u_ni]
    exact k7 k y hk
theorem ma_clr_p {I : Nat → Nat → Int32} {L : Nat → Nat → Int64} {A : bn_A} (h : bm_A I L A) (hok : ba_ok A) : bm_A (bf_u I 157 3 0) L ((A.1.1, A.1.2.1, [], A.1.2.2.2), A.2) := by
  obtain ⟨k1, k2, k3, k4, k5, k6, k7⟩ := id h.1
  refine h.setSh (fun q hq => by simp (disch := omega) only [bf_u_ne]) ⟨k1.cg hok.1.1 (fun q qa => by simp (disch := omega) only [bf_u_ni]), ?_, ?_, ?_, fun k y hk => ?_, fun k y hk => ?_, fun k y hk => ?_⟩
  · simp (disch := omega) only [bf_u_ni]
    exact k2
  · simp (disch := omega) only [bf_u_at]
    rfl
  · simp (disch := omega) only [bf_u_ni]
    exact k4
  · simp (disch := omega) only [bf_u_ni]
    exact k5 k y hk
  · exact absurd (bs_get hk) (Nat.not_lt_zero _)
  · simp (disch := omega) only [bf_u_ni]
    exact k7 k y hk
theorem ok_app_b {A : bn_A} {x : Nat × Nat} (h : ba_ok A) (hl : (bs_b A.1).length < 8) (hx : x.1 < 8 ∧ x.2 ≤ 99) : ba_ok ((A.1.1, A.1.2.1, A.1.2.2.1, (bs_b A.1) ++ [x]), A.2) := by
  obtain ⟨⟨h1, h2, h3, h4, h5, h6, h7⟩, g⟩ := h
  exact ⟨⟨h1, h2, h3, (by rw [bl_len]; exact hl), h5, h6, (fun y hy => (bl_mem hy).elim (h7 y) (fun e => by subst e; exact hx))⟩, g⟩
theorem ok_clr_b {A : bn_A} (h : ba_ok A) : ba_ok ((A.1.1, A.1.2.1, A.1.2.2.1, []), A.2) := by
  obtain ⟨⟨h1, h2, h3, h4, h5, h6, h7⟩, g⟩ := h
  exact ⟨⟨h1, h2, h3, Nat.zero_le _, h5, h6, (fun y hy => absurd hy List.not_mem_nil)⟩, g⟩
theorem ca_app_b {I : Nat → Nat → Int32} {L : Nat → Nat → Int64} {A : bn_A} {x : Nat × Nat} {z : Int32} (h : bc_A I L A) (hok : ba_ok A) (hl : (bs_b A.1).length < 8) : bc_A (bf_u (bf_u (bf_u (bf_u I 36 (bs_b A.1).length (nI x.1)) 37 (bs_b A.1).length (nI x.2)) 38 (bs_b A.1).length (z)) 35 0 (nI ((bs_b A.1).length + 1))) L ((A.1.1, A.1.2.1, A.1.2.2.1, (bs_b A.1) ++ [x]), A.2) := by
  obtain ⟨k1, k2, k3, k4, k5, k6, k7⟩ := id h.1
  refine h.setSh hok (fun q hq => by simp (disch := omega) only [bf_u_ne]) ⟨k1.cg (fun q qa qb => by simp (disch := omega) only [bf_u_ne]) hok.1.1, ?_, ?_, ?_, fun k y hk => ?_, fun k y hk => ?_, fun k y hk => ?_⟩
  · simp (disch := omega) only [Nat.reduceAdd, bf_u_ne]
    exact k2
  · simp (disch := omega) only [Nat.reduceAdd, bf_u_ne]
    exact k3
  · show _ = nI ((bs_b A.1) ++ [x]).length
    rw [bl_len]
    simp (disch := omega) only [Nat.reduceAdd, bf_u_at]
  · simp (disch := omega) only [Nat.reduceAdd, bf_u_ne]
    exact k5 k y hk
  · simp (disch := omega) only [Nat.reduceAdd, bf_u_ne]
    exact k6 k y hk
  · rcases bl_app hk with ⟨q, hk⟩ | ⟨q, e⟩
    · have q : k < (bs_b A.1).length := q
      simp (disch := omega) only [Nat.reduceAdd, bf_u_ne, bf_u_ni]
      exact k7 k y hk
    · subst e
      have q : k = (bs_b A.1).length := q
      subst q
      simp (disch := omega) only [Nat.reduceAdd, bf_u_ne, bf_u_at]
      exact ⟨trivial, trivial⟩
theorem ca_clr_b {I : Nat → Nat → Int32} {L : Nat → Nat → Int64} {A : bn_A} (h : bc_A I L A) (hok : ba_ok A) : bc_A (bf_u I 35 0 0) L ((A.1.1, A.1.2.1, A.1.2.2.1, []), A.2) := by
  obtain ⟨k1, k2, k3, k4, k5, k6, k7⟩ := id h.1
  refine h.setSh hok (fun q hq => by simp (disch := omega) only [bf_u_ne]) ⟨k1.cg (fun q qa qb => by simp (disch := omega) only [bf_u_ne]) hok.1.1, ?_, ?_, ?_, fun k y hk => ?_, fun k y hk => ?_, fun k y hk => ?_⟩
  · simp (disch := omega) only [Nat.reduceAdd, bf_u_ne]
    exact k2
  · simp (disch := omega) only [Nat.reduceAdd, bf_u_ne]
    exact k3
  · simp (disch := omega) only [Nat.reduceAdd, bf_u_at]
    rfl
  · simp (disch := omega) only [Nat.reduceAdd, bf_u_ne]
    exact k5 k y hk
  · simp (disch := omega) only [Nat.reduceAdd, bf_u_ne]
    exact k6 k y hk
  · exact absurd (bs_get hk) (Nat.not_lt_zero _)
theorem ma_app_b {I : Nat → Nat → Int32} {L : Nat → Nat → Int64} {A : bn_A} {x : Nat × Nat} (h : bm_A I L A) (hok : ba_ok A) (hl : (bs_b A.1).length < 8) : bm_A (bf_u (bf_u (bf_u I 157 (58 + 2 * (bs_b A.1).length) (nI x.1)) 157 (58 + 2 * (bs_b A.1).length + 1) (nI x.2)) 157 4 (nI ((bs_b A.1).length + 1))) L ((A.1.1, A.1.2.1, A.1.2.2.1, (bs_b A.1) ++ [x]), A.2) := by
  obtain ⟨k1, k2, k3, k4, k5, k6, k7⟩ := id h.1
  have o2 : (bs_s A.1).length ≤ 5 := hok.1.2.1
  have o3 : (bs_p A.1).length ≤ 10 := hok.1.2.2.1
  have o4 : (bs_b A.1).length ≤ 8 := hok.1.2.2.2.1
  refine h.setSh (fun q hq => by simp (disch := omega) only [bf_u_ne]) ⟨k1.cg hok.1.1 (fun q qa => by simp (disch := omega) only [bf_u_ni]), ?_, ?_, ?_, fun k y hk => ?_, fun k y hk => ?_, fun k y hk => ?_⟩
  · simp (disch := omega) only [bf_u_ni]
    exact k2
  · simp (disch := omega) only [bf_u_ni]
    exact k3
  · show _ = nI ((bs_b A.1) ++ [x]).length
    rw [bl_len]
    simp (disch := omega) only [bf_u_at]
  · have := bs_get hk
    have : k < 5 := Nat.lt_of_lt_of_le this o2
    simp (disch := omega) only [bf_u_ni]
    exact k5 k y hk
  · have := bs_get hk
    have : k < 10 := Nat.lt_of_lt_of_le this o3
    simp (disch := omega) only [bf_u_ni]
    exact k6 k y hk
  · rcases bl_app hk with ⟨q, hk⟩ | ⟨q, e⟩
    · have q : k < (bs_b A.1).length := q
      simp (disch := omega) only [bf_u_ni]
      exact k7 k y hk
    · subst e
      have q : k = (bs_b A.1).length := q
      subst q
      simp (disch := omega) only [bf_u_ni, bf_u_at]
      exact ⟨trivial, trivial⟩
theorem ma_clr_b {I : Nat → Nat → Int32} {L : Nat → Nat → Int64} {A : bn_A} (h : bm_A I L A) (hok : ba_ok A) : bm_A (bf_u I 157 4 0) L ((A.1.1, A.1.2.1, A.1.2.2.1, []), A.2) := by
  obtain ⟨k1, k2, k3, k4, k5, k6, k7⟩ := id h.1
  refine h.setSh (fun q hq => by simp (disch := omega) only [bf_u_ne]) ⟨k1.cg hok.1.1 (fun q qa => by simp (disch := omega) only [bf_u_ni]), ?_, ?_, ?_, fun k y hk => ?_, fun k y hk => ?_, fun k y hk => ?_⟩
  · simp (disch := omega) only [bf_u_ni]
    exact k2
  · simp (disch := omega) only [bf_u_ni]
    exact k3
  · simp (disch := omega) only [bf_u_at]
    rfl
  · simp (disch := omega) only [bf_u_ni]
    exact k5 k y hk
  · simp (disch := omega) only [bf_u_ni]
    exact k6 k y hk
  · exact absurd (bs_get hk) (Nat.not_lt_zero _)
