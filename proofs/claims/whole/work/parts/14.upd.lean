/-! what a change of one piece leaves -/
abbrev bn_sN (A : bn_A) (N : bn_N) : bn_A := ((N, A.1.2), A.2)
abbrev bn_sW (N : bn_N) (w : Nat) (x : bn_W) : bn_N := (N.1, N.2.1, N.2.2.1, va_up N.2.2.2 w x)
theorem vu_o {α : Type} {f : Nat → α} {k : Nat} {v : α} : va_up f k v k = v := if_pos rfl
theorem vu_n {α : Type} {f : Nat → α} {k j : Nat} {v : α} (h : j ≠ k) : va_up f k v j = f j := if_neg h
theorem ba_ok.setN {A : bn_A} {N : bn_N} (h : ba_ok A) (hN : bn_ok N) (hb : bn_nb (bs_n (ba_s A)) ≤ bn_nb N) : ba_ok (bn_sN A N) := by
  obtain ⟨⟨h1, h2, h3, h4, h5, h6, h7⟩, g⟩ := h
  exact ⟨⟨hN, h2, h3, h4, h5, fun x hx => ⟨(h6 x hx).1, (h6 x hx).2.1, fun q => Nat.lt_of_lt_of_le ((h6 x hx).2.2 q) hb⟩, h7⟩, g⟩
theorem bc_A.setN {I I1 : Nat → Nat → Int32} {L : Nat → Nat → Int64} {A : bn_A} {N : bn_N} (h : bc_A I L A) (hok : ba_ok A) (hI : ∀ q, q < 2 ∨ 26 < q → I1 q = I q) (hN : bc_N I1 2 N) : bc_A I1 L (bn_sN A N) := by
  obtain ⟨⟨-, h2, h3, h4, h5, h6, h7⟩, g2, g3, g4, g5, g6⟩ := h
  refine ⟨⟨hN, by rw [hI _ (by omega)]; exact h2, by rw [hI _ (by omega)]; exact h3, by rw [hI _ (by omega)]; exact h4, fun k x hk => ?_, fun k x hk => ?_, fun k x hk => ?_⟩, by rw [hI 0 (by omega)]; exact g2, fun S hS => (g3 S hS).cg (hok.2.1 S hS) (fun q a b => hI q (by omega)), by rw [hI 124 (by omega)]; exact g4, fun k c hk => by rw [hI 125 (by omega)]; exact g5 k c hk, fun t ht => ?_⟩
  · rw [hI (1 + 27) (by omega), hI (1 + 28) (by omega), hI (1 + 29) (by omega)]
    exact h5 k x hk
  · rw [hI (1 + 31) (by omega), hI (1 + 32) (by omega)]
    exact h6 k x hk
  · rw [hI (1 + 35) (by omega), hI (1 + 36) (by omega)]
    exact h7 k x hk
  · rw [hI (144 + 2 * t) (by omega)]
    exact g6 t ht
theorem bm_A.setN {I I1 : Nat → Nat → Int32} {L : Nat → Nat → Int64} {A : bn_A} {N : bn_N} (h : bm_A I L A) (hok : ba_ok A) (h59 : I1 159 = I 159) (h60 : I1 160 = I 160) (h70 : I1 170 = I 170) (h71 : I1 171 = I 171) (h3 : I1 156 3 = I 156 3) (h5 : I1 156 5 = I 156 5) (hr : ∀ k, (2 ≤ k ∧ k < 5) ∨ (23 ≤ k ∧ k < 74) → I1 157 k = I 157 k) (hN : bm_N (I1 157) N) : bm_A I1 L (bn_sN A N) := by
  obtain ⟨⟨-, k2, k3, k4, k5, k6, k7⟩, g2, g3, g4, g5, g6⟩ := h
  obtain ⟨⟨-, o2, o3, o4, -⟩, -⟩ := hok
  refine ⟨⟨hN, by rw [hr 2 (by omega)]; exact k2, by rw [hr 3 (by omega)]; exact k3, by rw [hr 4 (by omega)]; exact k4, fun k x hk => ?_, fun k x hk => ?_, fun k x hk => ?_⟩, by rw [h3]; exact g2, by rw [h59]; exact g3, by rw [h5]; exact g4, by rw [h60]; exact g5, by rw [h70, h71]; exact g6⟩
  · have := bs_get hk
    have : k < 5 := Nat.lt_of_lt_of_le this o2
    rw [hr _ (by omega), hr _ (by omega), hr _ (by omega)]
    exact k5 k x hk
  · have := bs_get hk
    have : k < 10 := Nat.lt_of_lt_of_le this o3
    rw [hr _ (by omega), hr _ (by omega)]
    exact k6 k x hk
  · have := bs_get hk
    have : k < 8 := Nat.lt_of_lt_of_le this o4
    rw [hr _ (by omega), hr _ (by omega)]
    exact k7 k x hk
theorem bn_ok.setW {N : bn_N} {w : Nat} {x : bn_W} (h : bn_ok N) (hw : w < bn_nw N) (hx : bw_ok (bn_nb N) x) : bn_ok (bn_sW N w x) := by
  obtain ⟨h1, h2, h3, h4, h5⟩ := h
  refine ⟨h1, h2, h3, fun v => ?_, fun v hv => ?_⟩
  · by_cases q : v = w
    · subst q; show bw_ok _ (va_up _ v x v); rw [vu_o]; exact hx
    · show bw_ok _ (va_up _ w x v); rw [vu_n q]; exact h4 v
  · show bw_h (va_up _ w x v) = false
    have hv : bn_nw N ≤ v := hv
    rw [vu_n (by omega)]
    exact h5 v hv
theorem bc_N.setW {I I1 : Nat → Nat → Int32} {o w : Nat} {N : bn_N} {x : bn_W} (h : bc_N I o N) (hok : bn_ok N) (hw : w < 8) (hI : ∀ q, q ≠ o + 8 + 1 + 2 * w → q ≠ o + 8 + 1 + 2 * w + 1 → I1 q = I q) (hx : bc_W I1 (o + 8 + 1 + 2 * w) x) : bc_N I1 o (bn_sW N w x) := by
  obtain ⟨h1, h2, h3, h4⟩ := h
  have o1 := hok.1
  refine ⟨by rw [hI o (by omega) (by omega)]; exact h1, by rw [hI o (by omega) (by omega)]; exact h2, fun b hb => ?_, fun v hv => ?_⟩
  · have hb : b < bn_nb N := hb
    rw [hI _ (by omega) (by omega)]
    exact h3 b hb
  · by_cases q : v = w
    · subst q
      show bc_W I1 _ (va_up _ v x v)
      rw [vu_o]
      exact hx
    · show bc_W I1 _ (va_up _ w x v)
      rw [vu_n q]
      exact (h4 v hv).cg (hI _ (by omega) (by omega)) (hI _ (by omega) (by omega))
theorem bm_N.setW {r r1 : Nat → Int32} {w : Nat} {N : bn_N} {x : bn_W} (h : bm_N r N) (hok : bn_ok N) (hr : ∀ k, k < 74 + 105 * w ∨ 74 + 105 * w + 105 ≤ k → r1 k = r k) (hx : bm_W r1 w x) : bm_N r1 (bn_sW N w x) := by
  obtain ⟨h1, h2, h3, h4⟩ := h
  have o1 := hok.1
  refine ⟨by rw [hr 0 (by omega)]; exact h1, by rw [hr 1 (by omega)]; exact h2, fun b hb => ?_, fun v hv => ?_⟩
  · have hb : b < bn_nb N := hb
    rw [hr _ (by omega), hr _ (by omega), hr _ (by omega)]
    exact h3 b hb
  · have hv : v < bn_nw N := hv
    by_cases q : v = w
    · subst q
      show bm_W r1 _ (va_up _ v x v)
      rw [vu_o]
      exact hx
    · show bm_W r1 _ (va_up _ w x v)
      rw [vu_n q]
      exact (h4 v hv).cg (hok.2.2.2.1 v).2.1 (fun k a b => hr k (by omega))
/-! the class's wire: its ring -/
theorem rg_place {o s k : Nat} {I : Nat → Nat → Int32} {L : Nat → Nat → Int64} (hs : s < 99) (hk : k < 99) (h6 : I o 6 = nI s) : f_X10_placeOf o (nI k) I L = some (nI ((s + k) % 99), I, L) := by
  unfold f_X10_placeOf
  rw [h6, nI_add]
  by_cases h : 99 ≤ s + k
  · rw [if_pos (show (99 : Int32) ≤ nI (s + k) from nI_le (a := 99) h (by omega)), show (99 : Int32) = nI 99 from rfl, pk_sub h, show (s + k) % 99 = s + k - 99 by omega]
  · rw [if_neg (show ¬ (99 : Int32) ≤ nI (s + k) from nI_ge (b := 99) (by omega) (by omega)), show (s + k) % 99 = s + k by omega]
abbrev bw_sq (x : bn_W) (q : List Int32) : bn_W := (x.1, x.2.1, x.2.2.1, x.2.2.2.1, x.2.2.2.2.1, q)
theorem rg_append {o : Nat} {I : Nat → Nat → Int32} {L : Nat → Nat → Int64} {x : bn_W} {v : Int32} (h : bc_W I o x) (hl : (bw_q x).length < 99) : ∃ I1, f_X10_append o v I L = some (I1, L) ∧ bc_W I1 o (bw_sq x (bw_q x ++ [v])) ∧ ∀ q, q ≠ o → q ≠ o + 1 → I1 q = I q := by
  obtain ⟨h1, h2, h3, s, hs, h6, h7⟩ := h
  unfold f_X10_append
  rw [h3, if_neg (show ¬ (99 : Int32) ≤ nI (bw_q x).length from nI_ge (b := 99) (by omega) (by omega)), rg_place hs (by omega) h6]
  simp only [Option.bind_some]
  rw [if_pos (bp_ok (by omega) (by omega)), bp_cl (by omega)]
  refine ⟨_, rfl, ⟨fun q => ?_, ?_, ?_, s, hs, ?_, fun i hi => ?_⟩, fun q q1 q2 => ?_⟩
  · rw [bf_u_ni (by omega), bf_u_ni (by omega), bf_u_ni (by omega), bf_u_ni (by omega), bf_u_ne (by omega)]
    exact h1 q
  · rw [bf_u_ni (by omega), bf_u_ne (by omega)]
    exact h2
  · rw [bf_u_at, bf_u_ne (by omega), h3, nI_1]
    show _ = nI (bw_q x ++ [v]).length
    rw [List.length_append]
    rfl
  · rw [bf_u_ni (by omega), bf_u_ne (by omega)]
    exact h6
  · have hi : i < (bw_q x ++ [v]).length := hi
    rw [List.length_append, List.length_singleton] at hi
    show _ = (bw_q x ++ [v]).getD i 0
    rw [bf_u_ne (by omega)]
    by_cases e : i = (bw_q x).length
    · subst e
      rw [bf_u_at, List.getD_eq_getElem?_getD, List.getElem?_append_right (Nat.le_refl _), Nat.sub_self]
      rfl
    · rw [bf_u_ni (by omega), h7 i (by omega), List.getD_eq_getElem?_getD, List.getD_eq_getElem?_getD, List.getElem?_append_left (by omega)]
  · rw [bf_u_ne q1, bf_u_ne q2]
theorem rg_at {o k : Nat} {I : Nat → Nat → Int32} {L : Nat → Nat → Int64} {x : bn_W} (h : bc_W I o x) (hk : k < (bw_q x).length) (hl : (bw_q x).length ≤ 99) : f_X10_tokenAt o (nI k) I L = some ((bw_q x).getD k 0, I, L) := by
  obtain ⟨h1, h2, h3, s, hs, h6, h7⟩ := h
  unfold f_X10_tokenAt f_X10_holds
  rw [if_neg (nI_pos (by omega)), h3, if_neg (nI_ge hk (by omega))]
  simp only [Option.bind_some]
  rw [if_neg bp_10, rg_place hs (by omega) h6]
  simp only [Option.bind_some]
  rw [if_pos (bp_ok (by omega) (by omega)), bp_cl (by omega), h7 k hk]
theorem rg_holds {o : Nat} {a : Int32} {I : Nat → Nat → Int32} {L : Nat → Nat → Int64} {x : bn_W} (h : bc_W I o x) : (∃ k, k < (bw_q x).length ∧ a = nI k ∧ f_X10_holds o a I L = some (1, I, L)) ∨ ((¬ ∃ k, k < (bw_q x).length ∧ a = nI k) ∧ f_X10_holds o a I L = some (0, I, L)) ∨ 99 < (bw_q x).length := by
  by_cases hl : 99 < (bw_q x).length
  · exact Or.inr (Or.inr hl)
  obtain ⟨h1, h2, h3, -⟩ := h
  unfold f_X10_holds
  rw [h3]
  by_cases h0 : a < 0
  · refine Or.inr (Or.inl ⟨?_, if_pos h0⟩)
    rintro ⟨k, hk, rfl⟩
    exact nI_pos (by omega) h0
  · by_cases h1 : nI (bw_q x).length ≤ a
    · refine Or.inr (Or.inl ⟨?_, by rw [if_neg h0, if_pos h1]⟩)
      rintro ⟨k, hk, rfl⟩
      exact nI_ge hk (by omega) h1
    · obtain ⟨k, hk, rfl⟩ := bp_rng (by omega) h0 (Int32.not_le.mp h1)
      exact Or.inl ⟨k, hk, rfl, by rw [if_neg h0, if_neg h1]⟩
theorem rg_take {o : Nat} {I : Nat → Nat → Int32} {L : Nat → Nat → Int64} {x : bn_W} {v : Int32} {t : List Int32} (h : bc_W I o x) (hx : bw_q x = v :: t) (hl : (bw_q x).length ≤ 99) : ∃ I1, f_X10_takeEarliest o I L = some (v, I1, L) ∧ bc_W I1 o (bw_sq x t) ∧ ∀ q, q ≠ o → I1 q = I q := by
  obtain ⟨h1, h2, h3, s, hs, h6, h7⟩ := h
  rw [hx] at h3 h7 hl
  rw [List.length_cons] at h3 hl
  unfold f_X10_takeEarliest
  rw [h3, if_neg (nI_ne0 (by omega) (by omega)), h6, if_pos (bp_ok hs (by omega)), show (1 : Int32) = nI 1 from rfl, rg_place hs (by omega) h6, bp_cl (by omega)]
  have hv : I (o + 1) s = v := by
    have := h7 0 (by simp)
    rw [show (s + 0) % 99 = s by omega] at this
    exact this
  simp only [Option.bind_some]
  rw [hv]
  refine ⟨_, rfl, ⟨fun q => ?_, ?_, ?_, (s + 1) % 99, by omega, ?_, fun i hi => ?_⟩, fun q q1 => ?_⟩
  · rw [bf_u_ni (by omega), bf_u_ni (by omega), bf_u_ni (by omega), bf_u_ni (by omega), bf_u_ni (by omega), bf_u_ni (by omega), bf_u_ni (by omega), bf_u_ni (by omega)]
    exact h1 q
  · rw [bf_u_ni (by omega), bf_u_ni (by omega)]
    exact h2
  · rw [bf_u_at, bf_u_ni (by omega), h3, show (nI 1) = 1 from rfl, nI_pred]
  · rw [bf_u_ni (by omega), bf_u_at]
  · have hi : i < t.length := hi
    show _ = t.getD i 0
    rw [bf_u_ne (by omega), bf_u_ne (by omega), show ((s + 1) % 99 + i) % 99 = (s + (i + 1)) % 99 by omega, h7 (i + 1) (by simp; omega)]
    rfl
  · rw [bf_u_ne q1, bf_u_ne q1]
