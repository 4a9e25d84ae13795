section OPU
abbrev bn_sV (N : bn_N) (b : Nat) (v : Int32) : bn_N := fr_bm N b ((bn_bx N b).1, v, (bn_bx N b).2.2)
theorem bn_sV_ok {N : bn_N} (h : bn_ok N) {b : Nat} {v : Int32} : bn_ok (bn_sV N b v) := by
  obtain ⟨h1, h2, h3, h4, h5⟩ := h
  refine ⟨h1, h2, fun c hc => ?_, h4, h5⟩
  show (va_up N.2.1 b _ c).1 ≤ 4
  by_cases e : c = b
  · subst e
    rw [vu_o]
    exact h3 c hc
  · rw [vu_n e]
    exact h3 c hc
theorem bc_N.setV {I : Nat → Nat → Int32} {o b : Nat} {N : bn_N} {v : Int32} (h : bc_N I o N) (hok : bn_ok N) (hb : b < bn_nb N) : bc_N (bf_u I (o + 1 + 1 + b) 1 v) o (bn_sV N b v) := by
  obtain ⟨h1, h2, h3, h4⟩ := h
  have o1 := hok.1
  refine ⟨by rw [bf_u_ne (by omega)]; exact h1, by rw [bf_u_ne (by omega)]; exact h2, fun c hc => ?_, fun w hw => (h4 w hw).cg (bf_u_ne (by omega)) (bf_u_ne (by omega))⟩
  have hc : c < bn_nb N := hc
  show _ = nI (va_up N.2.1 b _ c).1 ∧ _ = (va_up N.2.1 b _ c).2.1 ∧ _ = (va_up N.2.1 b _ c).2.2
  by_cases e : c = b
  · subst e
    rw [vu_o, bf_u_ni (by omega), bf_u_at, bf_u_ni (by omega)]
    exact ⟨(h3 c hc).1, rfl, (h3 c hc).2.2⟩
  · rw [vu_n e, bf_u_ne (by omega)]
    exact h3 c hc
theorem bm_N.setV {r r2 : Nat → Int32} {b : Nat} {N : bn_N} {v : Int32} (h : bm_N r N) (hok : bn_ok N) (hb : b < bn_nb N) (hv : r2 (5 + 3 * b + 1) = v) (hr : ∀ k, k < 914 → k ≠ 5 + 3 * b + 1 → r2 k = r k) : bm_N r2 (bn_sV N b v) := by
  obtain ⟨h1, h2, h3, h4⟩ := h
  have o1 := hok.1
  have o2 := hok.2.1
  refine ⟨by rw [hr 0 (by omega) (by omega)]; exact h1, by rw [hr 1 (by omega) (by omega)]; exact h2, fun c hc => ?_, fun w hw => ?_⟩
  · have hc : c < bn_nb N := hc
    show _ = nI (va_up N.2.1 b _ c).1 ∧ _ = (va_up N.2.1 b _ c).2.1 ∧ _ = (va_up N.2.1 b _ c).2.2
    by_cases e : c = b
    · subst e
      rw [vu_o, hr _ (by omega) (by omega), hv, hr (5 + 3 * c + 2) (by omega) (by omega)]
      exact ⟨(h3 c hc).1, rfl, (h3 c hc).2.2⟩
    · rw [vu_n e, hr _ (by omega) (by omega), hr _ (by omega) (by omega), hr _ (by omega) (by omega)]
      exact h3 c hc
  · have hw : w < bn_nw N := hw
    exact (h4 w hw).cg (hok.2.2.2.1 w).2.1 (fun k a1 a2 => hr k (by omega) (by omega))
/-! plans -/
abbrev bn_we (N : bn_N) (w : Nat) : bn_N := bn_sW N w (bw_sq (bn_wr N w) [])
def pl_st (N : bn_N) (x : Nat × Nat) (M : bn_N) : Prop := (x.1 = 0 ∧ M = (if bn_can N x.2 then bn_fire N x.2 else N)) ∨ (x.1 = 1 ∧ M = (if bw_h (bn_wr N x.2) = true then bn_we N x.2 else N)) ∨ (x.1 = 2 ∧ M = bn_sV N x.2 0) ∨ (x.1 = 3 ∧ ∃ m, pd_gr N 1 m M)
def pl_al : List (Nat × Nat) → bn_N → bn_N → Prop
  | [], N, M => M = N
  | x :: l, N, M => ∃ P, pl_st N x P ∧ pl_al l P M
abbrev pl_k (N : bn_N) (x : Nat × Nat) : Prop := x.1 ≤ 3 ∧ x.2 < 8 ∧ ((x.1 = 0 ∨ x.1 = 2) → x.2 < bn_nb N)
theorem bn_w8 {N : bn_N} (hok : bn_ok N) {w : Nat} (h : bw_h (bn_wr N w) = true) : w < bn_nw N := by
  refine Nat.lt_of_not_le (fun q => ?_)
  rw [hok.2.2.2.2 w q] at h
  exact absurd h (by decide)
theorem pl_ok {N M : bn_N} {x : Nat × Nat} (hok : bn_ok N) (hk : pl_k N x) (h : pl_st N x M) : bn_ok M ∧ bn_nb M = bn_nb N := by
  rcases h with ⟨h1, rfl⟩ | ⟨h1, rfl⟩ | ⟨h1, rfl⟩ | ⟨h1, m, h2⟩
  · by_cases q : bn_can N x.2
    · rw [if_pos q]
      exact ⟨bn_fire_ok hok (hk.2.2 (Or.inl h1)) q, rfl⟩
    · rw [if_neg q]
      exact ⟨hok, rfl⟩
  · by_cases q : bw_h (bn_wr N x.2) = true
    · rw [if_pos q]
      exact ⟨hok.setW (bn_w8 hok q) ((hok.2.2.2.1 x.2).sq (Nat.zero_le _) q), rfl⟩
    · rw [if_neg q]
      exact ⟨hok, rfl⟩
  · exact ⟨bn_sV_ok hok, rfl⟩
  · obtain ⟨a, b, -⟩ := h2.ok hok
    exact ⟨a, b.1⟩
variable {L : Nat → Nat → Int64}
theorem cl_row {I : Nat → Nat → Int32} {N : bn_N} {x : Nat × Nat} (hok : bn_ok N) (hk : pl_k N x) (hN : bc_N I 77 N) : ∃ I1 M, f_X11_playRow 0 (nI x.1) (nI x.2) I L = some (I1, L) ∧ pl_st N x M ∧ bc_N I1 77 M ∧ ∀ q, q < 77 ∨ 109 < q → I1 q = I q := by
  obtain ⟨k1, k2, k3⟩ := hk
  have o1 := hok.1
  unfold f_X11_playRow
  simp only [Nat.reduceAdd, Nat.zero_add]
  have e3 : (nI x.1 = (3 : Int32)) = (x.1 = 3) := bp_eq (b := 3) (by omega) (by omega)
  have e1 : (nI x.1 = (1 : Int32)) = (x.1 = 1) := bp_eq (b := 1) (by omega) (by omega)
  have e2 : (nI x.1 = (2 : Int32)) = (x.1 = 2) := bp_eq (b := 2) (by omega) (by omega)
  simp only [e3, e1]
  by_cases h3 : x.1 = 3
  · rw [if_pos h3]
    obtain ⟨I1, I2, m, M, g1, g2, g3, g4, g5, -, -⟩ := cl_goesOn (L := L) (a := 77) (n := 1) hok (by omega) (by omega) hN
    rw [g1]
    simp only [Option.bind_some]
    rw [show (1 : Int32) = nI 1 from rfl, g2]
    exact ⟨I2, M, rfl, Or.inr (Or.inr (Or.inr ⟨h3, m, g3⟩)), g4, fun q hq => g5 q (by omega)⟩
  · rw [if_neg h3]
    by_cases h1 : x.1 = 1
    · rw [if_pos h1, cc_hasWn hN k2]
      simp only [Option.bind_some]
      by_cases hh : bw_h (bn_wr N x.2) = true
      · rw [if_pos hh, if_neg bp_10, if_pos (bp_ok k2 (by omega)), bp_cl (by omega)]
        unfold f_X10_clear
        rw [Option.bind_some]
        refine ⟨bf_u (bf_u I (86 + 2 * x.2) 5 0) (86 + 2 * x.2) 6 0, bn_we N x.2, rfl, Or.inr (Or.inl ⟨h1, (if_pos hh).symm⟩), ?_, fun q hq => by rw [bf_u_ne (by omega), bf_u_ne (by omega)]⟩
        have hW := hN.2.2.2 x.2 k2
        refine hN.setW hok k2 (fun q z1 z2 => by rw [bf_u_ne (by omega), bf_u_ne (by omega)]) ⟨fun q => ?_, ?_, ?_, 0, by omega, ?_, fun i hi => absurd hi (Nat.not_lt_zero _)⟩
        · show bf_u (bf_u I (86 + 2 * x.2) 5 0) (86 + 2 * x.2) 6 0 (86 + 2 * x.2) 0 = _ ∧ bf_u (bf_u I (86 + 2 * x.2) 5 0) (86 + 2 * x.2) 6 0 (86 + 2 * x.2) 1 = _ ∧ bf_u (bf_u I (86 + 2 * x.2) 5 0) (86 + 2 * x.2) 6 0 (86 + 2 * x.2) 2 = _ ∧ bf_u (bf_u I (86 + 2 * x.2) 5 0) (86 + 2 * x.2) 6 0 (86 + 2 * x.2) 3 = _
          simp (disch := omega) only [bf_u_ni]
          exact hW.1 hh
        · show bf_u (bf_u I (86 + 2 * x.2) 5 0) (86 + 2 * x.2) 6 0 (86 + 2 * x.2) 4 = _
          simp (disch := omega) only [bf_u_ni]
          exact hW.2.1
        · show bf_u (bf_u I (86 + 2 * x.2) 5 0) (86 + 2 * x.2) 6 0 (86 + 2 * x.2) 5 = _
          simp (disch := omega) only [bf_u_ni, bf_u_at]
          rfl
        · show bf_u (bf_u I (86 + 2 * x.2) 5 0) (86 + 2 * x.2) 6 0 (86 + 2 * x.2) 6 = _
          rw [bf_u_at]
          rfl
      · rw [if_neg hh, if_pos rfl]
        exact ⟨I, N, rfl, Or.inr (Or.inl ⟨h1, (if_neg hh).symm⟩), hN, fun _ _ => rfl⟩
    · have hb : x.2 < bn_nb N := k3 (by omega)
      rw [if_neg h1, cc_hasBox_t hok hN hb]
      simp only [Option.bind_some]
      rw [if_neg bp_10]
      unfold f_X11_playBoxRow
      simp only [Nat.reduceAdd, Nat.zero_add, e2]
      by_cases h2 : x.1 = 2
      · rw [if_pos h2, if_pos (bp_ok (by omega) (by omega)), bp_cl (by omega)]
        exact ⟨_, bn_sV N x.2 0, rfl, Or.inr (Or.inr (Or.inl ⟨h2, rfl⟩)), hN.setV hok hb, fun q hq => bf_u_ne (by omega)⟩
      · have h0 : x.1 = 0 := by omega
        obtain ⟨I1, g1, g2⟩ := cl_can (L := L) (c := 102) (o := 77) (b := x.2) (by omega) hok hN (by omega)
        have hN1 : bc_N I1 77 N := hN.cg (fun q z1 z2 => g2 q (by omega)) hok
        rw [if_neg h2, g1]
        simp only [Option.bind_some]
        by_cases hc : bn_can N x.2
        · obtain ⟨I2, m1, m2, m3⟩ := cl_fire (L := L) hok hN1 hb hc
          rw [if_pos hc, if_neg bp_10, m1]
          exact ⟨I2, bn_fire N x.2, rfl, Or.inl ⟨h0, (if_pos hc).symm⟩, m2, fun q hq => by rw [m3 q (by omega), g2 q (by omega)]⟩
        · rw [if_neg hc, if_pos rfl]
          exact ⟨I1, N, rfl, Or.inl ⟨h0, (if_neg hc).symm⟩, hN1, fun q hq => g2 q (by omega)⟩
theorem ml_row {I : Nat → Nat → Int32} {N M : bn_N} {x : Nat × Nat} {z : Int32} (hok : bn_ok N) (hk : pl_k N x) (hz : x.1 ≠ 3 → z = nI x.2) (hS : pl_st N x M) (hN : bm_N (I 157) N) : ∃ I1 L1, f_X12_planGoes 156 (nI x.1) z I L = some (I1, L1) ∧ mq_F I I1 L L1 ∧ bm_N (I1 157) M ∧ I1 169 = I 169 := by
  obtain ⟨k1, k2, k3⟩ := hk
  have o1 := hok.1
  have o2 := hok.2.1
  unfold f_X12_planGoes
  have e0 : (nI x.1 = (0 : Int32)) = (x.1 = 0) := bp_eq (b := 0) (by omega) (by omega)
  have e3 : (nI x.1 = (3 : Int32)) = (x.1 = 3) := bp_eq (b := 3) (by omega) (by omega)
  have e1 : (nI x.1 = (1 : Int32)) = (x.1 = 1) := bp_eq (b := 1) (by omega) (by omega)
  have e2 : (nI x.1 = (2 : Int32)) = (x.1 = 2) := bp_eq (b := 2) (by omega) (by omega)
  simp only [e0, e1]
  rcases hS with ⟨h0, rfl⟩ | ⟨h1, rfl⟩ | ⟨h2, rfl⟩ | ⟨h3, m, hG⟩
  · have hb : x.2 < bn_nb N := k3 (Or.inl h0)
    rw [if_pos h0, hz (by omega), ml_canFire hok hN (by omega)]
    simp only [Option.bind_some]
    by_cases hc : bn_can N x.2
    · obtain ⟨I1, g1, g2, g3, g4, g5⟩ := ml_fires (L := L) (o := 156) hok hN hb hc
      rw [if_pos hc, if_neg bp_10, g1, if_pos hc]
      exact ⟨I1, L, rfl, ⟨fun q hq => g3 q (by omega) (by omega), g3 _ (by omega) (by omega), g3 _ (by omega) (by omega), g3 _ (by omega) (by omega), g3 _ (by omega) (by omega), g4 3 (by omega), g4 5 (by omega), fun _ _ _ => rfl, fun p hp => g5 p (by omega)⟩, g2, g3 _ (by omega) (by omega)⟩
    · rw [if_neg hc, if_pos rfl, if_neg hc]
      exact ⟨I, L, rfl, mq_F.rf, hN, rfl⟩
  · rw [if_neg (by omega), if_pos h1, hz (by omega), mm_isWn hok hN k2]
    simp only [Option.bind_some]
    by_cases hh : bw_h (bn_wr N x.2) = true
    · rw [if_pos hh, if_neg bp_10, bp_ix, bp_p5, if_pos (bp_ok (by omega) (by omega)), bp_cl (by omega), if_pos hh]
      have hx := hN.2.2.2 x.2 (bn_w8 hok hh)
      refine ⟨_, L, rfl, ⟨fun q hq => bf_u_ne (by omega), bf_u_ne (by omega), bf_u_ne (by omega), bf_u_ne (by omega), bf_u_ne (by omega), by rw [bf_u_ne (by omega)], by rw [bf_u_ne (by omega)], fun _ _ _ => rfl, fun p hp => bf_u_ni (by omega)⟩, ?_, bf_u_ne (by omega)⟩
      refine hN.setW hok (fun k hk => bf_u_ni (by omega)) ⟨fun q => ?_, ?_, ?_, fun i hi => absurd hi (Nat.not_lt_zero _)⟩
      · rw [bf_u_ni (by omega), bf_u_ni (by omega), bf_u_ni (by omega), bf_u_ni (by omega)]
        exact hx.1 hh
      · rw [bf_u_ni (by omega)]
        exact hx.2.1
      · rw [bf_u_at]
        rfl
    · rw [if_neg hh, if_pos rfl, if_neg hh]
      unfold f_X12_planGoes_p56
      simp only [e2, e3]
      rw [if_neg (by omega), if_neg (by omega)]
      exact ⟨I, L, rfl, mq_F.rf, hN, rfl⟩
  · have hb : x.2 < bn_nb N := k3 (Or.inr h2)
    rw [if_neg (by omega), if_neg (by omega), hz (by omega)]
    unfold f_X12_planGoes_p56
    simp only [e2, e3]
    rw [if_pos h2, bp_ib, bp_p1, if_pos (bp_ok (by omega) (by omega)), bp_cl (by omega)]
    exact ⟨_, L, rfl, ⟨fun q hq => bf_u_ne (by omega), bf_u_ne (by omega), bf_u_ne (by omega), bf_u_ne (by omega), bf_u_ne (by omega), by rw [bf_u_ne (by omega)], by rw [bf_u_ne (by omega)], fun _ _ _ => rfl, fun p hp => bf_u_ni (by omega)⟩, hN.setV hok hb bf_u_at (fun k _ hk => bf_u_ni hk), bf_u_ne (by omega)⟩
  · rw [if_neg (by omega), if_neg (by omega)]
    unfold f_X12_planGoes_p56
    simp only [e2, e3]
    rw [if_neg (by omega), if_pos h3]
    rcases hG with ⟨h1, rfl, rfl⟩ | ⟨t, h1, h2⟩
    · obtain ⟨I2, L2, g1, g2, g3⟩ := ml_evenF (L := L) hok hN h1
      rw [g1]
      simp only [Option.bind_some, if_true]
      exact ⟨I2, L2, rfl, g2, by rw [g3 _ (by omega)]; exact hN, g3 _ (by omega)⟩
    · obtain ⟨I2, L2, g1, g2, g3, g4⟩ := ml_evenT (L := L) hok hN h1
      have hN2 : bm_N (I2 157) N := by rw [g3 _ (by omega)]; exact hN
      rw [g1]
      simp only [Option.bind_some]
      rw [if_neg bp_10, show (1 : Int32) = nI 1 from rfl]
      rcases h2 with ⟨q1, rfl, rfl⟩ | ⟨q1, rfl, rfl⟩
      · obtain ⟨I3, n1, n2, n3, n4⟩ := ml_perN (L := L2) (m := 1) hok h1.y (by omega) q1 hN2 g4
        rw [n1]
        exact ⟨I3, L2, rfl, g2.tr n2, hN2.cg hok (fun k hk => n3 k hk.2), by rw [n4, g3 _ (by omega)]⟩
      · obtain ⟨I3, n1, n2, n3, n4⟩ := ml_perT (L := L2) (m := 1) hok h1 q1 (by omega) hN2 g4
        rw [n1]
        exact ⟨I3, L2, rfl, g2.tr n2, n3, by rw [n4, g3 _ (by omega)]⟩
theorem lk32 : bf_le 32 = 10 := by decide +kernel
theorem lk33 : bf_le 33 = 10 := by decide +kernel
theorem pl_kn {N M : bn_N} {x : Nat × Nat} (h : pl_k N x) (e : bn_nb M = bn_nb N) : pl_k M x := ⟨h.1, h.2.1, fun q => by rw [e]; exact h.2.2 q⟩
theorem cl_ends29 {v : Int32} {P : List (Nat × Nat)} (hP : P.length ≤ 10) (K : (Nat → Nat → Int32) → (Nat → Nat → Int64) → Option (Int32 × bf_St)) : ∀ (l : List (Nat × Nat)) (n k : Nat) (N : bn_N) (I : Nat → Nat → Int32), P.drop k = l → k + l.length = P.length → l.length < n → bn_ok N → (∀ x ∈ P, pl_k N x) → bc_N I 77 N → I 31 0 = nI P.length → (∀ k x, P[k]? = some x → I 32 k = nI x.1 ∧ I 33 k = nI x.2) → ∃ I1 M, f_X11_ends_29 0 v K n (nI k) I L = K I1 L ∧ pl_al l N M ∧ bn_ok M ∧ bc_N I1 77 M ∧ ∀ q, q < 77 ∨ 109 < q → I1 q = I q
  | l, 0, k, N, I, h1, h2, h3, hok, hx, hN, hl, hr => by omega
  | [], n + 1, k, N, I, h1, h2, h3, hok, hx, hN, hl, hr => by
    rw [List.length_nil] at h2
    rw [f_X11_ends_29]
    simp only [Nat.reduceAdd, Nat.zero_add]
    rw [hl, if_pos (nI_le (by omega) (by omega))]
    exact ⟨I, N, rfl, rfl, hok, hN, fun _ _ => rfl⟩
  | x :: l, n + 1, k, N, I, h1, h2, h3, hok, hx, hN, hl, hr => by
    rw [List.length_cons] at h2 h3
    have hk : k < P.length := by omega
    obtain ⟨y, y1, y2, y3⟩ := bl_drop hk
    rw [h1] at y3
    obtain ⟨rfl, e2⟩ := List.cons.inj y3
    obtain ⟨r1, r2⟩ := hr k x y1
    have hkx := hx x y2
    rw [f_X11_ends_29]
    simp only [Nat.reduceAdd, Nat.zero_add]
    rw [hl, if_neg (nI_ge (by omega) (by omega)), lk32, lk33, if_pos (bp_ok (by omega) (by omega)), if_pos (bp_ok (by omega) (by omega)), bp_cl (by omega), r1, r2, bp_p1]
    obtain ⟨I1, M, g1, g2, g3, g4⟩ := cl_row (L := L) hok hkx hN
    rw [g1]
    simp only [Option.bind_some]
    obtain ⟨okM, nbM⟩ := pl_ok hok hkx g2
    obtain ⟨I2, M2, m1, m2, m3, m4, m5⟩ := cl_ends29 (v := v) hP K l n (k + 1) M I1 e2.symm (by omega) (by omega) okM (fun z hz => pl_kn (hx z hz) nbM) g3 (by rw [g4 31 (by omega)]; exact hl) (fun k x hkx => by rw [g4 32 (by omega), g4 33 (by omega)]; exact hr k x hkx)
    exact ⟨I2, M2, m1, ⟨M, g2, m2⟩, m3, m4, fun q hq => (m5 q hq).trans (g4 q hq)⟩
theorem ml_ends27 {v : Int32} {P : List (Nat × Nat)} (hP : P.length ≤ 10) (K : (Nat → Nat → Int32) → (Nat → Nat → Int64) → Option (Int32 × bf_St)) : ∀ (l : List (Nat × Nat)) (n k : Nat) (N M : bn_N) (I : Nat → Nat → Int32) (L : Nat → Nat → Int64), P.drop k = l → k + l.length = P.length → l.length < n → bn_ok N → (∀ x ∈ P, pl_k N x) → bm_N (I 157) N → I 157 3 = nI P.length → (∀ k x, P[k]? = some x → I 157 (38 + 2 * k) = nI x.1 ∧ (x.1 ≠ 3 → I 157 (38 + 2 * k + 1) = nI x.2)) → pl_al l N M → ∃ I1 L1, f_X12_ends_27 156 v K n (nI k) I L = K I1 L1 ∧ mq_F I I1 L L1 ∧ bn_ok M ∧ bm_N (I1 157) M ∧ I1 169 = I 169
  | l, 0, k, N, M, I, L, h1, h2, h3, hok, hx, hN, hl, hr, hA => by omega
  | [], n + 1, k, N, M, I, L, h1, h2, h3, hok, hx, hN, hl, hr, hA => by
    rw [List.length_nil] at h2
    have hA : M = N := hA
    subst hA
    rw [f_X12_ends_27, bp_3, show I (156 + 1) 3 = _ from hl, if_pos (nI_le (by omega) (by omega))]
    exact ⟨I, L, rfl, mq_F.rf, hok, hN, rfl⟩
  | x :: l, n + 1, k, N, M, I, L, h1, h2, h3, hok, hx, hN, hl, hr, hA => by
    rw [List.length_cons] at h2 h3
    have hk : k < P.length := by omega
    obtain ⟨y, y1, y2, y3⟩ := bl_drop hk
    rw [h1] at y3
    obtain ⟨rfl, e2⟩ := List.cons.inj y3
    obtain ⟨r1, r2⟩ := hr k x y1
    have hkx := hx x y2
    obtain ⟨Q, hQ, hA2⟩ := hA
    rw [f_X12_ends_27, bp_3, show I (156 + 1) 3 = _ from hl, if_neg (nI_ge (by omega) (by omega)), show (38 : Int32) + (2 : Int32) * nI k = nI (38 + 2 * k) by rw [show (38 : Int32) = nI 38 from rfl, show (2 : Int32) = nI 2 from rfl, pk_mul, nI_add], bp_p1, if_pos (bp_ok (by omega) (by omega)), if_pos (bp_ok (by omega) (by omega)), bp_cl (by omega), bp_cl (by omega), show I (156 + 1) (38 + 2 * k) = _ from r1, bp_p1]
    obtain ⟨I1, L1, g1, g2, g3, g4⟩ := ml_row (L := L) (z := I (156 + 1) (38 + 2 * k + 1)) hok hkx r2 hQ hN
    rw [g1]
    simp only [Option.bind_some]
    obtain ⟨okM, nbM⟩ := pl_ok hok hkx hQ
    obtain ⟨I2, L2, m1, m2, m3, m4, m5⟩ := ml_ends27 (v := v) hP K l n (k + 1) Q M I1 L1 e2.symm (by omega) (by omega) okM (fun z hz => pl_kn (hx z hz) nbM) g3 (by rw [g2.2.2.2.2.2.2.2.2 3 (by omega)]; exact hl) (fun k x hkx => by
      have := bs_get hkx
      rw [g2.2.2.2.2.2.2.2.2 (38 + 2 * k) (by omega), g2.2.2.2.2.2.2.2.2 (38 + 2 * k + 1) (by omega)]
      exact hr k x hkx) hA2
    exact ⟨I2, L2, m1, g2.tr m2, m3, m4, m5.trans g4⟩
abbrev bt_si (q : List Int32) (s : Int32) : Int32 := q.foldl (fun s x => s + x) s
def bn_vi (N : bn_N) : Int32 := bfold (fun w s => bt_si (bw_q (bn_wr N w)) s) 8 0 0
theorem bt_sli : ∀ (q : List Int32) (s : Int64), (bt_sl q s).toInt32 = bt_si q s.toInt32
  | [], _ => rfl
  | x :: q, s => by
    show (bt_sl q (s + x.toInt64)).toInt32 = bt_si q (s.toInt32 + x)
    rw [bt_sli q, lg_l2i_add, lg_l2i_i2l]
theorem bn_vti {N : bn_N} : ∀ (k w : Nat) (s : Int64), (bfold (fun w s => bt_sl (bw_q (bn_wr N w)) s) k w s).toInt32 = bfold (fun w s => bt_si (bw_q (bn_wr N w)) s) k w s.toInt32
  | 0, _, _ => rfl
  | k + 1, w, s => by
    show (bfold _ k (w + 1) (bt_sl (bw_q (bn_wr N w)) s)).toInt32 = bfold _ k (w + 1) (bt_si (bw_q (bn_wr N w)) s.toInt32)
    rw [bn_vti k (w + 1), bt_sli]
theorem ml_ends88 {I : Nat → Nat → Int32} {o w : Nat} {a : Int32} {N : bn_N} (hok : bn_ok N) (hN : bm_N (I (o + 1)) N) (hw : w < bn_nw N) (K : Int32 → (Nat → Nat → Int32) → (Nat → Nat → Int64) → Option (Int32 × bf_St)) : ∀ (n k : Nat) (s : Int32), k ≤ (bw_q (bn_wr N w)).length → (bw_q (bn_wr N w)).length < k + n → f_X12_ends_88 o a (nI w) K n s (nI k) I L = K (bt_si ((bw_q (bn_wr N w)).drop k) s) I L
  | 0, k, s, h1, h2 => by omega
  | n + 1, k, s, h1, h2 => by
    have o2 := hok.2.1
    have hx := hN.2.2.2 w hw
    have hl := (hok.2.2.2.1 w).2.1
    rw [f_X12_ends_88, mm_isWn hok hN (by omega)]
    simp only [Option.bind_some]
    by_cases hh : bw_h (bn_wr N w) = true
    · rw [if_pos hh, if_neg bp_10, me_tokens (by omega), hx.2.2.1]
      simp only [Option.bind_some]
      by_cases hk : k = (bw_q (bn_wr N w)).length
      · rw [if_pos (nI_le (by omega) (by omega)), List.drop_eq_nil_of_le (by omega)]
        rfl
      · rw [if_neg (nI_ge (by omega) (by omega)), bp_ix, bp_p6, nI_add, if_pos (bp_ok (by omega) (by omega)), bp_cl (by omega), hx.2.2.2 k (by omega), bp_p1, ml_ends88 hok hN hw K n (k + 1) _ (by omega) (by omega), bl_dropD (show k < (bw_q (bn_wr N w)).length by omega)]
        rfl
    · have := bn_q0 hok hh
      have : (bw_q (bn_wr N w)).length = 0 := this
      rw [if_neg hh, if_pos rfl, List.drop_eq_nil_of_le (by omega)]
      rfl
theorem ml_ends75 {I : Nat → Nat → Int32} {o : Nat} {a : Int32} {N : bn_N} (hok : bn_ok N) (hN : bm_N (I (o + 1)) N) (K : Int32 → (Nat → Nat → Int32) → (Nat → Nat → Int64) → Option (Int32 × bf_St)) : ∀ (n w : Nat) (s : Int32), w ≤ bn_nw N → bn_nw N < w + n → f_X12_ends_75 o a K n s (nI w) I L = K (bfold (fun w s => bt_si (bw_q (bn_wr N w)) s) (bn_nw N - w) w s) I L
  | 0, w, s, h1, h2 => by omega
  | n + 1, w, s, h1, h2 => by
    have o2 := hok.2.1
    rw [f_X12_ends_75, bp_1, hN.2.1]
    by_cases h8 : w = bn_nw N
    · rw [if_pos (nI_le (by omega) (by omega)), show bn_nw N - w = 0 by omega]
      rfl
    · have hl := (hok.2.2.2.1 w).2.1
      rw [if_neg (nI_ge (by omega) (by omega)), bp_p1, show (0 : Int32) = nI 0 from rfl, ml_ends88 hok hN (by omega) _ 400 0 s (by omega) (by omega), ml_ends75 hok hN K n (w + 1) _ (by omega) (by omega), show bn_nw N - w = (bn_nw N - (w + 1)) + 1 by omega, List.drop_zero]
      rfl
theorem bn_vi8 {N : bn_N} (hok : bn_ok N) : bn_vi N = bfold (fun w s => bt_si (bw_q (bn_wr N w)) s) (bn_nw N - 0) 0 0 := bfold_id (m := bn_nw N) (fun v a hv => by
    have : (bw_q (bn_wr N v)).length = 0 := bn_qn hok hv
    show bt_si (bw_q (bn_wr N v)) a = a
    rw [List.eq_nil_of_length_eq_zero this]
    rfl) 8 0 0 (by have := hok.2.1; omega)
end OPU
