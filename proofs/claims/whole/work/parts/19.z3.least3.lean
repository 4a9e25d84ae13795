section LS3
variable {L : Nat → Nat → Int64}
/-- counts alone change -/
theorem ml_cnt {r r1 : Nat → Int32} {M : bn_N} {w c : Nat} (hok : bn_ok M) (hN : bm_N r M) (hw : w < bn_nw M) (hc : c ≤ 99) (h0 : ¬ bw_h (bn_wr M w) = true → c = 0) (h5 : r1 (74 + 105 * w + 5) = nI c) (hr : ∀ k, k ≠ 74 + 105 * w + 5 → r1 k = r k) : ∃ M1, bm_N r1 M1 ∧ bn_ok M1 ∧ bn_sta M M1 ∧ ∀ v, bn_q M1 v = if v = w then c else bn_q M v := by
  obtain ⟨ls, hls⟩ : ∃ ls : List Int32, ls = (List.range c).map (fun i => r (74 + 105 * w + 6 + i)) := ⟨_, rfl⟩
  have len : ls.length = c := by rw [hls, List.length_map, List.length_range]
  have hx := hN.2.2.2 w hw
  have hwo : bw_ok (bn_nb M) (bw_sq (bn_wr M w) ls) := by
    obtain ⟨a1, a2, a3⟩ := hok.2.2.2.1 w
    refine ⟨a1, by show ls.length ≤ 99; omega, fun z => ?_⟩
    have : ls.length = 0 := by rw [len]; exact h0 (by
      show ¬ bw_h (bn_wr M w) = true
      have z : bw_h (bn_wr M w) = false := z
      rw [z]; decide)
    exact List.eq_nil_of_length_eq_zero this
  refine ⟨bn_sW M w (bw_sq (bn_wr M w) ls), hN.setW hok (fun k hk => hr k (by omega)) ⟨fun z => ?_, ?_, ?_, fun i hi => ?_⟩, hok.setW hw hwo, ⟨rfl, rfl, fun v => ?_⟩, fun v => ?_⟩
  · rw [hr _ (by omega), hr _ (by omega), hr _ (by omega), hr _ (by omega)]
    exact hx.1 z
  · rw [hr _ (by omega)]
    exact hx.2.1
  · rw [h5]
    show nI c = nI ls.length
    rw [len]
  · have hi : i < ls.length := hi
    rw [hr _ (by omega)]
    show _ = ls.getD i 0
    rw [List.getD_eq_getElem?_getD, hls, List.getElem?_map, List.getElem?_range (by omega)]
    rfl
  · by_cases e : v = w
    · subst e
      show va_up _ v _ v = bw_sq _ (bw_q (va_up _ v _ v))
      rw [vu_o]
    · show va_up _ w _ v = bw_sq _ (bw_q (va_up _ w _ v))
      rw [vu_n e]
  · by_cases e : v = w
    · subst e
      rw [if_pos rfl]
      show (bw_q (va_up _ v _ v)).length = c
      rw [vu_o]
      exact len
    · rw [if_neg e]
      show (bw_q (va_up _ w _ v)).length = _
      rw [vu_n e]
/-- the row, by its counts -/
def tr_N (r : Nat → Int32) (N0 : bn_N) (q : Nat → Nat) : Prop := ∃ M, bm_N r M ∧ bn_ok M ∧ bn_sta N0 M ∧ ∀ v, v < 8 → bn_q M v = q v
theorem tr_N.b {r : Nat → Int32} {N0 : bn_N} {q : Nat → Nat} (h : tr_N r N0 q) : ∀ v, v < 8 → q v ≤ 99 := by
  obtain ⟨M, -, hok, -, hq⟩ := h
  intro v hv
  rw [← hq v hv]
  exact (hok.2.2.2.1 v).2.1
theorem tr_N.z {r : Nat → Int32} {N0 : bn_N} {q : Nat → Nat} (h : tr_N r N0 q) : ∀ v, v < 8 → ¬ bw_h (bn_wr N0 v) = true → q v = 0 := by
  obtain ⟨M, -, hok, hs, hq⟩ := h
  intro v hv hh
  rw [← hq v hv]
  exact bn_q0 hok (by rw [hs.2.2 v]; exact hh)
theorem tr_N.t {r : Nat → Int32} {N0 : bn_N} {q : Nat → Nat} (h : tr_N r N0 q) : ∀ v, v < bn_nw N0 → v < 8 → r (74 + 105 * v + 5) = nI (q v) := by
  obtain ⟨M, hN, hok, hs, hq⟩ := h
  intro v hv h8
  rw [← hq v h8]
  exact (hN.2.2.2 v (by rw [hs.2.1]; exact hv)).2.2.1
theorem ml_moves2 {N0 : bn_N} {b : Nat} {v2 : Int32} {q q2 : Nat → Nat} (hok0 : bn_ok N0) (hb : b < 6) (hv : ∀ v, v < 8 → nI (q v) + v2 * (nI (ch_p (bn_wr N0 v) b) - nI (ch_k (bn_wr N0 v) b)) = nI (q2 v)) (hq2 : ∀ v, v < 8 → q2 v ≤ 99) (hz : ∀ v, v < 8 → ¬ bw_h (bn_wr N0 v) = true → q2 v = 0) (K : (Nat → Nat → Int32) → (Nat → Nat → Int64) → Option bf_St) : ∀ (n j : Nat) (I : Nat → Nat → Int32), j ≤ bn_nw N0 → bn_nw N0 < j + n → tr_N (I 157) N0 (fun v => if v < j then q2 v else q v) → ∃ I1, f_X12_moves_2 156 (nI b) v2 K n (nI j) I L = K I1 L ∧ tr_N (I1 157) N0 q2 ∧ (∀ k, (∀ w, j ≤ w → w < bn_nw N0 → k ≠ 74 + 105 * w + 5) → I1 157 k = I 157 k) ∧ ∀ r, r ≠ 157 → I1 r = I r
  | 0, j, I, h1, h2, hN => by omega
  | n + 1, j, I, h1, h2, hN => by
    have o2 := hok0.2.1
    obtain ⟨M, m1, m2, m3, m4⟩ := hN
    have m4 : ∀ v, v < 8 → bn_q M v = (if v < j then q2 v else q v) := m4
    have o1 := m2.1
    have nwM : bn_nw M = bn_nw N0 := m3.2.1
    rw [f_X12_moves_2, bp_1, show I (156 + 1) 1 = nI (bn_nw N0) by rw [← nwM]; exact m1.2.1]
    by_cases h8 : j = bn_nw N0
    · rw [if_pos (nI_le (by omega) (by omega))]
      refine ⟨I, rfl, ⟨M, m1, m2, m3, fun v hv => ?_⟩, fun _ _ => rfl, fun _ _ => rfl⟩
      rw [m4 v hv]
      by_cases e : v < j
      · rw [if_pos e]
      · rw [if_neg e]
        have hh : ¬ bw_h (bn_wr N0 v) = true := by rw [hok0.2.2.2.2 v (by omega)]; decide
        have e1 := m4 v hv
        rw [if_neg e] at e1
        rw [← e1, bn_q0 m2 (by rw [m3.2.2 v]; exact hh), hz v hv hh]
    · have j8 : j < 8 := by omega
      have jM : j < bn_nw M := by omega
      have ej := m4 j j8
      rw [if_neg (Nat.lt_irrefl _)] at ej
      have tok : I (156 + 1) (74 + 105 * j + 5) = nI (q j) := by
        rw [← ej]
        exact (m1.2.2.2 j jM).2.2.1
      have go : ∀ z : Int32, z = nI (q2 j) → ∃ I1, f_X12_moves_2 156 (nI b) v2 K n (nI (j + 1)) (bf_u I (156 + 1) (74 + 105 * j + 5) z) L = K I1 L ∧ tr_N (I1 157) N0 q2 ∧ (∀ k, (∀ w, j ≤ w → w < bn_nw N0 → k ≠ 74 + 105 * w + 5) → I1 157 k = I 157 k) ∧ ∀ r, r ≠ 157 → I1 r = I r := fun z hzz => by
        obtain ⟨M1, a1, a2, a3, a4⟩ := ml_cnt (r1 := bf_u I 157 (74 + 105 * j + 5) z 157) (c := q2 j) m2 m1 jM (hq2 j j8) (fun hh => hz j j8 (fun y => hh (by rw [m3.2.2 j]; exact y))) (by rw [bf_u_at]; exact hzz) (fun k hk => by rw [bf_u_ni hk])
        obtain ⟨I1, g1, g2, g3, g4⟩ := ml_moves2 hok0 hb hv hq2 hz K n (j + 1) (bf_u I 157 (74 + 105 * j + 5) z) (by omega) (by omega) ⟨M1, a1, a2, m3.tr a3, fun v hv8 => by
          show bn_q M1 v = (if v < j + 1 then q2 v else q v)
          rw [a4 v]
          by_cases e : v = j
          · subst e; rw [if_pos rfl, if_pos (by omega)]
          · rw [if_neg e, m4 v hv8]
            by_cases y : v < j
            · rw [if_pos y, if_pos (by omega)]
            · rw [if_neg y, if_neg (by omega)]⟩
        exact ⟨I1, g1, g2, fun k hk => by rw [g3 k (fun w w1 w2 => hk w (by omega) w2), bf_u_ni (hk j (by omega) (by omega))], fun r hr => by rw [g4 r hr, bf_u_ne hr]⟩
      have hvj := hv j j8
      have hx := m1.2.2.2 j jM
      rw [if_neg (nI_ge (by omega) (by omega)), mm_isWire m2 m1 jM, bp_p1]
      simp only [Option.bind_some]
      by_cases hh : bw_h (bn_wr M j) = true
      · have hh0 : bw_h (bn_wr N0 j) = true := by rw [m3.2.2 j] at hh; exact hh
        obtain ⟨t1, t2, t3, t4, t5, t6⟩ := (m2.2.2.2.1 j).1 hh
        obtain ⟨s1, s2, s3, s4⟩ := hx.1 hh
        have ef : bw_f (bn_wr M j) = bw_f (bn_wr N0 j) := by rw [m3.2.2 j]
        have et : bw_t (bn_wr M j) = bw_t (bn_wr N0 j) := by rw [m3.2.2 j]
        have ep : bw_p (bn_wr M j) = bw_p (bn_wr N0 j) := by rw [m3.2.2 j]
        have ek : bw_k (bn_wr M j) = bw_k (bn_wr N0 j) := by rw [m3.2.2 j]
        rw [if_pos hh, if_neg bp_10, me_from j8, s1]
        simp only [Option.bind_some, bp_eq (show bw_f (bn_wr M j) < 100000 by omega) (show b < 100000 by omega)]
        by_cases f : bw_f (bn_wr M j) = b
        · have cp : ch_p (bn_wr N0 j) b = bw_p (bn_wr M j) := by rw [ep]; exact if_pos ⟨hh0, by rw [← ef]; exact f⟩
          rw [if_pos f, me_puts j8, s3]
          simp only [Option.bind_some]
          rw [mm_isWire m2 m1 jM]
          simp only [Option.bind_some]
          rw [if_pos hh, if_neg bp_10, me_to j8, s2]
          simp only [Option.bind_some, bp_eq (show bw_t (bn_wr M j) < 100000 by omega) (show b < 100000 by omega)]
          by_cases t : bw_t (bn_wr M j) = b
          · have ck : ch_k (bn_wr N0 j) b = bw_k (bn_wr M j) := by rw [ek]; exact if_pos ⟨hh0, by rw [← et]; exact t⟩
            rw [if_pos t, me_takes j8, s4]
            simp only [Option.bind_some]
            rw [bp_ix, bp_p5, if_pos (bp_ok (by omega) (by omega)), if_pos (bp_ok (by omega) (by omega)), bp_cl (by omega), tok]
            exact go _ (by rw [← hvj, cp, ck])
          · have ck : ch_k (bn_wr N0 j) b = 0 := if_neg (fun z => t (by rw [et]; exact z.2))
            rw [if_neg t, bp_ix, bp_p5, if_pos (bp_ok (by omega) (by omega)), if_pos (bp_ok (by omega) (by omega)), bp_cl (by omega), tok]
            exact go _ (by rw [← hvj, cp, ck]; rfl)
        · have cp : ch_p (bn_wr N0 j) b = 0 := if_neg (fun z => f (by rw [ef]; exact z.2))
          rw [if_neg f, mm_isWire m2 m1 jM]
          simp only [Option.bind_some]
          rw [if_pos hh, if_neg bp_10, me_to j8, s2]
          simp only [Option.bind_some, bp_eq (show bw_t (bn_wr M j) < 100000 by omega) (show b < 100000 by omega)]
          by_cases t : bw_t (bn_wr M j) = b
          · have ck : ch_k (bn_wr N0 j) b = bw_k (bn_wr M j) := by rw [ek]; exact if_pos ⟨hh0, by rw [← et]; exact t⟩
            rw [if_pos t, me_takes j8, s4]
            simp only [Option.bind_some]
            rw [bp_ix, bp_p5, if_pos (bp_ok (by omega) (by omega)), if_pos (bp_ok (by omega) (by omega)), bp_cl (by omega), tok]
            exact go _ (by rw [← hvj, cp, ck]; rfl)
          · have ck : ch_k (bn_wr N0 j) b = 0 := if_neg (fun z => t (by rw [et]; exact z.2))
            rw [if_neg t, bp_ix, bp_p5, if_pos (bp_ok (by omega) (by omega)), if_pos (bp_ok (by omega) (by omega)), bp_cl (by omega), tok]
            exact go _ (by rw [← hvj, cp, ck]; rfl)
      · have hh0 : ¬ bw_h (bn_wr N0 j) = true := by rw [m3.2.2 j] at hh; exact hh
        have cp : ch_p (bn_wr N0 j) b = 0 := if_neg (fun z => hh0 z.1)
        have ck : ch_k (bn_wr N0 j) b = 0 := if_neg (fun z => hh0 z.1)
        rw [if_neg hh, if_pos rfl, mm_isWire m2 m1 jM]
        simp only [Option.bind_some]
        rw [if_neg hh, if_pos rfl, bp_ix, bp_p5, if_pos (bp_ok (by omega) (by omega)), if_pos (bp_ok (by omega) (by omega)), bp_cl (by omega), tok]
        exact go _ (by rw [← hvj, cp, ck]; rfl)
theorem ml_moves {I : Nat → Nat → Int32} {N0 : bn_N} {b : Nat} {v2 : Int32} {q q2 : Nat → Nat} (hok0 : bn_ok N0) (hb : b < 6) (hv : ∀ v, v < 8 → nI (q v) + v2 * (nI (ch_p (bn_wr N0 v) b) - nI (ch_k (bn_wr N0 v) b)) = nI (q2 v)) (hq2 : ∀ v, v < 8 → q2 v ≤ 99) (hz : ∀ v, v < 8 → ¬ bw_h (bn_wr N0 v) = true → q2 v = 0) (hN : tr_N (I 157) N0 q) : ∃ I1, f_X12_moves 156 (nI b) v2 I L = some (I1, L) ∧ tr_N (I1 157) N0 q2 ∧ (∀ k, (∀ w, w < bn_nw N0 → k ≠ 74 + 105 * w + 5) → I1 157 k = I 157 k) ∧ ∀ r, r ≠ 157 → I1 r = I r := by
  have o2 := hok0.2.1
  obtain ⟨I1, g1, g2, g3, g4⟩ := ml_moves2 (L := L) hok0 hb hv hq2 hz (fun I52 L52 => (some (I52, L52))) 400 0 I (by omega) (by omega) (by
    obtain ⟨M, a1, a2, a3, a4⟩ := hN
    exact ⟨M, a1, a2, a3, fun v hv => by
      show bn_q M v = (if v < 0 then q2 v else q v)
      rw [if_neg (by omega)]
      exact a4 v hv⟩)
  rw [show nI 0 = (0 : Int32) from rfl] at g1
  unfold f_X12_moves
  exact ⟨I1, g1, g2, fun k hk => g3 k (fun w _ w2 => hk w w2), g4⟩
theorem bp_8 (d j : Nat) : (8 : Int32) * nI d + nI j = nI (8 * d + j) := by
  rw [show (8 : Int32) = nI 8 from rfl, pk_mul, nI_add]
theorem bp_88 (d j : Nat) : (8 : Int32) * nI d + (8 : Int32) + nI j = nI (8 * d + 8 + j) := by
  rw [show (8 : Int32) = nI 8 from rfl, pk_mul, nI_add, nI_add]
theorem ml_tr11 {I : Nat → Nat → Int32} {d : Nat} {m : Nat → Nat} {rc : Nat → Int32 → (Nat → Nat → Int32) → (Nat → Nat → Int64) → Option bf_St} (hd : d ≤ 8) (hm : ∀ w, w < 8 → I 168 (8 * d + w) = nI (m w)) (K : Int32 → (Nat → Nat → Int32) → (Nat → Nat → Int64) → Option bf_St) : ∀ (n j : Nat), j ≤ 8 → 8 < j + n → f_X12_tries_11 rc 156 (nI d) K n (nI (bfold (fun v a => a + m v) j 0 0)) (nI j) I L = K (nI (tm8 m)) I L
  | 0, j, h1, h2 => by omega
  | n + 1, j, h1, h2 => by
    rw [f_X12_tries_11]
    by_cases h8 : j = 8
    · subst h8
      rw [if_pos (by decide)]
      rfl
    · rw [if_neg (show ¬ (8 : Int32) ≤ nI j from nI_ge (b := 8) (by omega) (by omega)), bp_8, if_pos (bp_ok (by omega) (by omega)), bp_cl (by omega), show I (156 + 12) (8 * d + j) = nI (m j) from hm j (by omega), nI_add, bp_p1, ← tm8_s]
      exact ml_tr11 hd hm K n (j + 1) (by omega) (by omega)
theorem ml_tr110 {N0 : bn_N} {d : Nat} {m q : Nat → Nat} {v2 : Int32} {rc : Nat → Int32 → (Nat → Nat → Int32) → (Nat → Nat → Int64) → Option bf_St} (hok0 : bn_ok N0) (hd : d < 8) (hm : ∀ w, w < 8 → m w ≤ 99) (hz : ∀ w, w < 8 → ¬ bw_h (bn_wr N0 w) = true → m w = 0) (K : (Nat → Nat → Int32) → (Nat → Nat → Int64) → Option bf_St) : ∀ (n j : Nat) (I : Nat → Nat → Int32), j ≤ 8 → 8 < j + n → tr_N (I 157) N0 q → (∀ w, w < 8 → I 168 (8 * d + w) = nI (m w)) → (∀ w, w < j → I 168 (8 * d + 8 + w) = nI (sm m q w)) → ∃ I1, f_X12_tries_110 rc 156 (nI d) v2 K n (nI j) I L = K I1 L ∧ (∀ w, w < 8 → I1 168 (8 * d + 8 + w) = nI (sm m q w)) ∧ (∀ i, i < 8 * d + 8 → I1 168 i = I 168 i) ∧ ∀ r, r ≠ 168 → I1 r = I r
  | 0, j, I, h1, h2, hN, hmI, hj => by omega
  | n + 1, j, I, h1, h2, hN, hmI, hj => by
    have o2 := hok0.2.1
    rw [f_X12_tries_110]
    by_cases h8 : j = 8
    · subst h8
      rw [if_pos (by decide)]
      exact ⟨I, rfl, hj, fun _ _ => rfl, fun _ _ => rfl⟩
    · have j8 : j < 8 := by omega
      have qb := hN.b j j8
      have go : ∀ z : Int32, z = nI (sm m q j) → ∃ I1, f_X12_tries_110 rc 156 (nI d) v2 K n (nI (j + 1)) (bf_u I 168 (8 * d + 8 + j) z) L = K I1 L ∧ (∀ w, w < 8 → I1 168 (8 * d + 8 + w) = nI (sm m q w)) ∧ (∀ i, i < 8 * d + 8 → I1 168 i = I 168 i) ∧ ∀ r, r ≠ 168 → I1 r = I r := fun z hzz => by
        obtain ⟨I1, g1, g2, g3, g4⟩ := ml_tr110 (v2 := v2) (rc := rc) hok0 hd hm hz K n (j + 1) (bf_u I 168 (8 * d + 8 + j) z) (by omega) (by omega) (by rw [bf_u_ne (by omega)]; exact hN) (fun w hw => by rw [bf_u_ni (by omega)]; exact hmI w hw) (fun w hw => by
          by_cases e : w = j
          · subst e; rw [bf_u_at]; exact hzz
          · rw [bf_u_ni (by omega)]; exact hj w (by omega))
        exact ⟨I1, g1, g2, fun i hi => by rw [g3 i hi, bf_u_ni (by omega)], fun r hr => by rw [g4 r hr, bf_u_ne hr]⟩
      obtain ⟨M, m1, m2, m3, m4⟩ := id hN
      have nwM : bn_nw M = bn_nw N0 := m3.2.1
      rw [if_neg (show ¬ (8 : Int32) ≤ nI j from nI_ge (b := 8) (by omega) (by omega)), bp_1, show I (156 + 1) 1 = nI (bn_nw N0) by rw [← nwM]; exact m1.2.1, bp_p1, bp_88, bp_8]
      simp only [if_pos (bp_ok (show 8 * d + 8 + j < 72 by omega) (show 72 ≤ 100000 by omega)), if_pos (bp_ok (show 8 * d + j < 72 by omega) (show 72 ≤ 100000 by omega)), bp_cl (show 8 * d + 8 + j < 100000 by omega), bp_cl (show 8 * d + j < 100000 by omega), Nat.reduceAdd]
      have z0 : ¬ bw_h (bn_wr N0 j) = true → (0 : Int32) = nI (sm m q j) := fun hh => by
        have e1 := hz j j8 hh
        have e2 := hN.z j j8 hh
        show (0 : Int32) = nI (max (m j) (q j))
        rw [e1, e2]
        rfl
      by_cases hw : bn_nw N0 ≤ j
      · rw [if_pos (nI_le hw (by omega))]
        exact go 0 (z0 (by rw [hok0.2.2.2.2 j hw]; decide))
      · rw [if_neg (nI_ge (by omega) (by omega)), mm_isWire (o := 156) m2 m1 (by omega)]
        simp only [Option.bind_some]
        by_cases hh : bw_h (bn_wr M j) = true
        · rw [if_pos hh, if_neg bp_10, me_tokens (o := 156) j8, show I (156 + 1) (74 + 105 * j + 5) = nI (q j) from hN.t j (by omega) j8]
          simp only [Option.bind_some]
          have mj := hm j j8
          exact go _ (by rw [hmI j j8]; exact bp_mx (a := m j) (b := q j) (by omega) (by omega))
        · rw [if_neg hh, if_pos rfl]
          exact go 0 (z0 (by rw [m3.2.2 j] at hh; exact hh))
end LS3
