theorem bp_okT {m n : Nat} (h : m < n) (hn : n ≤ 100000) : bf_ok (nI m) n = True := eq_true (bp_ok h hn)
theorem bw_ok.sq {nb : Nat} {x : bn_W} {q : List Int32} (h : bw_ok nb x) (hl : q.length ≤ 99) (hh : bw_h x = true) : bw_ok nb (bw_sq x q) := ⟨h.1, hl, fun z => absurd (hh.symm.trans z) (by decide)⟩
theorem bo_wi {N : bn_N} {a : Int32} (h : bn_is N a) (hok : bn_ok N) : ∃ w, w < 8 ∧ w < bn_nw N ∧ a = nI w ∧ bw_h (bn_wr N w) = true := by
  obtain ⟨w, h1, h2, h3⟩ := h
  exact ⟨w, Nat.lt_of_lt_of_le h1 hok.2.1, h1, h2, h3⟩
theorem ml_comes {o w : Nat} {v : Int32} {I : Nat → Nat → Int32} {L : Nat → Nat → Int64} {N : bn_N} (hok : bn_ok N) (hN : bm_N (I (o + 1)) N) (hw : w < bn_nw N) (hl : (bw_q (bn_wr N w)).length < 99) : ∃ I1, f_X12_comes o (nI w) v I L = some (I1, L) ∧ bm_N (I1 (o + 1)) (bn_sW N w (bw_sq (bn_wr N w) (bw_q (bn_wr N w) ++ [v]))) ∧ (∀ q, q ≠ o + 1 → I1 q = I q) ∧ ∀ k, k < 74 → I1 (o + 1) k = I (o + 1) k := by
  have o2 := hok.2.1
  obtain ⟨h1, h2, h3, h4⟩ := hN.2.2.2 w hw
  unfold f_X12_comes
  simp (disch := omega) only [bp_ix, bp_p5, bp_p6, ↓bp_okT, ↓reduceIte, bp_cl, h3, nI_add, bf_u_ni, nI_1]
  refine ⟨_, rfl, hN.setW hok (fun k hk => ?_) ⟨fun q => ?_, ?_, ?_, fun i hi => ?_⟩, fun q hq => ?_, fun k hk => ?_⟩
  · simp (disch := omega) only [bf_u_ni]
  · simp (disch := omega) only [bf_u_ni]
    exact h1 q
  · simp (disch := omega) only [bf_u_ni]
    exact h2
  · rw [bf_u_at]
    show _ = nI (bw_q (bn_wr N w) ++ [v]).length
    rw [List.length_append]
    rfl
  · have hi : i < (bw_q (bn_wr N w) ++ [v]).length := hi
    rw [List.length_append, List.length_singleton] at hi
    show _ = (bw_q (bn_wr N w) ++ [v]).getD i 0
    by_cases e : i = (bw_q (bn_wr N w)).length
    · subst e
      rw [bf_u_ni (by omega), bf_u_at, List.getD_eq_getElem?_getD, List.getElem?_append_right (Nat.le_refl _), Nat.sub_self]
      rfl
    · rw [bf_u_ni (by omega), bf_u_ni (by omega), h4 i (by omega), List.getD_eq_getElem?_getD, List.getD_eq_getElem?_getD, List.getElem?_append_left (by omega)]
  · simp (disch := omega) only [bf_u_ne]
  · simp (disch := omega) only [bf_u_ni]
section OPS3
variable {I : Nat → Nat → Int32} {L : Nat → Nat → Int64}
theorem op_wire (h : bo_St I L) (a b c d : Int32) : bo_OK (f_X11_wire 0 a b c d I L) (f_X12_wire 156 a b c d) := by
  obtain ⟨A, hok, hC, hM⟩ := id h
  have hn : bn_ok A.1.1 := hok.1.1
  rcases cl_addWire (L := L) hn (show bc_N I 2 A.1.1 from hC.1.1) a b c d with ⟨hno, e⟩ | ⟨f, t, p, k, I1, hv, ⟨rfl, rfl, rfl, rfl⟩, h8, e, hN1, hq⟩
  · rcases ml_wire (o := 156) (L := L) hn (show bm_N (I 157) A.1.1 from hM.1.1) a b c d with ⟨-, e2⟩ | ⟨f, t, p, k, I2, hv, ⟨rfl, rfl, rfl, rfl⟩, h8, -⟩
    · refine bo_same h (x := bn_wc A.1.1 a b c d) ?_ e2
      unfold f_X11_wire
      simp only [Nat.reduceAdd, Nat.zero_add]
      rw [e]
      rfl
    · have o1 := hn.1
      exact absurd ⟨⟨(bp_isB (by omega)).mp ⟨f, hv.1, rfl⟩, (bp_isB (by omega)).mp ⟨t, hv.2.1, rfl⟩⟩, ⟨by rw [bp_toI (by omega)]; omega, by rw [bp_toI (by omega)]; omega⟩, h8⟩ hno
  · have hM1 : bm_A I1 L A := hM.fc (fun q hq1 => ⟨hq q (by omega), rfl⟩)
    rcases ml_wire (o := 156) (L := L) hn (show bm_N (I1 157) A.1.1 from hM1.1.1) (nI f) (nI t) (nI p) (nI k) with ⟨hno, -⟩ | ⟨f', t', p', k', I2, hv', ⟨ef, et, ep, ek⟩, -, e2, hN2, hq2, hr2⟩
    · have o1 := hn.1
      exact absurd ⟨⟨(bp_isB (by omega)).mp ⟨f, hv.1, rfl⟩, (bp_isB (by omega)).mp ⟨t, hv.2.1, rfl⟩⟩, ⟨by rw [bp_toI (by omega)]; omega, by rw [bp_toI (by omega)]; omega⟩, h8⟩ hno
    · have o1 := hn.1
      rw [bp_eq (by omega) (by omega)] at ef et ep ek
      subst ef et ep ek
      refine bo_mk (A := bn_sN A (bn_aW A.1.1 (f, t, p, k, true, []))) ?_ e2 (fun q hq1 => ⟨hq2 q (by omega), rfl⟩) (hok.setN (hn.addW h8 ⟨fun _ => hv, Nat.zero_le _, fun z => absurd (show true = false from z) (by decide)⟩) (Nat.le_refl _)) (hC.setN hok (fun q hq1 => hq q (by omega)) hN1) (hM1.setN hok (hq2 _ (by omega)) (hq2 _ (by omega)) (hq2 _ (by omega)) (hq2 _ (by omega)) (by rw [hq2 156 (by omega)]) (by rw [hq2 156 (by omega)]) hr2 hN2)
      unfold f_X11_wire
      simp only [Nat.reduceAdd, Nat.zero_add]
      rw [e]
      rfl
theorem op_token (h : bo_St I L) (a v : Int32) : bo_OK (f_X11_token 0 a v I L) (f_X12_token 156 a v) := by
  obtain ⟨A, hok, hC, hM⟩ := id h
  have hn : bn_ok A.1.1 := hok.1.1
  have hcN : bc_N I 2 A.1.1 := hC.1.1
  have hmN : bm_N (I (156 + 1)) A.1.1 := hM.1.1
  by_cases ha : bn_is A.1.1 a
  · obtain ⟨w, hw8, hw, rfl, hh⟩ := bo_wi ha hn
    have hW : bc_W I (11 + 2 * w) (bn_wr A.1.1 w) := hcN.2.2.2 w hw8
    have hl := (hn.2.2.2.1 w).2.1
    by_cases h99 : (bw_q (bn_wr A.1.1 w)).length < 99
    · obtain ⟨I1, e1, hW1, hq1⟩ := rg_append (L := L) (v := v) hW h99
      have hM1 : bm_A I1 L A := hM.fc (fun q hq => ⟨hq1 q (by omega) (by omega), rfl⟩)
      have hmN1 : bm_N (I1 (156 + 1)) A.1.1 := hM1.1.1
      obtain ⟨I2, e2, hN2, hq2, hr2⟩ := ml_comes (o := 156) (L := L) (v := v) hn hmN1 hw h99
      have hok2 := hn.setW hw ((hn.2.2.2.1 w).sq (q := bw_q (bn_wr A.1.1 w) ++ [v]) (by rw [List.length_append]; exact h99) hh)
      have h5 : I2 157 (74 + 105 * w + 5) = nI ((bw_q (bn_wr A.1.1 w)).length + 1) := by
        have := (hN2.2.2.2 w hw).2.2.1
        rw [show bn_wr (bn_sW A.1.1 w (bw_sq (bn_wr A.1.1 w) (bw_q (bn_wr A.1.1 w) ++ [v]))) w = bw_sq (bn_wr A.1.1 w) (bw_q (bn_wr A.1.1 w) ++ [v]) from vu_o] at this
        rw [this]
        show nI (bw_q (bn_wr A.1.1 w) ++ [v]).length = _
        rw [List.length_append]
        rfl
      refine bo_mk (A := bn_sN A (bn_sW A.1.1 w (bw_sq (bn_wr A.1.1 w) (bw_q (bn_wr A.1.1 w) ++ [v])))) (x := nI ((bw_q (bn_wr A.1.1 w)).length + 1)) (I1 := I1) (I2 := I2) (L1 := L) (L2 := L) ?_ ?_ (fun q hq => ⟨hq2 q (by omega), rfl⟩) (hok.setN hok2 (Nat.le_refl _)) (hC.setN hok (fun q hq => hq1 q (by omega) (by omega)) (hcN.setW hn hw8 hq1 hW1)) (hM1.setN hok (hq2 _ (by omega)) (hq2 _ (by omega)) (hq2 _ (by omega)) (hq2 _ (by omega)) (by rw [hq2 156 (by omega)]) (by rw [hq2 156 (by omega)]) (fun k hk => hr2 k (by omega)) hN2)
      · unfold f_X11_token
        simp only [Nat.reduceAdd, Nat.zero_add]
        rw [cc_hasW_t hn hcN hw hh]
        simp only [Option.bind_some]
        rw [if_neg bp_10, if_pos (bp_ok hw8 (by omega)), bp_cl (by omega), hW.2.2.1, if_pos (show nI _ < (99 : Int32) from nI_lt (b := 99) h99 (by omega)), e1]
        simp only [Option.bind_some]
        rw [hW1.2.2.1]
        show some (nI (bw_q (bn_wr A.1.1 w) ++ [v]).length, I1, L) = _
        rw [List.length_append]
        rfl
      · unfold f_X12_token
        rw [mm_isW_t hn hmN1 hw hh]
        simp only [Option.bind_some]
        rw [if_neg bp_10, me_tokens hw8]
        simp only [Option.bind_some]
        rw [(hmN1.2.2.2 w hw).2.2.1, if_neg (show ¬ nI _ = (99 : Int32) from fun q => by rw [show (99 : Int32) = nI 99 from rfl, bp_eq (by omega) (by omega)] at q; omega), e2]
        simp only [Option.bind_some]
        rw [me_tokens hw8]
        simp only [Option.bind_some, Nat.reduceAdd]
        rw [h5]
    · have e99 : (bw_q (bn_wr A.1.1 w)).length = 99 := by omega
      refine bo_same h (x := -4) ?_ ?_
      · unfold f_X11_token
        simp only [Nat.reduceAdd, Nat.zero_add]
        rw [cc_hasW_t hn hcN hw hh]
        simp only [Option.bind_some]
        rw [if_neg bp_10, if_pos (bp_ok hw8 (by omega)), bp_cl (by omega), hW.2.2.1, e99, if_neg (by decide)]
      · unfold f_X12_token
        rw [mm_isW_t hn hmN hw hh]
        simp only [Option.bind_some]
        rw [if_neg bp_10, me_tokens hw8]
        simp only [Option.bind_some]
        rw [(hmN.2.2.2 w hw).2.2.1, e99, if_pos (by decide)]
  · refine bo_same h (x := -1) ?_ ?_
    · unfold f_X11_token
      simp only [Nat.reduceAdd, Nat.zero_add]
      rw [cc_hasW_f hn hcN ha]
      rfl
    · unfold f_X12_token
      rw [mm_isW_f hn hmN ha]
      rfl
theorem op_cut (h : bo_St I L) (a : Int32) : bo_OK (f_X11_cut 0 a I L) (f_X12_cut 156 a) := by
  obtain ⟨A, hok, hC, hM⟩ := id h
  have hn : bn_ok A.1.1 := hok.1.1
  have hcN : bc_N I 2 A.1.1 := hC.1.1
  have hmN : bm_N (I (156 + 1)) A.1.1 := hM.1.1
  by_cases ha : bn_is A.1.1 a
  · obtain ⟨w, hw8, hw, rfl, hh⟩ := bo_wi ha hn
    have hW : bc_W I (11 + 2 * w) (bn_wr A.1.1 w) := hcN.2.2.2 w hw8
    obtain ⟨I1, hI1⟩ : ∃ I1, I1 = bf_u (bf_u (bf_u I (11 + 2 * w) 5 0) (11 + 2 * w) 6 0) (11 + 2 * w) 4 0 := ⟨_, rfl⟩
    have hq1 : ∀ q, q ≠ 11 + 2 * w → I1 q = I q := fun q hq => by rw [hI1, bf_u_ne hq, bf_u_ne hq, bf_u_ne hq]
    have hM1 : bm_A I1 L A := hM.fc (fun q hq => ⟨hq1 q (by omega), rfl⟩)
    have hmN1 : bm_N (I1 (156 + 1)) A.1.1 := hM1.1.1
    obtain ⟨I2, hI2⟩ : ∃ I2, I2 = bf_u (bf_u I1 157 (74 + 105 * w + 4) 1) 157 (74 + 105 * w + 5) 0 := ⟨_, rfl⟩
    have hq2 : ∀ q, q ≠ 157 → I2 q = I1 q := fun q hq => by rw [hI2, bf_u_ne hq, bf_u_ne hq]
    obtain ⟨x, hx⟩ : ∃ x : bn_W, x = (bw_f (bn_wr A.1.1 w), bw_t (bn_wr A.1.1 w), bw_p (bn_wr A.1.1 w), bw_k (bn_wr A.1.1 w), false, []) := ⟨_, rfl⟩
    have hxo : bw_ok (bn_nb A.1.1) x := by subst hx; exact ⟨fun z => absurd (show false = true from z) (by decide), Nat.zero_le _, fun _ => rfl⟩
    have hW1 : bc_W I1 (11 + 2 * w) x := by
      subst hx
      refine ⟨fun z => absurd (show false = true from z) (by decide), ?_, ?_, 0, by omega, ?_, fun i hi => absurd hi (Nat.not_lt_zero _)⟩
      · rw [hI1, bf_u_at]; rfl
      · rw [hI1]; simp (disch := omega) only [bf_u_ni, bf_u_at]; rfl
      · rw [hI1]; simp (disch := omega) only [bf_u_ni, bf_u_at]; rfl
    have hN2 : bm_N (I2 157) (bn_sW A.1.1 w x) := by
      subst hx
      refine hmN1.setW hn (fun k hk => ?_) ⟨fun z => absurd (show false = true from z) (by decide), ?_, ?_, fun i hi => absurd hi (Nat.not_lt_zero _)⟩
      · rw [hI2]; simp (disch := omega) only [bf_u_ni]
      · rw [hI2]; simp (disch := omega) only [bf_u_ni, bf_u_at]; rfl
      · rw [hI2, bf_u_at]; rfl
    refine bo_mk (A := bn_sN A (bn_sW A.1.1 w x)) (x := nI (bw_q (bn_wr A.1.1 w)).length) (I1 := I1) (I2 := I2) (L1 := L) (L2 := L) ?_ ?_ (fun q hq => ⟨hq2 q (by omega), rfl⟩) (hok.setN (hn.setW hw hxo) (Nat.le_refl _)) (hC.setN hok (fun q hq => hq1 q (by omega)) (hcN.setW hn hw8 (fun q z1 z2 => hq1 q z1) hW1)) (hM1.setN hok (hq2 _ (by omega)) (hq2 _ (by omega)) (hq2 _ (by omega)) (hq2 _ (by omega)) (by rw [hq2 156 (by omega)]) (by rw [hq2 156 (by omega)]) (fun k hk => by rw [hI2]; simp (disch := omega) only [bf_u_ni]) hN2)
    · unfold f_X11_cut f_X10_clear
      simp only [Nat.reduceAdd, Nat.zero_add]
      rw [cc_hasW_t hn hcN hw hh]
      simp only [Option.bind_some]
      rw [if_neg bp_10, if_pos (bp_ok hw8 (by omega)), bp_cl (by omega), hW.2.2.1, hI1]
    · unfold f_X12_cut
      rw [mm_isW_t hn hmN1 hw hh]
      simp only [Option.bind_some]
      rw [if_neg bp_10, me_tokens hw8]
      simp only [Option.bind_some]
      rw [(hmN1.2.2.2 w hw).2.2.1, bp_ix, bp_p4, bp_p5, if_pos (bp_ok (by omega) (by omega)), if_pos (bp_ok (by omega) (by omega)), bp_cl (by omega), bp_cl (by omega), hI2]
  · refine bo_same h (x := -1) ?_ ?_
    · unfold f_X11_cut
      simp only [Nat.reduceAdd, Nat.zero_add]
      rw [cc_hasW_f hn hcN ha]
      rfl
    · unfold f_X12_cut
      rw [mm_isW_f hn hmN ha]
      rfl
end OPS3
