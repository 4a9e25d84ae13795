/-- a loop over places -/
def bfold {α : Type} (f : Nat → α → α) : Nat → Nat → α → α
  | 0, _, a => a
  | k + 1, w, a => bfold f k (w + 1) (f w a)
theorem bfold_id {α : Type} {f : Nat → α → α} {m : Nat} (h : ∀ v a, m ≤ v → f v a = a) : ∀ (k w : Nat) (a : α), m ≤ w + k → bfold f k w a = bfold f (m - w) w a
  | 0, w, a, hk => by rw [show m - w = 0 by omega]
  | k + 1, w, a, hk => by
    by_cases q : m ≤ w
    · rw [show m - w = 0 by omega]
      show bfold f k (w + 1) (f w a) = a
      rw [h w a q, bfold_id h k (w + 1) a (by omega), show m - (w + 1) = 0 by omega]
      rfl
    · rw [show m - w = (m - (w + 1)) + 1 by omega]
      show bfold f k (w + 1) (f w a) = bfold f (m - (w + 1)) (w + 1) (f w a)
      exact bfold_id h k (w + 1) (f w a) (by omega)
abbrev bn_th (N : bn_N) : Nat → Int32 → Int32 := fun w a => if bw_h (bn_wr N w) = true then a + 1 else a
theorem cl_there {o : Nat} {I : Nat → Nat → Int32} {L : Nat → Nat → Int64} {N : bn_N} (hN : bc_N I o N) (K : Int32 → (Nat → Nat → Int32) → (Nat → Nat → Int64) → Option (Int32 × bf_St)) : ∀ (n w : Nat) (a : Int32), w ≤ 8 → 8 < w + n → f_X3_wiresThere_4 o K n a (nI w) I L = K (bfold (bn_th N) (8 - w) w a) I L
  | 0, w, a, h1, h2 => by omega
  | n + 1, w, a, h1, h2 => by
    rw [f_X3_wiresThere_4]
    by_cases h8 : w = 8
    · subst h8
      rw [if_pos (by decide)]
      rfl
    · rw [if_neg (show ¬ (8 : Int32) ≤ nI w from nI_ge (b := 8) (by omega) (by omega)), if_pos (bp_ok (by omega) (by omega)), bp_cl (by omega), (hN.2.2.2 w (by omega)).2.1, bp_p1, show 8 - w = (8 - (w + 1)) + 1 by omega]
      show _ = K (bfold (bn_th N) (8 - (w + 1)) (w + 1) (bn_th N w a)) I L
      by_cases hh : bw_h (bn_wr N w) = true
      · rw [if_pos hh, if_neg bp_10, cl_there hN K n (w + 1) _ (by omega) (by omega), show bn_th N w a = a + 1 from if_pos hh]
      · rw [if_neg hh, if_pos rfl, cl_there hN K n (w + 1) _ (by omega) (by omega), show bn_th N w a = a from if_neg hh, Int32.add_zero]
theorem ml_there {o : Nat} {I : Nat → Nat → Int32} {L : Nat → Nat → Int64} {N : bn_N} (hok : bn_ok N) (hN : bm_N (I (o + 1)) N) (K : Int32 → (Nat → Nat → Int32) → (Nat → Nat → Int64) → Option (Int32 × bf_St)) : ∀ (n w : Nat) (a : Int32), w ≤ bn_nw N → bn_nw N < w + n → f_X12_there_4 o K n a (nI w) I L = K (bfold (bn_th N) (bn_nw N - w) w a) I L
  | 0, w, a, h1, h2 => by omega
  | n + 1, w, a, h1, h2 => by
    have o2 := hok.2.1
    rw [f_X12_there_4, bp_1, hN.2.1]
    by_cases h8 : w = bn_nw N
    · rw [if_pos (nI_le (by omega) (by omega)), show bn_nw N - w = 0 by omega]
      rfl
    · rw [if_neg (nI_ge (by omega) (by omega)), mm_isWire hok hN (by omega), bp_p1, show bn_nw N - w = (bn_nw N - (w + 1)) + 1 by omega]
      simp only [Option.bind_some]
      show _ = K (bfold (bn_th N) (bn_nw N - (w + 1)) (w + 1) (bn_th N w a)) I L
      by_cases hh : bw_h (bn_wr N w) = true
      · rw [if_pos hh, if_neg bp_10, ml_there hok hN K n (w + 1) _ (by omega) (by omega), show bn_th N w a = a + 1 from if_pos hh]
      · rw [if_neg hh, if_pos rfl, ml_there hok hN K n (w + 1) _ (by omega) (by omega), show bn_th N w a = a from if_neg hh, Int32.add_zero]
section OPS6
variable {I : Nat → Nat → Int32} {L : Nat → Nat → Int64}
theorem op_count (h : bo_St I L) (a : Int32) : bo_OK (f_X11_count 0 a I L) (f_X12_count 156 a) := by
  obtain ⟨A, hok, hC, hM⟩ := id h
  have hn : bn_ok A.1.1 := hok.1.1
  have o2 := hn.2.1
  have hcN : bc_N I 2 A.1.1 := hC.1.1
  have hmN : bm_N (I (156 + 1)) A.1.1 := hM.1.1
  have eC : f_X3_wiresThere 2 I L = some (bfold (bn_th A.1.1) 8 0 0, I, L) := by
    unfold f_X3_wiresThere
    rw [show (0 : Int32) = nI 0 from rfl, cl_there hcN _ 400 0 _ (by omega) (by omega)]
  have eM : f_X12_there 156 I L = some (bfold (bn_th A.1.1) 8 0 0, I, L) := by
    unfold f_X12_there
    rw [show (0 : Int32) = nI 0 from rfl, ml_there hn hmN _ 400 0 _ (by omega) (by omega), bfold_id (m := bn_nw A.1.1) (fun v a hv => if_neg (by rw [hn.2.2.2.2 v hv]; decide)) 8 0 _ (by omega)]
  unfold f_X11_count f_X12_count
  simp only [Nat.reduceAdd, Nat.zero_add, bp_0, bp_1, bp_2, bp_3, bp_4]
  by_cases h0 : a = 0
  · refine bo_same h (x := nI (bn_nb A.1.1)) ?_ ?_
    · rw [if_pos h0, hcN.1]
    · rw [if_pos h0, hmN.1]
  by_cases h1 : a = 1
  · refine bo_same h (x := nI (bn_nw A.1.1)) ?_ ?_
    · rw [if_neg h0, if_pos h1, hcN.2.1]
    · rw [if_neg h0, if_pos h1, hmN.2.1]
  by_cases h2 : a = 2
  · refine bo_same h (x := bfold (bn_th A.1.1) 8 0 0) ?_ ?_
    · rw [if_neg h0, if_neg h1, if_pos h2, eC]
      rfl
    · rw [if_neg h0, if_neg h1, if_pos h2, eM]
      rfl
  by_cases h3 : a = 3
  · refine bo_same h (x := nI (bs_s A.1).length) ?_ ?_
    · rw [if_neg h0, if_neg h1, if_neg h2, if_pos h3, show I 27 0 = _ from hC.1.2.1]
    · rw [if_neg h0, if_neg h1, if_neg h2, if_pos h3, show I 157 2 = _ from hM.1.2.1]
  by_cases h4 : a = 4
  · refine bo_same h (x := nI (bs_p A.1).length) ?_ ?_
    · rw [if_neg h0, if_neg h1, if_neg h2, if_neg h3, if_pos h4, show I 31 0 = _ from hC.1.2.2.1]
    · rw [if_neg h0, if_neg h1, if_neg h2, if_neg h3, if_pos h4, show I 157 3 = _ from hM.1.2.2.1]
  by_cases h5 : a = 5
  · refine bo_same h (x := nI (bs_b A.1).length) ?_ ?_
    · rw [if_neg h0, if_neg h1, if_neg h2, if_neg h3, if_neg h4, if_pos h5, show I 35 0 = _ from hC.1.2.2.2.1]
    · rw [if_neg h0, if_neg h1, if_neg h2, if_neg h3, if_neg h4, if_pos h5, show I 157 4 = _ from hM.1.2.2.2.1]
  by_cases h6 : a = 6
  · refine bo_same h (x := nI (ba_x A).length) ?_ ?_
    · rw [if_neg h0, if_neg h1, if_neg h2, if_neg h3, if_neg h4, if_neg h5, if_pos h6, hC.2.2.2.1]
    · rw [if_neg h0, if_neg h1, if_neg h2, if_neg h3, if_neg h4, if_neg h5, if_pos h6, hM.2.2.2.1]
  refine bo_same h (x := -2) ?_ ?_
  · rw [if_neg h0, if_neg h1, if_neg h2, if_neg h3, if_neg h4, if_neg h5, if_neg h6]
  · rw [if_neg h0, if_neg h1, if_neg h2, if_neg h3, if_neg h4, if_neg h5, if_neg h6]
theorem pl_fin {A : bn_A} (hok : ba_ok A) (hC : bc_A I L A) (hM : bm_A I L A) (wh n : Nat) (z : Int32) (hx : wh ≤ 3 ∧ n < 8 ∧ ((wh = 0 ∨ wh = 2) → n < bn_nb A.1.1)) (hz : wh ≠ 3 → z = nI n) {c : Option (Int32 × bf_St)} {m : (Nat → Nat → Int32) → (Nat → Nat → Int64) → Option (Int32 × bf_St)} (hc : c = (f_X5_append 31 (nI wh) (nI n) 0 I L).bind (fun r => some (r.1, r.2.1, r.2.2))) (hm : ∀ I1 : Nat → Nat → Int32, (∀ q, 156 ≤ q → I1 q = I q) → m I1 L = f_X12_plan_p49 156 (nI wh) z I1 L) : bo_OK c m := by
  have h5 : (bs_p A.1).length ≤ 10 := hok.1.2.2.1
  have c5 : I 31 0 = nI (bs_p A.1).length := hC.1.2.2.1
  have m5 : I 157 3 = nI (bs_p A.1).length := hM.1.2.2.1
  by_cases hl : (bs_p A.1).length < 10
  · have hfc : ∀ q, 156 ≤ q → bf_u (bf_u (bf_u (bf_u I 32 (bs_p A.1).length (nI wh)) 33 (bs_p A.1).length (nI n)) 34 (bs_p A.1).length 0) 31 0 (nI ((bs_p A.1).length + 1)) q = I q := fun q hq => by simp (disch := omega) only [bf_u_ne]
    have hM1 := hM.fc (L2 := L) (fun q hq => ⟨hfc q hq, rfl⟩)
    refine bo_mk (x := nI ((bs_p A.1).length + 1)) ?_ ?_ ?_ (ok_app_p (x := (wh, n)) hok hl hx) (ca_app_p (x := (wh, n)) (z := 0) hC hok hl) (ma_app_p (x := (wh, n)) hz hM1 hok hl)
    · rw [hc, rw_append (o := 31) _ _ _ c5 (by decide +kernel) (by decide +kernel) (by decide +kernel) hl (by omega)]
      rfl
    · have m51 : bf_u (bf_u (bf_u (bf_u I 32 (bs_p A.1).length (nI wh)) 33 (bs_p A.1).length (nI n)) 34 (bs_p A.1).length 0) 31 0 (nI ((bs_p A.1).length + 1)) 157 3 = nI (bs_p A.1).length := by rw [hfc 157 (by omega)]; exact m5
      rw [hm _ hfc]
      unfold f_X12_plan_p49 f_X12_plan_p54
      rw [if_neg bp_10, bp_3]
      simp only [Nat.reduceAdd]
      rw [m51, if_neg (show ¬ nI (bs_p A.1).length = (10 : Int32) from fun q => by rw [show (10 : Int32) = nI 10 from rfl, bp_eq (by omega) (by omega)] at q; omega), show (38 : Int32) = nI 38 from rfl, show (2 : Int32) = nI 2 from rfl, pk_mul, nI_add, bp_p1]
      simp (disch := omega) only [↓bp_okT, ↓reduceIte, bp_cl, bp_p1]
    · exact fun q hq => ⟨by simp (disch := omega) only [bf_u_ne], rfl⟩
  · have e5 : (bs_p A.1).length = 10 := by omega
    refine bo_same ⟨A, hok, hC, hM⟩ (x := -4) ?_ ?_
    · rw [hc, rw_full (o := 31) (N := 10) _ _ _ (by rw [c5, e5]) (by decide +kernel) (by omega)]
      rfl
    · rw [hm I (fun _ _ => rfl)]
      unfold f_X12_plan_p49 f_X12_plan_p54
      rw [if_neg bp_10, bp_3]
      simp only [Nat.reduceAdd]
      rw [m5, e5, if_pos (by decide)]
theorem op_plan (h : bo_St I L) (a n : Int32) : bo_OK (f_X11_plan 0 a n I L) (f_X12_plan 156 a n) := by
  obtain ⟨A, hok, hC, hM⟩ := id h
  have hn : bn_ok A.1.1 := hok.1.1
  have o1 := hn.1
  have hcN : bc_N I 2 A.1.1 := hC.1.1
  have hmN : bm_N (I (156 + 1)) A.1.1 := hM.1.1
  have hmq : ∀ I1 : Nat → Nat → Int32, (∀ q, 156 ≤ q → I1 q = I q) → bm_N (I1 (156 + 1)) A.1.1 := fun I1 h1 => by rw [h1 _ (by omega)]; exact hmN
  by_cases ha1 : a = -1
  · refine bo_mk (x := 0) (I1 := bf_u I 31 0 0) (I2 := bf_u (bf_u I 31 0 0) 157 3 0) (L1 := L) (L2 := L) ?_ ?_ (fun q hq => ⟨bf_u_ne (by omega), rfl⟩) (ok_clr_p hok) (ca_clr_p hC hok) (ma_clr_p (hM.fc (fun q hq => ⟨bf_u_ne (by omega), rfl⟩)) hok)
    · unfold f_X11_plan f_X5_clear
      rw [if_pos ha1]
      rfl
    · unfold f_X12_plan
      rw [if_pos ha1]
      rfl
  by_cases e0 : a = 0
  · by_cases hb : 0 ≤ n.toInt ∧ n.toInt < (bn_nb A.1.1 : Int)
    · obtain ⟨b, hb1, rfl⟩ := (bp_isB (by omega)).mpr hb
      refine pl_fin hok hC hM 0 b (nI b) ⟨by omega, by omega, fun _ => hb1⟩ (fun _ => rfl) ?_ ?_
      · unfold f_X11_plan
        simp only [Nat.reduceAdd, Nat.zero_add]
        rw [if_neg ha1, if_pos e0, cc_hasBox_t hn hcN hb1]
        simp only [Option.bind_some]
        rw [if_neg bp_10, e0]
        rfl
      · intro I1 h1
        unfold f_X12_plan f_X12_plan_p23
        rw [if_neg ha1, if_pos e0, mm_isBox_t hn (hmq I1 h1) hb1]
        simp only [Option.bind_some]
        rw [if_neg bp_10, e0]
        rfl
    · refine bo_same h (x := -1) ?_ ?_
      · unfold f_X11_plan
        simp only [Nat.reduceAdd, Nat.zero_add]
        rw [if_neg ha1, if_pos e0, cc_hasBox hn hcN, if_neg hb]
        rfl
      · unfold f_X12_plan f_X12_plan_p23 f_X12_plan_p31 f_X12_plan_p44 f_X12_plan_p54
        rw [if_neg ha1, if_pos e0, mm_isBox hn hmN, if_neg hb]
        simp only [Option.bind_some]
        rw [if_pos trivial, if_neg (by rw [e0]; decide), if_neg (by rw [e0]; decide), if_pos trivial]
  by_cases e2 : a = 2
  · by_cases hb : 0 ≤ n.toInt ∧ n.toInt < (bn_nb A.1.1 : Int)
    · obtain ⟨b, hb1, rfl⟩ := (bp_isB (by omega)).mpr hb
      refine pl_fin hok hC hM 2 b (nI b) ⟨by omega, by omega, fun _ => hb1⟩ (fun _ => rfl) ?_ ?_
      · unfold f_X11_plan
        simp only [Nat.reduceAdd, Nat.zero_add]
        rw [if_neg ha1, if_neg e0, if_neg (by rw [e2]; decide), if_pos e2, cc_hasBox_t hn hcN hb1]
        simp only [Option.bind_some]
        rw [if_neg bp_10, e2]
        rfl
      · intro I1 h1
        unfold f_X12_plan f_X12_plan_p23
        rw [if_neg ha1, if_neg e0, if_pos e2, mm_isBox_t hn (hmq I1 h1) hb1]
        simp only [Option.bind_some]
        rw [if_neg bp_10, e2]
        rfl
    · refine bo_same h (x := -1) ?_ ?_
      · unfold f_X11_plan
        simp only [Nat.reduceAdd, Nat.zero_add]
        rw [if_neg ha1, if_neg e0, if_neg (by rw [e2]; decide), if_pos e2, cc_hasBox hn hcN, if_neg hb]
        rfl
      · unfold f_X12_plan f_X12_plan_p23 f_X12_plan_p31 f_X12_plan_p44 f_X12_plan_p54
        rw [if_neg ha1, if_neg e0, if_pos e2, mm_isBox hn hmN, if_neg hb]
        simp only [Option.bind_some]
        rw [if_pos trivial, if_neg (by rw [e2]; decide), if_neg (by rw [e2]; decide), if_pos trivial]
  by_cases g1 : a = 1
  · by_cases hw0 : bn_is A.1.1 n
    · obtain ⟨w, hw8, hw, rfl, hh⟩ := bo_wi hw0 hn
      refine pl_fin hok hC hM 1 w (nI w) ⟨by omega, hw8, fun q => by omega⟩ (fun _ => rfl) ?_ ?_
      · unfold f_X11_plan
        simp only [Nat.reduceAdd, Nat.zero_add]
        rw [if_neg ha1, if_neg e0, if_pos g1, cc_hasW_t hn hcN hw hh]
        simp only [Option.bind_some]
        rw [if_neg bp_10, g1]
        rfl
      · intro I1 h1
        unfold f_X12_plan f_X12_plan_p31
        rw [if_neg ha1, if_neg e0, if_neg e2, if_pos g1, mm_isW_t hn (hmq I1 h1) hw hh]
        simp only [Option.bind_some]
        rw [if_neg bp_10, g1]
        rfl
    · refine bo_same h (x := -1) ?_ ?_
      · unfold f_X11_plan
        simp only [Nat.reduceAdd, Nat.zero_add]
        rw [if_neg ha1, if_neg e0, if_pos g1, cc_hasW_f hn hcN hw0]
        rfl
      · unfold f_X12_plan f_X12_plan_p31 f_X12_plan_p44 f_X12_plan_p54
        rw [if_neg ha1, if_neg e0, if_neg e2, if_pos g1, mm_isW_f hn hmN hw0]
        simp only [Option.bind_some]
        rw [if_pos trivial, if_neg (by rw [g1]; decide), if_pos trivial]
  by_cases g3 : a = 3
  · refine pl_fin hok hC hM 3 0 n ⟨by omega, by omega, fun q => by omega⟩ (fun q => absurd rfl q) ?_ ?_
    · unfold f_X11_plan
      simp only [Nat.reduceAdd, Nat.zero_add]
      rw [if_neg ha1, if_neg e0, if_neg g1, if_neg e2, if_pos g3, g3]
      rfl
    · intro I1 h1
      unfold f_X12_plan f_X12_plan_p31 f_X12_plan_p44
      rw [if_neg ha1, if_neg e0, if_neg e2, if_neg g1, if_pos g3, g3]
      rfl
  refine bo_same h (x := -1) ?_ ?_
  · unfold f_X11_plan
    rw [if_neg ha1, if_neg e0, if_neg g1, if_neg e2, if_neg g3]
  · unfold f_X12_plan f_X12_plan_p31 f_X12_plan_p44 f_X12_plan_p54
    rw [if_neg ha1, if_neg e0, if_neg e2, if_neg g1, if_neg g3, if_pos rfl]
end OPS6
