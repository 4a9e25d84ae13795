section OPQ
variable {I : Nat → Nat → Int32} {L : Nat → Nat → Int64}
theorem bo_quiet {α : Type} {A : bn_A} {c : Option (α × bf_St)} {m : (Nat → Nat → Int32) → (Nat → Nat → Int64) → Option (α × bf_St)} {x : α} {I1 I2 : Nat → Nat → Int32} {L2 : Nat → Nat → Int64} (hok : ba_ok A) (hC : bc_A I L A) (hM : bm_A I L A) (hc : c = some (x, I1, L)) (h1 : ∀ q, q < 77 ∨ 124 ≤ q → I1 q = I q) (hm : m I1 L = some (x, I2, L2)) (F : mq_F I1 I2 L L2) (hg : ∀ k, k < 914 → I2 157 k = I1 157 k) : bo_OK c m := bo_look hok hC hc h1 hm F.fm (F.A hok (hM.fc (fun q hq => ⟨h1 q (by omega), rfl⟩)) hg)
theorem op_of (h : bo_St I L) (a w : Int32) : bo_OK (f_X11_of 0 a w I L) (f_X12_of 156 a w) := by
  obtain ⟨A, hok, hC, hM⟩ := id h
  have hn : bn_ok A.1.1 := hok.1.1
  have o1 := hn.1
  have o2 := hn.2.1
  have hcN : bc_N I 2 A.1.1 := hC.1.1
  have hmN : bm_N (I (156 + 1)) A.1.1 := hM.1.1
  by_cases hb : 0 ≤ a.toInt ∧ a.toInt < (bn_nb A.1.1 : Int)
  · obtain ⟨b, hb1, rfl⟩ := (bp_isB (by omega)).mpr hb
    have cb := hcN.2.2.1 b hb1
    have mb := hmN.2.2.1 b hb1
    by_cases h0 : w = 0
    · refine bo_same h (x := nI (bn_bx A.1.1 b).1) ?_ ?_
      · unfold f_X11_of
        simp only [Nat.reduceAdd, Nat.zero_add]
        rw [cc_hasBox_t hn hcN hb1]
        simp only [Option.bind_some]
        rw [if_neg bp_10, if_pos h0, if_pos (bp_ok (by omega) (by omega)), bp_cl (by omega)]
        exact congrArg (fun z => some (z, I, L)) cb.1
      · unfold f_X12_of
        rw [mm_isBox_t hn hmN hb1]
        simp only [Option.bind_some]
        rw [if_neg bp_10, if_pos h0, h0, bp_ib, Int32.add_zero, if_pos (bp_ok (by omega) (by omega)), bp_cl (by omega)]
        exact congrArg (fun z => some (z, I, L)) mb.1
    by_cases h1 : w = 1
    · refine bo_same h (x := (bn_bx A.1.1 b).2.1) ?_ ?_
      · unfold f_X11_of
        simp only [Nat.reduceAdd, Nat.zero_add]
        rw [cc_hasBox_t hn hcN hb1]
        simp only [Option.bind_some]
        rw [if_neg bp_10, if_neg h0, if_pos h1, if_pos (bp_ok (by omega) (by omega)), bp_cl (by omega)]
        exact congrArg (fun z => some (z, I, L)) cb.2.1
      · unfold f_X12_of
        rw [mm_isBox_t hn hmN hb1]
        simp only [Option.bind_some]
        rw [if_neg bp_10, if_neg h0, if_pos h1, h1, bp_ib, bp_p1, if_pos (bp_ok (by omega) (by omega)), bp_cl (by omega)]
        exact congrArg (fun z => some (z, I, L)) mb.2.1
    by_cases h2 : w = 2
    · refine bo_same h (x := (bn_bx A.1.1 b).2.2) ?_ ?_
      · unfold f_X11_of
        simp only [Nat.reduceAdd, Nat.zero_add]
        rw [cc_hasBox_t hn hcN hb1]
        simp only [Option.bind_some]
        rw [if_neg bp_10, if_neg h0, if_neg h1, if_pos h2, if_pos (bp_ok (by omega) (by omega)), bp_cl (by omega)]
        exact congrArg (fun z => some (z, I, L)) cb.2.2
      · unfold f_X12_of
        rw [mm_isBox_t hn hmN hb1]
        simp only [Option.bind_some]
        rw [if_neg bp_10, if_neg h0, if_neg h1, if_pos h2, h2, bp_ib, bp_p2, if_pos (bp_ok (by omega) (by omega)), bp_cl (by omega)]
        exact congrArg (fun z => some (z, I, L)) mb.2.2
    by_cases h3 : w = 3
    · obtain ⟨I1, e1, e2, e3⟩ := cl_look (L := L) hn (show 2 + 25 ≤ 102 by omega) hcN
      have hmN1 : bm_N (I1 157) A.1.1 := by rw [e2 _ (by omega)]; exact hmN
      rcases tm_cs hn with hev | ⟨t, hT⟩
      · obtain ⟨z1, z2⟩ := e3.f hev
        obtain ⟨I2, L2, k1, k2, k3⟩ := ml_evenF (L := L) hn hmN1 hev
        refine bo_quiet hok hC hM (x := -5) (I1 := I1) (I2 := I2) (L2 := L2) ?_ (fun q hq => e2 q (by omega)) ?_ k2 (fun k _ => by rw [k3 _ (by omega)])
        · unfold f_X11_of
          simp only [Nat.reduceAdd, Nat.zero_add]
          rw [cc_hasBox_t hn hcN hb1]
          simp only [Option.bind_some]
          rw [if_neg bp_10, if_neg h0, if_neg h1, if_neg h2, if_pos h3]
          unfold f_X11_timesOf
          simp only [Nat.reduceAdd, Nat.zero_add]
          rw [e1]
          simp only [Option.bind_some]
          rw [z1, if_neg bp_10]
          rfl
        · unfold f_X12_of
          rw [mm_isBox_t hn hmN1 hb1]
          simp only [Option.bind_some]
          rw [if_neg bp_10, if_neg h0, if_neg h1, if_neg h2, if_pos h3, k1]
          rfl
      · obtain ⟨z1, z2⟩ := e3.t hn hT
        obtain ⟨I2, L2, k1, k2, k3, k4⟩ := ml_evenT (L := L) hn hmN1 hT
        refine bo_quiet hok hC hM (x := nI (t b)) (I1 := I1) (I2 := I2) (L2 := L2) ?_ (fun q hq => e2 q (by omega)) ?_ k2 (fun k _ => by rw [k3 _ (by omega)])
        · unfold f_X11_of
          simp only [Nat.reduceAdd, Nat.zero_add]
          rw [cc_hasBox_t hn hcN hb1]
          simp only [Option.bind_some]
          rw [if_neg bp_10, if_neg h0, if_neg h1, if_neg h2, if_pos h3]
          unfold f_X11_timesOf
          simp only [Nat.reduceAdd, Nat.zero_add]
          rw [e1]
          simp only [Option.bind_some]
          rw [z1, if_pos rfl, if_pos (bp_ok (by omega) (by omega)), bp_cl (by omega)]
          exact congrArg (fun z => some (z, I1, L)) (z2.1 b (by omega))
        · unfold f_X12_of
          rw [mm_isBox_t hn hmN1 hb1]
          simp only [Option.bind_some]
          rw [if_neg bp_10, if_neg h0, if_neg h1, if_neg h2, if_pos h3, k1]
          simp only [Option.bind_some]
          rw [if_neg bp_10, if_pos (bp_ok (by omega) (by omega)), bp_cl (by omega)]
          exact congrArg (fun z => some (z, I2, L2)) (k4 b hb1)
    by_cases h4 : w = 4
    · obtain ⟨I1, e1, e2⟩ := cl_can (L := L) (c := 102) (o := 2) (b := b) (by omega) hn hcN (by omega)
      have hmN1 : bm_N (I1 (156 + 1)) A.1.1 := by rw [e2 _ (by omega)]; exact hmN
      refine bo_quiet hok hC hM (x := if bn_can A.1.1 b then 1 else 0) (I1 := I1) (I2 := I1) (L2 := L) ?_ (fun q hq => e2 q (by omega)) ?_ mq_F.rf (fun _ _ => rfl)
      · unfold f_X11_of
        simp only [Nat.reduceAdd, Nat.zero_add]
        rw [cc_hasBox_t hn hcN hb1]
        simp only [Option.bind_some]
        rw [if_neg bp_10, if_neg h0, if_neg h1, if_neg h2, if_neg h3, if_pos h4, e1]
        simp only [Option.bind_some]
        by_cases q : bn_can A.1.1 b
        · rw [if_pos q, if_neg bp_10]
        · rw [if_neg q, if_pos rfl]
      · unfold f_X12_of
        rw [mm_isBox_t hn hmN1 hb1]
        simp only [Option.bind_some]
        rw [if_neg bp_10, if_neg h0, if_neg h1, if_neg h2, if_neg h3, if_pos h4, ml_canFire hn hmN1 (by omega)]
        simp only [Option.bind_some]
        by_cases q : bn_can A.1.1 b
        · rw [if_pos q, if_neg bp_10]
        · rw [if_neg q, if_pos rfl]
    by_cases h5 : w = 5
    · refine bo_same h (x := nI (fb_R A.1.1 b)) ?_ ?_
      · unfold f_X11_of
        simp only [Nat.reduceAdd, Nat.zero_add]
        rw [cc_hasBox_t hn hcN hb1]
        simp only [Option.bind_some]
        rw [if_neg bp_10, if_neg h0, if_neg h1, if_neg h2, if_neg h3, if_neg h4, if_pos h5, cl_fb hn hcN (by omega)]
        rfl
      · unfold f_X12_of
        rw [mm_isBox_t hn hmN hb1]
        simp only [Option.bind_some]
        rw [if_neg bp_10, if_neg h0, if_neg h1, if_neg h2, if_neg h3, if_neg h4, if_pos h5, ml_fb hn hmN (by omega)]
        rfl
    by_cases h6 : w = 6
    · refine bo_same h (x := bfold (wr_t A.1.1 b) 8 0 0) ?_ ?_
      · unfold f_X11_of
        simp only [Nat.reduceAdd, Nat.zero_add]
        rw [cc_hasBox_t hn hcN hb1]
        simp only [Option.bind_some]
        rw [if_neg bp_10, if_neg h0, if_neg h1, if_neg h2, if_neg h3, if_neg h4, if_neg h5, if_pos h6, cl_wt hn hcN (by omega)]
        rfl
      · unfold f_X12_of
        rw [mm_isBox_t hn hmN hb1]
        simp only [Option.bind_some]
        rw [if_neg bp_10, if_neg h0, if_neg h1, if_neg h2, if_neg h3, if_neg h4, if_neg h5, if_pos h6, ml_wt hn hmN (by omega)]
        rfl
    by_cases h7 : w = 7
    · refine bo_same h (x := bfold (wr_f A.1.1 b) 8 0 0) ?_ ?_
      · unfold f_X11_of
        simp only [Nat.reduceAdd, Nat.zero_add]
        rw [cc_hasBox_t hn hcN hb1]
        simp only [Option.bind_some]
        rw [if_neg bp_10, if_neg h0, if_neg h1, if_neg h2, if_neg h3, if_neg h4, if_neg h5, if_neg h6, if_pos h7, cl_wf hn hcN (by omega)]
        rfl
      · unfold f_X12_of
        rw [mm_isBox_t hn hmN hb1]
        simp only [Option.bind_some]
        rw [if_neg bp_10, if_neg h0, if_neg h1, if_neg h2, if_neg h3, if_neg h4, if_neg h5, if_neg h6, if_pos h7, ml_wf hn hmN (by omega)]
        rfl
    refine bo_same h (x := -1) ?_ ?_
    · unfold f_X11_of
      simp only [Nat.reduceAdd, Nat.zero_add]
      rw [cc_hasBox_t hn hcN hb1]
      simp only [Option.bind_some]
      rw [if_neg bp_10, if_neg h0, if_neg h1, if_neg h2, if_neg h3, if_neg h4, if_neg h5, if_neg h6, if_neg h7]
    · unfold f_X12_of
      rw [mm_isBox_t hn hmN hb1]
      simp only [Option.bind_some]
      rw [if_neg bp_10, if_neg h0, if_neg h1, if_neg h2, if_neg h3, if_neg h4, if_neg h5, if_neg h6, if_neg h7]
  · refine bo_same h (x := -1) ?_ ?_
    · unfold f_X11_of
      simp only [Nat.reduceAdd, Nat.zero_add]
      rw [cc_hasBox hn hcN, if_neg hb]
      rfl
    · unfold f_X12_of
      rw [mm_isBox hn hmN, if_neg hb]
      rfl
end OPQ
