section OPS5
variable {I : Nat → Nat → Int32} {L : Nat → Nat → Int64}
theorem op_see (h : bo_St I L) (a n x : Int32) : bo_OK (f_X11_see 0 a n x I L) (f_X12_see 156 a n x) := by
  obtain ⟨A, hok, hC, hM⟩ := id h
  have hn : bn_ok A.1.1 := hok.1.1
  have hcN : bc_N I 2 A.1.1 := hC.1.1
  have hmN : bm_N (I (156 + 1)) A.1.1 := hM.1.1
  have h5 : (bs_s A.1).length ≤ 5 := hok.1.2.1
  have c5 : I 27 0 = nI (bs_s A.1).length := hC.1.2.1
  have m5 : I 157 2 = nI (bs_s A.1).length := hM.1.2.1
  by_cases ha1 : a = -1
  · refine bo_mk (x := 0) (I1 := bf_u I 27 0 0) (I2 := bf_u (bf_u I 27 0 0) 157 2 0) (L1 := L) (L2 := L) ?_ ?_ (fun q hq => ⟨bf_u_ne (by omega), rfl⟩) (ok_clr_s hok) (ca_clr_s hC hok) (ma_clr_s (hM.fc (fun q hq => ⟨bf_u_ne (by omega), rfl⟩)) hok)
    · unfold f_X11_see f_X5_clear
      rw [if_pos ha1]
      rfl
    · unfold f_X12_see
      rw [if_pos ha1]
      rfl
  · by_cases ha : bn_is A.1.1 a
    · obtain ⟨w, hw8, hw, rfl, hh⟩ := bo_wi ha hn
      by_cases hv : 0 ≤ n.toInt ∧ n.toInt ≤ 4
      · have q1 : ¬ n < 0 := by rw [bp_lt0]; omega
        have q2 : n ≤ (4 : Int32) := by rw [bp_leI]; exact hv.2
        by_cases hl : (bs_s A.1).length < 5
        · obtain ⟨j, hj, rfl⟩ := bp_rg (n := 4) (by omega) hv.1 hv.2
          have hM1 := hM.fc (I2 := bf_u (bf_u (bf_u (bf_u I 28 (bs_s A.1).length (nI w)) 29 (bs_s A.1).length (nI j)) 30 (bs_s A.1).length x) 27 0 (nI ((bs_s A.1).length + 1))) (L2 := L) (fun q hq => ⟨by simp (disch := omega) only [bf_u_ne], rfl⟩)
          refine bo_mk (x := nI ((bs_s A.1).length + 1)) ?_ ?_ ?_ (ok_app_s (x := (w, j, x)) hok hl ⟨hw8, hj⟩) (ca_app_s (x := (w, j, x)) hC hok hl) (ma_app_s (x := (w, j, x)) hM1 hok hl)
          · unfold f_X11_see
            simp only [Nat.reduceAdd, Nat.zero_add]
            rw [if_neg ha1, cc_hasW_t hn hcN hw hh]
            simp only [Option.bind_some]
            rw [if_neg bp_10, if_neg q1, if_pos q2, rw_append (o := 27) _ _ _ c5 (by decide +kernel) (by decide +kernel) (by decide +kernel) hl (by omega)]
            rfl
          · have hmN1 : bm_N ((bf_u (bf_u (bf_u (bf_u I 28 (bs_s A.1).length (nI w)) 29 (bs_s A.1).length (nI j)) 30 (bs_s A.1).length x) 27 0 (nI ((bs_s A.1).length + 1))) (156 + 1)) A.1.1 := hM1.1.1
            have m51 : bf_u (bf_u (bf_u (bf_u I 28 (bs_s A.1).length (nI w)) 29 (bs_s A.1).length (nI j)) 30 (bs_s A.1).length x) 27 0 (nI ((bs_s A.1).length + 1)) 157 2 = nI (bs_s A.1).length := hM1.1.2.1
            unfold f_X12_see
            rw [if_neg ha1, mm_isW_t hn hmN1 hw hh]
            simp only [Option.bind_some]
            rw [if_neg bp_10, bp_in_t (lo := 0) (hi := 4) hv]
            simp only [Option.bind_some]
            rw [if_neg bp_10, bp_2]
            simp only [Nat.reduceAdd]
            rw [m51, if_neg (show ¬ nI (bs_s A.1).length = (5 : Int32) from fun q => by rw [show (5 : Int32) = nI 5 from rfl, bp_eq (by omega) (by omega)] at q; omega), show (23 : Int32) = nI 23 from rfl, show (3 : Int32) = nI 3 from rfl, pk_mul, nI_add, bp_p1, bp_p2]
            simp (disch := omega) only [↓bp_okT, ↓reduceIte, bp_cl, bp_p1]
          · exact fun q hq => ⟨by simp (disch := omega) only [bf_u_ne], rfl⟩
        · have e5 : (bs_s A.1).length = 5 := by omega
          refine bo_same h (x := -4) ?_ ?_
          · unfold f_X11_see
            simp only [Nat.reduceAdd, Nat.zero_add]
            rw [if_neg ha1, cc_hasW_t hn hcN hw hh]
            simp only [Option.bind_some]
            rw [if_neg bp_10, if_neg q1, if_pos q2, rw_full (o := 27) (N := 5) _ _ _ (by rw [c5, e5]) (by decide +kernel) (by omega)]
            rfl
          · unfold f_X12_see
            rw [if_neg ha1, mm_isW_t hn hmN hw hh]
            simp only [Option.bind_some]
            rw [if_neg bp_10, bp_in_t (lo := 0) (hi := 4) hv]
            simp only [Option.bind_some]
            rw [if_neg bp_10, bp_2]
            simp only [Nat.reduceAdd]
            rw [m5, e5, if_pos (by decide)]
      · refine bo_same h (x := -2) ?_ ?_
        · unfold f_X11_see
          simp only [Nat.reduceAdd, Nat.zero_add]
          rw [if_neg ha1, cc_hasW_t hn hcN hw hh]
          simp only [Option.bind_some]
          rw [if_neg bp_10]
          by_cases q1 : n < 0
          · rw [if_pos q1]
          · have q2 : ¬ n ≤ (4 : Int32) := by rw [bp_lt0] at q1; rw [bp_leI]; exact fun z => hv ⟨by omega, z⟩
            rw [if_neg q1, if_neg q2]
        · unfold f_X12_see
          rw [if_neg ha1, mm_isW_t hn hmN hw hh]
          simp only [Option.bind_some]
          rw [if_neg bp_10, bp_in_f (lo := 0) (hi := 4) hv]
          rfl
    · refine bo_same h (x := -1) ?_ ?_
      · unfold f_X11_see
        simp only [Nat.reduceAdd, Nat.zero_add]
        rw [if_neg ha1, cc_hasW_f hn hcN ha]
        rfl
      · unfold f_X12_see
        rw [if_neg ha1, mm_isW_f hn hmN ha]
        rfl
theorem op_book (h : bo_St I L) (a n : Int32) : bo_OK (f_X11_book 0 a n I L) (f_X12_book 156 a n) := by
  obtain ⟨A, hok, hC, hM⟩ := id h
  have hn : bn_ok A.1.1 := hok.1.1
  have hcN : bc_N I 2 A.1.1 := hC.1.1
  have hmN : bm_N (I (156 + 1)) A.1.1 := hM.1.1
  have h5 : (bs_b A.1).length ≤ 8 := hok.1.2.2.2.1
  have c5 : I 35 0 = nI (bs_b A.1).length := hC.1.2.2.2.1
  have m5 : I 157 4 = nI (bs_b A.1).length := hM.1.2.2.2.1
  by_cases ha1 : a = -1
  · refine bo_mk (x := 0) (I1 := bf_u I 35 0 0) (I2 := bf_u (bf_u I 35 0 0) 157 4 0) (L1 := L) (L2 := L) ?_ ?_ (fun q hq => ⟨bf_u_ne (by omega), rfl⟩) (ok_clr_b hok) (ca_clr_b hC hok) (ma_clr_b (hM.fc (fun q hq => ⟨bf_u_ne (by omega), rfl⟩)) hok)
    · unfold f_X11_book f_X5_clear
      rw [if_pos ha1]
      rfl
    · unfold f_X12_book
      rw [if_pos ha1]
      rfl
  · by_cases ha : bn_is A.1.1 a
    · obtain ⟨w, hw8, hw, rfl, hh⟩ := bo_wi ha hn
      by_cases hv : 0 ≤ n.toInt ∧ n.toInt ≤ 99
      · have q1 : ¬ n < 0 := by rw [bp_lt0]; omega
        have q2 : n ≤ (99 : Int32) := by rw [bp_leI]; exact hv.2
        by_cases hl : (bs_b A.1).length < 8
        · obtain ⟨j, hj, rfl⟩ := bp_rg (n := 99) (by omega) hv.1 hv.2
          have hM1 := hM.fc (I2 := bf_u (bf_u (bf_u (bf_u I 36 (bs_b A.1).length (nI w)) 37 (bs_b A.1).length (nI j)) 38 (bs_b A.1).length 0) 35 0 (nI ((bs_b A.1).length + 1))) (L2 := L) (fun q hq => ⟨by simp (disch := omega) only [bf_u_ne], rfl⟩)
          refine bo_mk (x := nI ((bs_b A.1).length + 1)) ?_ ?_ ?_ (ok_app_b (x := (w, j)) hok hl ⟨hw8, hj⟩) (ca_app_b (x := (w, j)) (z := 0) hC hok hl) (ma_app_b (x := (w, j)) hM1 hok hl)
          · unfold f_X11_book
            simp only [Nat.reduceAdd, Nat.zero_add]
            rw [if_neg ha1, cc_hasW_t hn hcN hw hh]
            simp only [Option.bind_some]
            rw [if_neg bp_10, if_neg q1, if_pos q2, rw_append (o := 35) _ _ _ c5 (by decide +kernel) (by decide +kernel) (by decide +kernel) hl (by omega)]
            rfl
          · have hmN1 : bm_N ((bf_u (bf_u (bf_u (bf_u I 36 (bs_b A.1).length (nI w)) 37 (bs_b A.1).length (nI j)) 38 (bs_b A.1).length 0) 35 0 (nI ((bs_b A.1).length + 1))) (156 + 1)) A.1.1 := hM1.1.1
            have m51 : bf_u (bf_u (bf_u (bf_u I 36 (bs_b A.1).length (nI w)) 37 (bs_b A.1).length (nI j)) 38 (bs_b A.1).length 0) 35 0 (nI ((bs_b A.1).length + 1)) 157 4 = nI (bs_b A.1).length := hM1.1.2.2.2.1
            unfold f_X12_book
            rw [if_neg ha1, mm_isW_t hn hmN1 hw hh]
            simp only [Option.bind_some]
            rw [if_neg bp_10, bp_in_t (lo := 0) (hi := 99) hv]
            simp only [Option.bind_some]
            rw [if_neg bp_10, bp_4]
            simp only [Nat.reduceAdd]
            rw [m51, if_neg (show ¬ nI (bs_b A.1).length = (8 : Int32) from fun q => by rw [show (8 : Int32) = nI 8 from rfl, bp_eq (by omega) (by omega)] at q; omega), show (58 : Int32) = nI 58 from rfl, show (2 : Int32) = nI 2 from rfl, pk_mul, nI_add, bp_p1]
            simp (disch := omega) only [↓bp_okT, ↓reduceIte, bp_cl, bp_p1]
          · exact fun q hq => ⟨by simp (disch := omega) only [bf_u_ne], rfl⟩
        · have e5 : (bs_b A.1).length = 8 := by omega
          refine bo_same h (x := -4) ?_ ?_
          · unfold f_X11_book
            simp only [Nat.reduceAdd, Nat.zero_add]
            rw [if_neg ha1, cc_hasW_t hn hcN hw hh]
            simp only [Option.bind_some]
            rw [if_neg bp_10, if_neg q1, if_pos q2, rw_full (o := 35) (N := 8) _ _ _ (by rw [c5, e5]) (by decide +kernel) (by omega)]
            rfl
          · unfold f_X12_book
            rw [if_neg ha1, mm_isW_t hn hmN hw hh]
            simp only [Option.bind_some]
            rw [if_neg bp_10, bp_in_t (lo := 0) (hi := 99) hv]
            simp only [Option.bind_some]
            rw [if_neg bp_10, bp_4]
            simp only [Nat.reduceAdd]
            rw [m5, e5, if_pos (by decide)]
      · refine bo_same h (x := -2) ?_ ?_
        · unfold f_X11_book
          simp only [Nat.reduceAdd, Nat.zero_add]
          rw [if_neg ha1, cc_hasW_t hn hcN hw hh]
          simp only [Option.bind_some]
          rw [if_neg bp_10]
          by_cases q1 : n < 0
          · rw [if_pos q1]
          · have q2 : ¬ n ≤ (99 : Int32) := by rw [bp_lt0] at q1; rw [bp_leI]; exact fun z => hv ⟨by omega, z⟩
            rw [if_neg q1, if_neg q2]
        · unfold f_X12_book
          rw [if_neg ha1, mm_isW_t hn hmN hw hh]
          simp only [Option.bind_some]
          rw [if_neg bp_10, bp_in_f (lo := 0) (hi := 99) hv]
          rfl
    · refine bo_same h (x := -1) ?_ ?_
      · unfold f_X11_book
        simp only [Nat.reduceAdd, Nat.zero_add]
        rw [if_neg ha1, cc_hasW_f hn hcN ha]
        rfl
      · unfold f_X12_book
        rw [if_neg ha1, mm_isW_f hn hmN ha]
        rfl
end OPS5
