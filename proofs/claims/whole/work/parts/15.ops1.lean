theorem bp_lt0 (a : Int32) : (a < 0) = (a.toInt < 0) := propext Int32.lt_iff_toInt_lt
theorem bp_leI (a b : Int32) : (a ≤ b) = (a.toInt ≤ b.toInt) := propext Int32.le_iff_toInt_le
theorem bp_ltI (a b : Int32) : (a < b) = (a.toInt < b.toInt) := propext Int32.lt_iff_toInt_lt
theorem bp_rg {a : Int32} {n : Nat} (hn : n < 100000) (h0 : 0 ≤ a.toInt) (h1 : a.toInt ≤ (n : Int)) : ∃ j, j ≤ n ∧ a = nI j := by
  obtain ⟨j, hj, rfl⟩ := nI_of (x := a) (by rw [bp_lt0]; omega)
  rw [nI_toInt hj] at h1
  exact ⟨j, by omega, rfl⟩
theorem bp_in_t {a : Int32} {lo hi : Int64} {I : Nat → Nat → Int32} {L : Nat → Nat → Int64} (h : lo.toInt ≤ a.toInt ∧ a.toInt ≤ hi.toInt) : f_X12_in a.toInt64 lo hi I L = some (1, I, L) := by
  rw [bp_in, if_pos (bp_inI.mpr h)]
theorem bp_in_f {a : Int32} {lo hi : Int64} {I : Nat → Nat → Int32} {L : Nat → Nat → Int64} (h : ¬ (lo.toInt ≤ a.toInt ∧ a.toInt ≤ hi.toInt)) : f_X12_in a.toInt64 lo hi I L = some (0, I, L) := by
  rw [bp_in, if_neg (fun q => h (bp_inI.mp q))]
section OPS1
variable {I : Nat → Nat → Int32} {L : Nat → Nat → Int64}
theorem op_box (h : bo_St I L) (a b : Int32) : bo_OK (f_X11_box 0 a b I L) (f_X12_box 156 a b) := by
  obtain ⟨A, hok, hC, hM⟩ := id h
  have hn : bn_ok A.1.1 := hok.1.1
  have hcN : bc_N I 2 A.1.1 := hC.1.1
  have hmN : bm_N (I 157) A.1.1 := hM.1.1
  by_cases ha : 0 ≤ a.toInt ∧ a.toInt ≤ 4
  · by_cases hb : 0 ≤ b.toInt ∧ b.toInt ≤ 9
    · have o1 := hn.1
      have c0 : ∀ X Y, (if a < 0 then X else if a ≤ (4 : Int32) then (if b < 0 then Y else if b ≤ (9 : Int32) then (f_X3_addBox 2 a b I L).bind (fun r6 => some (r6.1, r6.2.1, r6.2.2)) else Y) else X) = (f_X3_addBox 2 a b I L).bind (fun r6 => some (r6.1, r6.2.1, r6.2.2)) := by
        intro X Y
        rw [if_neg (by rw [bp_lt0]; omega), if_pos (by rw [bp_leI]; exact ha.2), if_neg (by rw [bp_lt0]; omega), if_pos (by rw [bp_leI]; exact hb.2)]
      by_cases h6 : bn_nb A.1.1 < 6
      · obtain ⟨j, hj, rfl⟩ := bp_rg (n := 4) (by omega) ha.1 ha.2
        have hne : (2 : Nat) ≠ 4 + bn_nb A.1.1 := by omega
        have hc : f_X11_box 0 (nI j) b I L = some (nI (bn_nb A.1.1), bf_u (bf_u (bf_u (bf_u I (4 + bn_nb A.1.1) 0 (nI j)) (4 + bn_nb A.1.1) 1 b) (4 + bn_nb A.1.1) 2 0) 2 2 (nI (bn_nb A.1.1 + 1)), L) := by
          refine (c0 _ _).trans ?_
          unfold f_X3_addBox f_X0_become
          rw [hcN.1, if_pos (show nI (bn_nb A.1.1) < (6 : Int32) from nI_lt (b := 6) h6 (by omega)), if_pos (bp_ok h6 (by omega)), bp_cl (by omega)]
          simp only [Option.bind_some, Nat.reduceAdd]
          rw [bf_u_at, bf_u_ne hne, bf_u_ne hne, bf_u_ne hne, hcN.1, nI_1, nI_pred]
        obtain ⟨I1, hI1⟩ : ∃ I1, I1 = bf_u (bf_u (bf_u (bf_u I (4 + bn_nb A.1.1) 0 (nI j)) (4 + bn_nb A.1.1) 1 b) (4 + bn_nb A.1.1) 2 0) 2 2 (nI (bn_nb A.1.1 + 1)) := ⟨_, rfl⟩
        rw [← hI1] at hc
        have hq : ∀ q, q ≠ 2 → q ≠ 4 + bn_nb A.1.1 → I1 q = I q := fun q q1 q2 => by rw [hI1, bf_u_ne q1, bf_u_ne q2, bf_u_ne q2, bf_u_ne q2]
        have hM1 : bm_A I1 L A := hM.fc (fun q hq1 => ⟨hq q (by omega) (by omega), rfl⟩)
        have hmN1 : bm_N (I1 157) A.1.1 := hM1.1.1
        obtain ⟨N1, hN1⟩ : ∃ N1 : bn_N, N1 = (bn_nb A.1.1 + 1, va_up (bn_bx A.1.1) (bn_nb A.1.1) (j, b, 0), bn_nw A.1.1, bn_wr A.1.1) := ⟨_, rfl⟩
        have hok1 : bn_ok N1 := by
          subst hN1
          obtain ⟨k1, k2, k3, k4, k5⟩ := hn
          refine ⟨h6, k2, fun c hc => ?_, fun w => ?_, k5⟩
          · by_cases q : c = bn_nb A.1.1
            · subst q; show (va_up _ _ _ _ : bn_B).1 ≤ 4; rw [vu_o]; exact hj
            · show (va_up _ _ _ _ : bn_B).1 ≤ 4
              have hc : c < bn_nb A.1.1 + 1 := hc
              rw [vu_n q]; exact k3 c (by omega)
          · obtain ⟨g1, g2⟩ := k4 w
            refine ⟨fun q => ?_, g2⟩
            obtain ⟨e1, e2, e3⟩ := g1 q
            exact ⟨Nat.lt_succ_of_lt e1, Nat.lt_succ_of_lt e2, e3⟩
        have hcN1 : bc_N I1 2 N1 := by
          subst hN1
          obtain ⟨k1, k2, k3, k4⟩ := hcN
          refine ⟨by rw [hI1, bf_u_at], by rw [hI1, bf_u_ni (by omega), bf_u_ne hne, bf_u_ne hne, bf_u_ne hne]; exact k2, fun c hc => ?_, fun w hw => (k4 w hw).cg (hq _ (by omega) (by omega)) (hq _ (by omega) (by omega))⟩
          have hc : c < bn_nb A.1.1 + 1 := hc
          by_cases q : c = bn_nb A.1.1
          · subst q
            show _ = nI (va_up _ _ _ _ : bn_B).1 ∧ _ = (va_up _ _ _ _ : bn_B).2.1 ∧ _ = (va_up _ _ _ _ : bn_B).2.2
            rw [vu_o, hI1, show 2 + 1 + 1 + bn_nb A.1.1 = 4 + bn_nb A.1.1 by omega, bf_u_ne (Ne.symm hne), bf_u_ni (by omega), bf_u_ni (by omega), bf_u_at, bf_u_ni (by omega), bf_u_at, bf_u_at]
            exact ⟨rfl, rfl, rfl⟩
          · show _ = nI (va_up _ _ _ _ : bn_B).1 ∧ _ = (va_up _ _ _ _ : bn_B).2.1 ∧ _ = (va_up _ _ _ _ : bn_B).2.2
            rw [vu_n q, hq _ (by omega) (by omega)]
            exact k3 c (by omega)
        have hm : f_X12_box 156 (nI j) b I1 L = some (nI (bn_nb A.1.1), bf_u (bf_u (bf_u (bf_u I1 157 (5 + 3 * bn_nb A.1.1) (nI j)) 157 (5 + 3 * bn_nb A.1.1 + 1) b) 157 (5 + 3 * bn_nb A.1.1 + 2) 0) 157 0 (nI (bn_nb A.1.1 + 1)), L) := by
          unfold f_X12_box
          rw [bp_in_t (lo := 0) (hi := 4) ha]
          simp only [Option.bind_some]
          rw [if_neg bp_10, bp_in_t (lo := 0) (hi := 9) hb]
          simp only [Option.bind_some]
          rw [if_neg bp_10, bp_0]
          simp only [Nat.reduceAdd]
          rw [hmN1.1, if_neg (show ¬ nI (bn_nb A.1.1) = (6 : Int32) from fun q => by rw [show (6 : Int32) = nI 6 from rfl, bp_eq (by omega) (by omega)] at q; omega), bp_ib, bp_p1, bp_p2, if_pos (bp_ok (by omega) (by omega)), if_pos (bp_ok (by omega) (by omega)), if_pos (bp_ok (by omega) (by omega)), bp_cl (by omega), bp_cl (by omega), bp_cl (by omega), bp_p1]
        refine bo_mk (A := bn_sN A N1) hc hm (fun q hq1 => ⟨by rw [bf_u_ne (by omega), bf_u_ne (by omega), bf_u_ne (by omega), bf_u_ne (by omega)], rfl⟩) (hok.setN hok1 (by subst hN1; exact Nat.le_succ _)) (hC.setN hok (fun q hq1 => hq q (by omega) (by omega)) hcN1) ?_
        refine hM1.setN hok (by rw [bf_u_ne (by omega), bf_u_ne (by omega), bf_u_ne (by omega), bf_u_ne (by omega)]) (by rw [bf_u_ne (by omega), bf_u_ne (by omega), bf_u_ne (by omega), bf_u_ne (by omega)]) (by rw [bf_u_ne (by omega), bf_u_ne (by omega), bf_u_ne (by omega), bf_u_ne (by omega)]) (by rw [bf_u_ne (by omega), bf_u_ne (by omega), bf_u_ne (by omega), bf_u_ne (by omega)]) (by rw [bf_u_ne (by omega), bf_u_ne (by omega), bf_u_ne (by omega), bf_u_ne (by omega)]) (by rw [bf_u_ne (by omega), bf_u_ne (by omega), bf_u_ne (by omega), bf_u_ne (by omega)]) (fun k hk => by rw [bf_u_ni (by omega), bf_u_ni (by omega), bf_u_ni (by omega), bf_u_ni (by omega)]) ?_
        subst hN1
        obtain ⟨k1, k2, k3, k4⟩ := hmN1
        refine ⟨by rw [bf_u_at], by rw [bf_u_ni (by omega), bf_u_ni (by omega), bf_u_ni (by omega), bf_u_ni (by omega)]; exact k2, fun c hc => ?_, fun w hw => (k4 w hw).cg (hn.2.2.2.1 w).2.1 (fun k ka kb => by rw [bf_u_ni (by omega), bf_u_ni (by omega), bf_u_ni (by omega), bf_u_ni (by omega)])⟩
        have hc : c < bn_nb A.1.1 + 1 := hc
        show _ = nI (va_up _ _ _ _ : bn_B).1 ∧ _ = (va_up _ _ _ _ : bn_B).2.1 ∧ _ = (va_up _ _ _ _ : bn_B).2.2
        by_cases q : c = bn_nb A.1.1
        · subst q
          rw [vu_o, bf_u_ni (by omega), bf_u_ni (by omega), bf_u_ni (by omega), bf_u_at, bf_u_ni (by omega), bf_u_ni (by omega), bf_u_at, bf_u_ni (by omega), bf_u_at]
          exact ⟨rfl, rfl, rfl⟩
        · rw [vu_n q]
          have hh : ∀ k, 5 ≤ k → k < 5 + 3 * bn_nb A.1.1 → bf_u (bf_u (bf_u (bf_u I1 157 (5 + 3 * bn_nb A.1.1) (nI j)) 157 (5 + 3 * bn_nb A.1.1 + 1) b) 157 (5 + 3 * bn_nb A.1.1 + 2) 0) 157 0 (nI (bn_nb A.1.1 + 1)) 157 k = I1 157 k := fun k ka kb => by rw [bf_u_ni (by omega), bf_u_ni (by omega), bf_u_ni (by omega), bf_u_ni (by omega)]
          rw [hh _ (by omega) (by omega), hh _ (by omega) (by omega), hh _ (by omega) (by omega)]
          exact k3 c (by omega)
      · have e6 : bn_nb A.1.1 = 6 := by omega
        refine bo_same h (x := -4) ?_ ?_
        · refine (c0 _ _).trans ?_
          unfold f_X3_addBox
          rw [hcN.1, e6, if_neg (by decide)]
          rfl
        · unfold f_X12_box
          rw [bp_in_t (lo := 0) (hi := 4) ha]
          simp only [Option.bind_some]
          rw [if_neg bp_10, bp_in_t (lo := 0) (hi := 9) hb]
          simp only [Option.bind_some]
          rw [if_neg bp_10, bp_0]
          simp only [Nat.reduceAdd]
          rw [hmN.1, e6, if_pos (by decide)]
    · refine bo_same h (x := -2) ?_ ?_
      · unfold f_X11_box
        rw [if_neg (by rw [bp_lt0]; omega), if_pos (by rw [bp_leI]; exact ha.2)]
        by_cases q : b < 0
        · rw [if_pos q]
        · rw [if_neg q, if_neg (by rw [bp_lt0] at q; rw [bp_leI]; exact fun z => hb ⟨by omega, z⟩)]
      · unfold f_X12_box
        rw [bp_in_t (lo := 0) (hi := 4) ha]
        simp only [Option.bind_some]
        rw [if_neg bp_10, bp_in_f (lo := 0) (hi := 9) hb]
        rfl
  · refine bo_same h (x := -1) ?_ ?_
    · unfold f_X11_box
      by_cases q : a < 0
      · rw [if_pos q]
      · rw [if_neg q, if_neg (by rw [bp_lt0] at q; rw [bp_leI]; exact fun z => ha ⟨by omega, z⟩)]
    · unfold f_X12_box
      rw [bp_in_f (lo := 0) (hi := 4) ha]
      rfl
end OPS1
