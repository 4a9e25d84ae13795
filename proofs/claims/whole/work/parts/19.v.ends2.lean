section OPU2
variable {L : Nat → Nat → Int64}
variable {I : Nat → Nat → Int32}
theorem op_ends (h : bo_St I L) (a : Int32) : bo_OK (f_X11_ends 0 a I L) (f_X12_ends 156 a) := by
  obtain ⟨A, hok, hC, hM⟩ := id h
  have hn : bn_ok A.1.1 := hok.1.1
  have hcN : bc_N I 2 A.1.1 := hC.1.1
  have hmN : bm_N (I (156 + 1)) A.1.1 := hM.1.1
  by_cases ha : 0 ≤ a.toInt ∧ a.toInt ≤ 1
  · have q1 : ¬ a < 0 := by rw [bp_lt0]; omega
    have q2 : a ≤ (1 : Int32) := by rw [bp_leI, show (1 : Int32).toInt = 1 from rfl]; exact ha.2
    have hP : (bs_p A.1).length ≤ 10 := hok.1.2.2.1
    have hPk : ∀ x ∈ bs_p A.1, pl_k A.1.1 x := hok.1.2.2.2.2.2.1
    obtain ⟨I1, c1, c2, c3⟩ := cp_net (L := L) (o := 77) (a := 2) hn (by omega) lk_tr lk_nw I hcN
    obtain ⟨I2, M, e1, e2, e3, e4, e5⟩ := cl_ends29 (L := L) (v := a) hP (fun I10 L10 => (f_X11_ends_p77 0 a I10 L10)) (bs_p A.1) 400 0 A.1.1 I1 rfl (by omega) (by omega) hn hPk c2 (by rw [c3 31 (by omega)]; exact hC.1.2.2.1) (fun k x hk => by rw [c3 32 (by omega), c3 33 (by omega)]; exact hC.1.2.2.2.2.2.1 k x hk)
    have fr : ∀ q, q < 77 ∨ 124 ≤ q → I2 q = I q := fun q hq => by rw [e5 q (by omega), c3 q (by omega)]
    have hM2 : bm_A I2 L A := hM.fc (fun q hq => ⟨fr q (by omega), rfl⟩)
    obtain ⟨I3, g1, g2, g3⟩ := ml_copies (L := L) (a := 157) (b := 169) (by omega) lk157 lk169 I2
    have F1 : mq_F I2 I3 L L := ⟨fun q hq => g3 q (by omega), g3 _ (by omega), g3 _ (by omega), g3 _ (by omega), g3 _ (by omega), by rw [g3 _ (by omega)], by rw [g3 _ (by omega)], fun _ _ _ => rfl, fun p hp => by rw [g3 _ (by omega)]⟩
    obtain ⟨I4, L4, k1, k2, k3, k4, k5⟩ := ml_ends27 (v := a) hP (fun I11 L11 => (f_X12_ends_p71 156 a I11 L11)) (bs_p A.1) 400 0 A.1.1 M I3 L rfl (by omega) (by omega) hn hPk (by rw [g3 _ (by omega)]; exact hM2.1.1) (by rw [g3 _ (by omega)]; exact hM2.1.2.2.1) (fun k x hk => by rw [g3 157 (by omega)]; exact hM2.1.2.2.2.2.2.1 k x hk) e2
    have o2 := k3.2.1
    obtain ⟨I5, m1, m2, m3⟩ := ml_back (L := L4) (I := I4)
    have F5 : mq_F I2 I5 L L4 := by
      refine (F1.tr k2).tr ⟨fun q hq => m3 q (by omega), m3 _ (by omega), m3 _ (by omega), m3 _ (by omega), m3 _ (by omega), by rw [m3 _ (by omega)], by rw [m3 _ (by omega)], fun _ _ _ => rfl, fun p hp => ?_⟩
      rw [m2 p (by omega), k5, g2 p (by omega), k2.2.2.2.2.2.2.2.2 p hp, g3 _ (by omega)]
    have eX : (bn_vt M).toInt32 = bn_vi M := by
      unfold bn_vt bn_vi
      rw [bn_vti, show (0 : Int64).toInt32 = 0 from by decide]
    obtain ⟨x, hx⟩ : ∃ x : Int32, x = (if a = 0 then nI (bn_tc M) else bn_vi M) := ⟨_, rfl⟩
    refine bo_quiet hok hC hM (x := x) (I1 := I2) (I2 := I5) (L2 := L4) ?_ fr ?_ F5 (fun k hk => by rw [m2 k hk, k5, g2 k hk])
    · unfold f_X11_ends
      simp only [Nat.reduceAdd, Nat.zero_add]
      rw [show nI 0 = (0 : Int32) from rfl] at e1
      rw [if_neg q1, if_pos q2, c1, Option.bind_some, e1]
      unfold f_X11_ends_p77
      simp only [Nat.reduceAdd, Nat.zero_add]
      by_cases h0 : a = 0
      · rw [if_pos h0] at hx
        have e := cl_tc (L := L) k3 e4
        rw [← hx] at e
        rw [if_pos h0, e]
        rfl
      · rw [if_neg h0, ← eX] at hx
        have e := cl_vt (L := L) k3 e4
        rw [if_neg h0, e, Option.bind_some, ← hx]
    · rw [show nI 0 = (0 : Int32) from rfl] at k1
      obtain ⟨r, hr⟩ : ∃ r : Int32 × bf_St, r = (1, I2, L) := ⟨_, rfl⟩
      have e0 : f_X12_in a.toInt64 0 1 I2 L = some r := by
        rw [hr]
        exact bp_in_t (lo := 0) (hi := 1) ha
      have r1 : r.1 = 1 := by rw [hr]
      have r2 : r.2.1 = I2 := by rw [hr]
      have r3 : r.2.2 = L := by rw [hr]
      unfold f_X12_ends
      rw [e0, Option.bind_some, r1, if_neg bp_10, r2, r3, show 156 + 1 = 157 from rfl, show 156 + 13 = 169 from rfl, g1, Option.bind_some, k1]
      unfold f_X12_ends_p71
      have e7 := ml_ends75 (L := L4) (I := I4) (o := 156) (a := a) k3 k4 (fun k2_21 I21 L21 => (f_X12_ends_p139 156 a k2_21 I21 L21)) 400 0 0 (by omega) (by omega)
      rw [show nI 0 = (0 : Int32) from rfl, ← bn_vi8 k3] at e7
      have e8 := ml_tc (L := L4) (I := I4) (o := 156) k3 k4
      obtain ⟨vi, hvi⟩ : ∃ vi, vi = bn_vi M := ⟨_, rfl⟩
      obtain ⟨tc, htc⟩ : ∃ tc, tc = nI (bn_tc M) := ⟨_, rfl⟩
      rw [← hvi] at e7 hx
      rw [← htc] at e8 hx
      rw [e7]
      unfold f_X12_ends_p139
      rw [e8]
      simp only [Option.bind_some]
      rw [show 156 + 1 = 157 from rfl, show 156 + 13 = 169 from rfl, m1]
      simp only [Option.bind_some]
      by_cases h0 : a = 0
      · rw [if_pos h0] at hx ⊢
        rw [hx]
      · rw [if_neg h0] at hx ⊢
        rw [hx]
  · refine bo_same h (x := -10001) ?_ ?_
    · unfold f_X11_ends
      by_cases q1 : a < 0
      · rw [if_pos q1]
      · rw [if_neg q1, if_neg (fun q2 => ha ⟨by rw [bp_lt0] at q1; omega, by rw [bp_leI, show (1 : Int32).toInt = 1 from rfl] at q2; exact q2⟩)]
    · unfold f_X12_ends
      rw [bp_in_f (lo := 0) (hi := 1) ha]
      rfl
end OPU2
