section TOLD
variable {L : Nat → Nat → Int64}
theorem cl_hold4 {I : Nat → Nat → Int32} {H : Nat → Nat} (hH : ∀ w, w < 8 → I 105 w = nI (H w)) (K : Int32 → (Nat → Nat → Int32) → (Nat → Nat → Int64) → Option (Int32 × bf_St)) : ∀ (n j : Nat), j ≤ 8 → 8 < j + n → f_X6_hold_4 102 K n (nI (bfold (fun v a => a + H v) j 0 0)) (nI j) I L = K (nI (tm8 H)) I L
  | 0, j, h1, h2 => by omega
  | n + 1, j, h1, h2 => by
    rw [f_X6_hold_4]
    by_cases h8 : j = 8
    · subst h8
      rw [if_pos (by decide)]
      rfl
    · rw [if_neg (show ¬ (8 : Int32) ≤ nI j from nI_ge (b := 8) (by omega) (by omega)), if_pos (bp_ok (by omega) (by omega)), bp_cl (by omega), show I (102 + 3) j = nI (H j) from hH j (by omega), nI_add, bp_p1, ← tm8_s]
      exact cl_hold4 hH K n (j + 1) (by omega) (by omega)
theorem cl_hold {I : Nat → Nat → Int32} {H : Nat → Nat} (hH : ∀ w, w < 8 → I 105 w = nI (H w)) : f_X6_hold 102 I L = some (nI (tm8 H), I, L) := by
  have e := cl_hold4 (L := L) hH (fun k I L => some (k, I, L)) 400 0 (by omega) (by omega)
  rw [show nI (bfold (fun v a => a + H v) 0 0 0) = (0 : Int32) from rfl, show nI 0 = (0 : Int32) from rfl] at e
  unfold f_X6_hold
  exact e
theorem ml_hold9 {I : Nat → Nat → Int32} {H : Nat → Nat} (hH : ∀ w, w < 8 → I 166 w = nI (H w)) (K : Int32 → (Nat → Nat → Int32) → (Nat → Nat → Int64) → Option (Int32 × bf_St)) : ∀ (n j : Nat), j ≤ 8 → 8 < j + n → f_X12_hold_9 156 K n (nI (bfold (fun v a => a + H v) j 0 0)) (nI j) I L = K (nI (tm8 H)) I L
  | 0, j, h1, h2 => by omega
  | n + 1, j, h1, h2 => by
    rw [f_X12_hold_9]
    by_cases h8 : j = 8
    · subst h8
      rw [if_pos (by decide)]
      rfl
    · rw [if_neg (show ¬ (8 : Int32) ≤ nI j from nI_ge (b := 8) (by omega) (by omega)), if_pos (bp_ok (by omega) (by omega)), bp_cl (by omega), show I (156 + 10) j = nI (H j) from hH j (by omega), nI_add, bp_p1, ← tm8_s]
      exact ml_hold9 hH K n (j + 1) (by omega) (by omega)
variable {I : Nat → Nat → Int32}
theorem op_told (h : bo_St I L) (a : Int32) : bo_OK (f_X11_told 0 a I L) (f_X12_told 156 a) := by
  obtain ⟨A, hok, hC, hM⟩ := id h
  have hn : bn_ok A.1.1 := hok.1.1
  have hcN : bc_N I 2 A.1.1 := hC.1.1
  have hmN : bm_N (I (156 + 1)) A.1.1 := hM.1.1
  by_cases h5 : a = 5
  · obtain ⟨x, hx⟩ : ∃ x, x = nI (bn_tc A.1.1) := ⟨_, rfl⟩
    have e1 := cl_tc (L := L) hn hcN
    have e2 := ml_tc (L := L) hn hmN
    rw [← hx] at e1 e2
    refine bo_same h (x := x) ?_ ?_
    · unfold f_X11_told
      simp only [Nat.reduceAdd, Nat.zero_add]
      rw [if_neg (by rw [h5]; decide), if_pos (by rw [h5]; decide), if_pos h5, e1]
      rfl
    · unfold f_X12_told
      rw [if_pos h5, e2]
      rfl
  by_cases ha : 0 ≤ a.toInt ∧ a.toInt ≤ 4
  · have q1 : ¬ a < 0 := by rw [bp_lt0]; omega
    have q2 : a ≤ (5 : Int32) := by rw [bp_leI, show (5 : Int32).toInt = 5 from rfl]; omega
    obtain ⟨I1, e1, e2, e3⟩ := cl_look (L := L) hn (show 2 + 25 ≤ 102 by omega) hcN
    have hmN1 : bm_N (I1 157) A.1.1 := by rw [e2 _ (by omega)]; exact hmN
    have hcN1 : bc_N I1 2 A.1.1 := hcN.cg (fun q a1 a2 => e2 q (by omega)) hn
    have eC : f_X11_told 0 a I L = (if a = 0 then (if (I1 102 0) = 0 then (some ((0 : Int32), I1, L)) else (some ((1 : Int32), I1, L))) else (if (I1 102 0) = 0 then (if a = 1 then (some ((I1 102 2), I1, L)) else (if a = 2 then (if (I1 102 1) = 0 then (some ((0 : Int32), I1, L)) else (some ((1 : Int32), I1, L))) else (if a = 3 then ((f_X6_hold 102 I1 L).bind (fun r13 => (some (r13.1, r13.2.1, r13.2.2)))) else ((f_X11_leastHold 0 I1 L).bind (fun r15 => (some (r15.1, r15.2.1, r15.2.2))))))) else (some ((-5 : Int32), I1, L)))) := by
      unfold f_X11_told
      simp only [Nat.reduceAdd, Nat.zero_add]
      rw [if_neg q1, if_pos q2, if_neg h5, e1]
      rfl
    have eM : f_X12_told 156 a I1 L = ((f_X12_isEven 156 I1 L).bind (fun r6 => (if a = 0 then (f_X12_told_p37 a r6.1 r6.2.1 r6.2.2) else (if r6.1 = 0 then (f_X12_told_p37 a r6.1 r6.2.1 r6.2.2) else (if a = (1 : Int32) then ((f_X12_timesAll 156 r6.2.1 r6.2.2).bind (fun r21 => (some (r21.1, r21.2.1, r21.2.2)))) else (if a = (2 : Int32) then ((f_X12_thinks 156 r6.2.1 r6.2.2).bind (fun r19 => (some (((1 : Int32) - r19.1), r19.2.1, r19.2.2)))) else (if a = (3 : Int32) then ((f_X12_hold 156 r6.2.1 r6.2.2).bind (fun r17 => (some (r17.1, r17.2.1, r17.2.2)))) else ((f_X12_leastHold 156 r6.2.1 r6.2.2).bind (fun r15 => (some (r15.1, r15.2.1, r15.2.2))))))))))) := by
      obtain ⟨r, hr⟩ : ∃ r : Int32 × bf_St, r = (1, I1, L) := ⟨_, rfl⟩
      have e0 : f_X12_in a.toInt64 0 4 I1 L = some r := by
        rw [hr]
        exact bp_in_t (lo := 0) (hi := 4) ha
      have r1 : r.1 = 1 := by rw [hr]
      have r2 : r.2.1 = I1 := by rw [hr]
      have r3 : r.2.2 = L := by rw [hr]
      unfold f_X12_told
      rw [if_neg h5, e0, Option.bind_some, r1, if_neg bp_10, r2, r3]
    rw [eC]
    rcases tm_cs hn with hev | ⟨t, hT⟩
    · obtain ⟨z1, z2⟩ := e3.f hev
      obtain ⟨I2, L2, k1, k2, k3⟩ := ml_evenF (L := L) hn hmN1 hev
      have f7 : ∀ k, k < 914 → I2 157 k = I1 157 k := fun k _ => by rw [k3 _ (by omega)]
      rw [z1]
      by_cases h0 : a = 0
      · rw [if_pos h0, if_neg bp_10]
        refine bo_quiet hok hC hM (x := 1) (I1 := I1) (I2 := I2) (L2 := L2) rfl (fun q hq => e2 q (by omega)) ?_ k2 f7
        rw [eM, k1]
        simp only [Option.bind_some]
        rw [if_pos h0]
        unfold f_X12_told_p37
        rw [if_pos h0, if_pos rfl]
      · rw [if_neg h0, if_neg bp_10]
        refine bo_quiet hok hC hM (x := -5) (I1 := I1) (I2 := I2) (L2 := L2) rfl (fun q hq => e2 q (by omega)) ?_ k2 f7
        rw [eM, k1]
        simp only [Option.bind_some, if_true]
        rw [if_neg h0]
        unfold f_X12_told_p37
        rw [if_neg h0]
    · obtain ⟨z1, z2⟩ := e3.t hn hT
      obtain ⟨I2, L2, k1, k2, k3, k4⟩ := ml_evenT (L := L) hn hmN1 hT
      have f7 : ∀ k, k < 914 → I2 157 k = I1 157 k := fun k _ => by rw [k3 _ (by omega)]
      have hmN2 : bm_N (I2 157) A.1.1 := by rw [k3 _ (by omega)]; exact hmN1
      obtain ⟨v, hv⟩ : ∃ v : Int32 × bf_St, v = (1, I2, L2) := ⟨_, rfl⟩
      have v1 : v.1 = 1 := by rw [hv]
      have v2 : v.2.1 = I2 := by rw [hv]
      have v3 : v.2.2 = L2 := by rw [hv]
      rw [← hv] at k1
      rw [z1]
      by_cases h0 : a = 0
      · rw [if_pos h0, if_pos rfl]
        refine bo_quiet hok hC hM (x := 0) (I1 := I1) (I2 := I2) (L2 := L2) rfl (fun q hq => e2 q (by omega)) ?_ k2 f7
        rw [eM, k1, Option.bind_some, if_pos h0, v1, v2, v3]
        unfold f_X12_told_p37
        rw [if_pos h0, if_neg bp_10]
      · rw [if_neg h0, if_pos rfl]
        have eM2 : f_X12_told 156 a I1 L = (if a = (1 : Int32) then ((f_X12_timesAll 156 I2 L2).bind (fun r21 => (some (r21.1, r21.2.1, r21.2.2)))) else (if a = (2 : Int32) then ((f_X12_thinks 156 I2 L2).bind (fun r19 => (some (((1 : Int32) - r19.1), r19.2.1, r19.2.2)))) else (if a = (3 : Int32) then ((f_X12_hold 156 I2 L2).bind (fun r17 => (some (r17.1, r17.2.1, r17.2.2)))) else ((f_X12_leastHold 156 I2 L2).bind (fun r15 => (some (r15.1, r15.2.1, r15.2.2))))))) := by
          rw [eM, k1, Option.bind_some, if_neg h0, v1, if_neg bp_10, v2, v3]
        by_cases h1 : a = 1
        · obtain ⟨x, hx⟩ : ∃ x, x = nI (tm_p t 6) := ⟨_, rfl⟩
          have ex := ml_timesAll (L := L2) hn hT.2 hmN2 k4
          rw [← hx] at ex
          rw [if_pos h1, z2.2.1, ← hx]
          refine bo_quiet hok hC hM (x := x) (I1 := I1) (I2 := I2) (L2 := L2) rfl (fun q hq => e2 q (by omega)) ?_ k2 f7
          rw [eM2, if_pos h1, ex]
          rfl
        rw [if_neg h1]
        obtain ⟨I3, n1, n2, n3, n4, n5, n6⟩ := ml_thinks (L := L2) (I := I2) hn hT.y hmN2 k4
        have f73 : ∀ k, k < 914 → I3 157 k = I1 157 k := fun k hk => by rw [n3 k hk, f7 k hk]
        by_cases h2 : a = 2
        · rw [if_pos h2, z2.2.2.1]
          by_cases hg : pd_go A.1.1 t
          · rw [if_pos hg, if_pos rfl]
            rw [if_pos hg] at n1
            refine bo_quiet hok hC hM (x := 0) (I1 := I1) (I2 := I3) (L2 := L2) rfl (fun q hq => e2 q (by omega)) ?_ (k2.tr n2) f73
            rw [eM2, if_neg h1, if_pos h2, n1, Option.bind_some]
            exact congrArg (fun z => some (z, I3, L2)) (show (1 : Int32) - 1 = 0 by decide)
          · rw [if_neg hg, if_neg bp_10]
            rw [if_neg hg] at n1
            refine bo_quiet hok hC hM (x := 1) (I1 := I1) (I2 := I3) (L2 := L2) rfl (fun q hq => e2 q (by omega)) ?_ (k2.tr n2) f73
            rw [eM2, if_neg h1, if_pos h2, n1, Option.bind_some]
            exact congrArg (fun z => some (z, I3, L2)) (show (1 : Int32) - 0 = 1 by decide)
        rw [if_neg h2]
        by_cases h3 : a = 3
        · obtain ⟨x, hx⟩ : ∃ x, x = nI (tm8 (pd_H (pd_O A.1.1 t) A.1.1 (bn_q A.1.1))) := ⟨_, rfl⟩
          have ec := cl_hold (L := L) (I := I1) (fun w hw => (z2.2.2.2.2.2 w hw).1)
          have em := ml_hold9 (L := L2) (I := I3) n4 (fun k2_5 I5 L5 => (some (k2_5, I5, L5))) 400 0 (by omega) (by omega)
          rw [← hx] at ec em
          rw [show nI (bfold (fun v a => a + pd_H (pd_O A.1.1 t) A.1.1 (bn_q A.1.1) v) 0 0 0) = (0 : Int32) from rfl, show nI 0 = (0 : Int32) from rfl] at em
          rw [if_pos h3, ec]
          refine bo_quiet hok hC hM (x := x) (I1 := I1) (I2 := I3) (L2 := L2) rfl (fun q hq => e2 q (by omega)) ?_ (k2.tr n2) f73
          rw [eM2, if_neg h1, if_neg h2, if_pos h3]
          unfold f_X12_hold
          rw [n1, Option.bind_some, em]
          rfl
        rw [if_neg h3]
        obtain ⟨I4, s1, s2, s3⟩ := ml_leastHold (L := L2) hn hT hmN2 k4
        obtain ⟨x, hx⟩ : ∃ x, x = (if tm_p t 6 ≤ 8 then le_v (sr A.1.1 (tm_p t 6) t (bn_q A.1.1) (bn_q A.1.1)) else -5) := ⟨_, rfl⟩
        rw [← hx] at s1
        have hs := hT.s
        have eC2 : ∃ J, f_X11_leastHold 0 I1 L = some (x, J, L) ∧ ∀ q, q < 110 ∨ 123 < q → J q = I1 q := by
          unfold f_X11_leastHold
          simp only [Nat.reduceAdd, Nat.zero_add]
          rw [z2.2.1]
          by_cases h8 : tm_p t 6 ≤ 8
          · rw [if_pos h8] at hx
            obtain ⟨J, j1, j2⟩ := cl_least (L := L) hn hcN1 z2.1 z2.2.1 hT.le h8
            rw [← hx] at j1
            rw [if_pos (show nI (tm_p t 6) ≤ (8 : Int32) from nI_le (b := 8) h8 (by omega)), j1]
            exact ⟨J, rfl, j2⟩
          · rw [if_neg h8] at hx
            rw [if_neg (show ¬ nI (tm_p t 6) ≤ (8 : Int32) from nI_ge (a := 8) (by omega) (by omega)), hx]
            exact ⟨I1, rfl, fun _ _ => rfl⟩
        obtain ⟨J, j1, j2⟩ := eC2
        rw [j1]
        -- the reference runs behind the class's least: its own cells are as they were
        have hmNJ : bm_N (J 157) A.1.1 := by rw [j2 _ (by omega)]; exact hmN1
        obtain ⟨I5, L5, u1, u2, u3, u4⟩ := ml_evenT (L := L) hn hmNJ hT
        have hmN5 : bm_N (I5 157) A.1.1 := by rw [u3 _ (by omega)]; exact hmNJ
        obtain ⟨I6, w1, w2, w3⟩ := ml_leastHold (L := L5) hn hT hmN5 u4
        rw [← hx] at w1
        obtain ⟨y, hy⟩ : ∃ y : Int32 × bf_St, y = (1, I5, L5) := ⟨_, rfl⟩
        have y1 : y.1 = 1 := by rw [hy]
        have y2 : y.2.1 = I5 := by rw [hy]
        have y3 : y.2.2 = L5 := by rw [hy]
        rw [← hy] at u1
        refine bo_quiet hok hC hM (x := x) (I1 := J) (I2 := I6) (L2 := L5) rfl (fun q hq => by rw [j2 q (by omega), e2 q (by omega)]) ?_ (u2.tr w2) (fun k hk => by rw [w3 k, u3 _ (by omega)])
        obtain ⟨r, hr⟩ : ∃ r : Int32 × bf_St, r = (1, J, L) := ⟨_, rfl⟩
        have e0 : f_X12_in a.toInt64 0 4 J L = some r := by
          rw [hr]
          exact bp_in_t (lo := 0) (hi := 4) ha
        have r1 : r.1 = 1 := by rw [hr]
        have r2 : r.2.1 = J := by rw [hr]
        have r3 : r.2.2 = L := by rw [hr]
        unfold f_X12_told
        rw [if_neg h5, e0, Option.bind_some, r1, if_neg bp_10, r2, r3, u1, Option.bind_some, if_neg h0, y1, if_neg bp_10, y2, y3, if_neg h1, if_neg h2, if_neg h3, w1]
        rfl
  · refine bo_same h (x := -1) ?_ ?_
    · unfold f_X11_told
      by_cases q1 : a < 0
      · rw [if_pos q1]
      · rw [if_neg q1, if_neg (fun q2 => ?_)]
        rw [bp_lt0] at q1
        rw [bp_leI, show (5 : Int32).toInt = 5 from rfl] at q2
        obtain ⟨j, hj, hv⟩ := bp_rg (n := 5) (by omega) (by omega) q2
        have : j ≠ 5 := fun z => h5 (by rw [hv, z]; rfl)
        refine ha ?_
        rw [hv, bp_toI (by omega)]
        omega
    · unfold f_X12_told
      rw [if_neg h5, bp_in_f (lo := 0) (hi := 4) ha]
      rfl
end TOLD
