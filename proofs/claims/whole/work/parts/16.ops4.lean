section OPS164
variable {I : Nat → Nat → Int32} {L : Nat → Nat → Int64}
theorem bp_subI {a b : Nat} (ha : a < 2 ^ 31) (hb : b < 2 ^ 31) : (nI a - nI b).toInt = (a : Int) - b := by
  rw [Int32.toInt_sub, nI_toInt (by omega), nI_toInt (by omega)]
  exact Int.bmod_eq_of_le (by omega) (by omega)
/-- whether a run lies on both tapes -/
abbrev bt_rn (i j n : Int32) (m1 m2 : Nat) : Prop := 0 ≤ n.toInt ∧ (0 ≤ i.toInt ∧ i.toInt + n.toInt ≤ (m1 : Int)) ∧ (0 ≤ j.toInt ∧ j.toInt + n.toInt ≤ (m2 : Int))
theorem ml_shiftC {t u m1 m2 : Nat} (ht : t < 6) (hu : u < 6) (hm1 : m1 ≤ 60) (hm2 : m2 ≤ 60) (i j n : Int32) (h1 : ¬ I 170 t = -1) (h2 : ¬ I 170 u = -1) (h3 : I 170 t = I 170 u) (e1 : I 171 t = nI m1) (e2 : I 171 u = nI m2) : f_X12_shift 156 (nI t) i (nI u) j n I L = if bt_rn i j n m1 m2 then f_X12_shift_135 156 (nI t) i (nI u) j n (fun I31 L31 => some (n, I31, L31)) 400 0 I L else some (-13, I, L) := by
  unfold f_X12_shift
  rw [bp_in_t (lo := 0) (hi := 5) (by rw [bp_toI (by omega)]; exact ⟨Int.natCast_nonneg _, show (t : Int) ≤ 5 by omega⟩)]
  simp only [Option.bind_some]
  rw [if_neg bp_10, bp_in_t (lo := 0) (hi := 5) (by rw [bp_toI (by omega)]; exact ⟨Int.natCast_nonneg _, show (u : Int) ≤ 5 by omega⟩)]
  simp only [Option.bind_some, Nat.reduceAdd, bp_cl (show t < 100000 by omega), bp_cl (show u < 100000 by omega)]
  rw [if_neg bp_10, if_pos (bp_ok ht (by omega)), if_neg h1, if_pos (bp_ok hu (by omega)), if_neg h2, if_pos (bp_ok ht (by omega)), if_pos (bp_ok hu (by omega)), if_pos h3]
  by_cases q1 : n < 0
  · rw [if_pos q1, if_neg (fun z => by rw [bp_lt0] at q1; omega)]
  rw [if_neg q1]
  by_cases q2 : i < 0
  · rw [if_pos q2, if_neg (fun z => by rw [bp_lt0] at q2; omega)]
  rw [if_neg q2]
  by_cases q3 : j < 0
  · rw [if_pos q3, if_neg (fun z => by rw [bp_lt0] at q3; omega)]
  rw [if_neg q3, if_pos (bp_ok ht (by omega)), e1]
  rw [bp_lt0] at q1 q2 q3
  by_cases q4 : nI m1 < i
  · rw [if_pos q4, if_neg (fun z => by rw [bp_ltI, bp_toI (by omega)] at q4; omega)]
  rw [if_neg q4, if_pos (bp_ok hu (by omega)), e2]
  by_cases q5 : nI m2 < j
  · rw [if_pos q5, if_neg (fun z => by rw [bp_ltI, bp_toI (by omega)] at q5; omega)]
  rw [if_neg q5, if_pos (bp_ok ht (by omega))]
  rw [bp_ltI, bp_toI (by omega)] at q4 q5
  obtain ⟨i', hi', rfl⟩ := bp_rg (a := i) (n := m1) (by omega) (by omega) (by omega)
  obtain ⟨j', hj', rfl⟩ := bp_rg (a := j) (n := m2) (by omega) (by omega) (by omega)
  rw [bp_toI (by omega)] at q4 q5
  rw [pk_sub (by omega), pk_sub (by omega)]
  by_cases q6 : nI (m1 - i') < n
  · rw [if_pos q6, if_neg (fun z => by unfold bt_rn at z; rw [bp_ltI, bp_toI (by omega)] at q6; rw [bp_toI (by omega), bp_toI (by omega)] at z; omega)]
  rw [if_neg q6, if_pos (bp_ok hu (by omega))]
  by_cases q7 : n ≤ nI (m2 - j')
  · rw [if_pos q7, if_pos]
    unfold bt_rn
    rw [bp_ltI, bp_toI (by omega)] at q6
    rw [bp_leI, bp_toI (by omega)] at q7
    rw [bp_toI (by omega), bp_toI (by omega)]
    omega
  · rw [if_neg q7, if_neg (fun z => by unfold bt_rn at z; rw [bp_leI, bp_toI (by omega)] at q7; rw [bp_toI (by omega), bp_toI (by omega)] at z; omega)]
theorem bf_w_n {α : Type} {f : Nat → Nat → α} {o a : Nat} {r : Nat → α} (h : a ≠ o) : bf_w f o r a = f a := if_neg h
theorem op_shift (h : bo_St I L) (a i b j n : Int32) : bo_OK (f_X11_shift 0 a i b j n I L) (f_X12_shift 156 a i b j n) := by
  obtain ⟨A, hok, hC, hM⟩ := id h
  by_cases ha : 0 ≤ a.toInt ∧ a.toInt ≤ 5
  · by_cases hb : 0 ≤ b.toInt ∧ b.toInt ≤ 5
    · obtain ⟨t, ht, rfl⟩ := bp_rg (n := 5) (by omega) ha.1 ha.2
      obtain ⟨u, hu, rfl⟩ := bp_rg (n := 5) (by omega) hb.1 hb.2
      obtain ⟨c0, c1, c2⟩ := hC.2.2.2.2.2 t (by omega)
      obtain ⟨m0, m1, m2⟩ := hM.2.2.2.2.2 t (by omega)
      obtain ⟨d0, d1, d2⟩ := hC.2.2.2.2.2 u (by omega)
      obtain ⟨n0, n1, n2⟩ := hM.2.2.2.2.2 u (by omega)
      obtain ⟨hm, hs⟩ := hok.2.2.2.2 t (by omega)
      obtain ⟨hm2, hs2⟩ := hok.2.2.2.2 u (by omega)
      by_cases hs1 : (ba_t A t).1 = -1
      · refine bo_same h (x := -11) ?_ ?_
        · unfold f_X11_shift
          rw [cl_isTape, if_pos ha]
          simp only [Option.bind_some]
          rw [if_neg bp_10, cl_isTape, if_pos hb]
          simp only [Option.bind_some, Nat.reduceAdd, Nat.zero_add, bp_cl (show t < 100000 by omega), bp_cl (show u < 100000 by omega)]
          rw [if_neg bp_10, if_pos (bp_ok (by omega) (by omega)), if_pos (bp_ok (by omega) (by omega)), c0, if_pos hs1]
        · unfold f_X12_shift
          rw [bp_in_t (lo := 0) (hi := 5) ha]
          simp only [Option.bind_some]
          rw [if_neg bp_10, bp_in_t (lo := 0) (hi := 5) hb]
          simp only [Option.bind_some, Nat.reduceAdd, bp_cl (show t < 100000 by omega)]
          rw [if_neg bp_10, if_pos (bp_ok (by omega) (by omega)), m0, if_pos hs1]
      by_cases hs3 : (ba_t A u).1 = -1
      · refine bo_same h (x := -11) ?_ ?_
        · unfold f_X11_shift
          rw [cl_isTape, if_pos ha]
          simp only [Option.bind_some]
          rw [if_neg bp_10, cl_isTape, if_pos hb]
          simp only [Option.bind_some, Nat.reduceAdd, Nat.zero_add, bp_cl (show t < 100000 by omega), bp_cl (show u < 100000 by omega)]
          rw [if_neg bp_10, if_pos (bp_ok (by omega) (by omega)), if_pos (bp_ok (by omega) (by omega)), c0, if_neg hs1, d0, if_pos hs3]
        · unfold f_X12_shift
          rw [bp_in_t (lo := 0) (hi := 5) ha]
          simp only [Option.bind_some]
          rw [if_neg bp_10, bp_in_t (lo := 0) (hi := 5) hb]
          simp only [Option.bind_some, Nat.reduceAdd, bp_cl (show t < 100000 by omega), bp_cl (show u < 100000 by omega)]
          rw [if_neg bp_10, if_pos (bp_ok (by omega) (by omega)), m0, if_neg hs1, if_pos (bp_ok (by omega) (by omega)), n0, if_pos hs3]
      by_cases hse : (ba_t A t).1 = (ba_t A u).1
      · have cc : f_X11_shift 0 (nI t) i (nI u) j n I L = if bt_rn i j n (ba_t A t).2.1 (ba_t A u).2.1 then (if bf_cpOK i j n (144 + 2 * t + 1) (144 + 2 * u + 1) then some (n, I, bf_w L (144 + 2 * u + 1) (va_cpy (L (144 + 2 * t + 1)) (L (144 + 2 * u + 1)) i.toNatClampNeg j.toNatClampNeg n.toNatClampNeg)) else none) else some (-13, I, L) := by
          unfold f_X11_shift
          rw [cl_isTape, if_pos ha]
          simp only [Option.bind_some]
          rw [if_neg bp_10, cl_isTape, if_pos hb]
          simp only [Option.bind_some, Nat.reduceAdd, Nat.zero_add, bp_cl (show t < 100000 by omega), bp_cl (show u < 100000 by omega)]
          rw [if_neg bp_10, if_pos (bp_ok (by omega) (by omega)), if_pos (bp_ok (by omega) (by omega)), c0, if_neg hs1, d0, if_neg hs3, if_pos hse, tp_run c1 hm]
          simp only [Option.bind_some]
          by_cases r1 : 0 ≤ n.toInt ∧ 0 ≤ i.toInt ∧ i.toInt + n.toInt ≤ ((ba_t A t).2.1 : Int)
          · rw [if_pos r1, if_neg bp_10, tp_run d1 hm2]
            simp only [Option.bind_some]
            by_cases r2 : 0 ≤ n.toInt ∧ 0 ≤ j.toInt ∧ j.toInt + n.toInt ≤ ((ba_t A u).2.1 : Int)
            · rw [if_pos r2, if_neg bp_10, if_pos (show bt_rn i j n (ba_t A t).2.1 (ba_t A u).2.1 from ⟨r1.1, r1.2, r2.2⟩)]
            · rw [if_neg r2, if_neg (show ¬ bt_rn i j n (ba_t A t).2.1 (ba_t A u).2.1 from fun z => r2 ⟨z.1, z.2.2⟩)]
              rfl
          · rw [if_neg r1, if_neg (show ¬ bt_rn i j n (ba_t A t).2.1 (ba_t A u).2.1 from fun z => r1 ⟨z.1, z.2.1⟩)]
            rfl
        by_cases hr : bt_rn i j n (ba_t A t).2.1 (ba_t A u).2.1
        · have hr' := hr
          unfold bt_rn at hr'
          obtain ⟨i', hi', rfl⟩ := bp_rg (a := i) (n := 60) (by omega) (by omega) (by omega)
          obtain ⟨j', hj', rfl⟩ := bp_rg (a := j) (n := 60) (by omega) (by omega) (by omega)
          obtain ⟨n', hn', rfl⟩ := bp_rg (a := n) (n := 60) (by omega) (by omega) (by omega)
          rw [bp_toI (by omega), bp_toI (by omega), bp_toI (by omega)] at hr'
          have hle : ∀ v : Fin 6, bf_le (144 + 2 * v.1 + 1) = 60 := by decide +kernel
          rw [if_pos hr, if_pos (show bf_cpOK (nI i') (nI j') (nI n') (144 + 2 * t + 1) (144 + 2 * u + 1) from ⟨nI_pos (by omega), nI_pos (by omega), nI_pos (by omega), by rw [bp_cl (by omega), bp_cl (by omega), hle ⟨t, by omega⟩]; omega, by rw [bp_cl (by omega), bp_cl (by omega), hle ⟨u, by omega⟩]; omega⟩), bp_cl (by omega), bp_cl (by omega), bp_cl (by omega), show 144 + 2 * t + 1 = 145 + 2 * t by omega, show 144 + 2 * u + 1 = 145 + 2 * u by omega] at cc
          obtain ⟨L1, hL1⟩ : ∃ L1, L1 = bf_w L (145 + 2 * u) (va_cpy (L (145 + 2 * t)) (L (145 + 2 * u)) i' j' n') := ⟨_, rfl⟩
          rw [← hL1] at cc
          have f4 : ∀ q, q ≠ 145 + 2 * u → L1 q = L q := fun q hq => by rw [hL1, bf_w_n hq]
          have hM1 : bm_A I L1 A := hM.fc (fun q hq => ⟨rfl, f4 q (by omega)⟩)
          obtain ⟨m0', m1', m2'⟩ := hM1.2.2.2.2.2 t (by omega)
          obtain ⟨n0', n1', n2'⟩ := hM1.2.2.2.2.2 u (by omega)
          obtain ⟨L2, g1, g2, g3⟩ := ml_shift (I := I) (v0 := 156) (t := t) (i := i') (u := u) (j := j') (n := n') (by omega) (by omega) (by omega) (by omega) rfl (L1 172) (fun I31 L31 => some (nI n', I31, L31)) 400 0 L1 (by omega) (by omega) (fun p => by rw [if_neg (by omega)])
          refine bo_mk (A := bn_sT A u ((ba_t A u).1, (ba_t A u).2.1, fun p => if j' ≤ p ∧ p < j' + n' then (ba_t A t).2.2 (i' + (p - j')) else (ba_t A u).2.2 p)) (x := nI n') (I1 := I) (L1 := L1) (I2 := I) (L2 := L2) cc ?_ (fun q hq => ⟨rfl, g3 q (by omega)⟩) ?_ ?_ ?_
          · rw [ml_shiftC (by omega) (by omega) hm hm2 _ _ _ (by rw [m0']; exact hs1) (by rw [n0']; exact hs3) (by rw [m0', n0', hse]) m1' n1', if_pos hr, show (0 : Int32) = nI 0 from rfl, g1]
          · exact hok.setT ⟨hm2, hs2⟩
          · refine hC.setT hok (by omega) (fun q _ => rfl) f4 d0 d1 (fun k hk => ?_)
            rw [hL1, bf_w_o]
            show va_cpy _ _ _ _ _ k = if j' ≤ k ∧ k < j' + n' then _ else _
            unfold va_cpy
            by_cases e : j' ≤ k ∧ k < j' + n'
            · rw [if_pos e, if_pos e, c2 _ (by omega)]
            · rw [if_neg e, if_neg e, d2 _ (by omega)]
          · refine hM1.setT (fun q _ _ => rfl) n0' n1' (fun k hk => ?_) (fun v hv hv6 => ⟨rfl, rfl, fun k hk => ?_⟩)
            · show _ = if j' ≤ k ∧ k < j' + n' then _ else _
              rw [g2]
              by_cases e : j' ≤ k ∧ k < j' + n'
              · rw [if_pos e, if_pos (by omega), show 60 * t + i' + (60 * u + k - (60 * u + j')) = 60 * t + (i' + (k - j')) by omega, m2' _ (by omega)]
              · rw [if_neg e, if_neg (by omega), n2' _ (by omega)]
            · rw [g2, if_neg (by omega)]
        · refine bo_same h (x := -13) ?_ ?_
          · rw [cc, if_neg hr]
          · rw [ml_shiftC (by omega) (by omega) hm hm2 _ _ _ (by rw [m0]; exact hs1) (by rw [n0]; exact hs3) (by rw [m0, n0, hse]) m1 n1, if_neg hr]
      · refine bo_same h (x := -12) ?_ ?_
        · unfold f_X11_shift
          rw [cl_isTape, if_pos ha]
          simp only [Option.bind_some]
          rw [if_neg bp_10, cl_isTape, if_pos hb]
          simp only [Option.bind_some, Nat.reduceAdd, Nat.zero_add, bp_cl (show t < 100000 by omega), bp_cl (show u < 100000 by omega)]
          rw [if_neg bp_10, if_pos (bp_ok (by omega) (by omega)), if_pos (bp_ok (by omega) (by omega)), c0, if_neg hs1, d0, if_neg hs3, if_neg hse]
        · unfold f_X12_shift
          rw [bp_in_t (lo := 0) (hi := 5) ha]
          simp only [Option.bind_some]
          rw [if_neg bp_10, bp_in_t (lo := 0) (hi := 5) hb]
          simp only [Option.bind_some, Nat.reduceAdd, bp_cl (show t < 100000 by omega), bp_cl (show u < 100000 by omega)]
          rw [if_neg bp_10, if_pos (bp_ok (by omega) (by omega)), m0, if_neg hs1, if_pos (bp_ok (by omega) (by omega)), n0, if_neg hs3, if_pos (bp_ok (by omega) (by omega)), if_pos (bp_ok (by omega) (by omega)), if_neg hse]
    · refine bo_same h (x := -1) ?_ ?_
      · unfold f_X11_shift
        rw [cl_isTape, if_pos ha]
        simp only [Option.bind_some]
        rw [if_neg bp_10, cl_isTape, if_neg hb]
        rfl
      · unfold f_X12_shift
        rw [bp_in_t (lo := 0) (hi := 5) ha]
        simp only [Option.bind_some]
        rw [if_neg bp_10, bp_in_f (lo := 0) (hi := 5) hb]
        rfl
  · refine bo_same h (x := -1) ?_ ?_
    · unfold f_X11_shift
      rw [cl_isTape, if_neg ha]
      rfl
    · unfold f_X12_shift
      rw [bp_in_f (lo := 0) (hi := 5) ha]
      rfl
theorem cm_judge {A : bn_A} (hok : ba_ok A) (hC : bc_A I L A) (hM : bm_A I L A) {w t : Nat} (hw8 : w < 8) (hw : w < bn_nw A.1.1) (ht : t < 6) (hs : (ba_t A t).1 = -1 ∨ (ba_t A t).1 = 2) (i : Int32) : ∀ (n k : Nat), k ≤ (bw_q (bn_wr A.1.1 w)).length → (bw_q (bn_wr A.1.1 w)).length < k + n → ∃ x, f_X11_judge_69 i (144 + 2 * t) (11 + 2 * w) (fun I L => some (-5, I, L)) n (nI k) I L = some (x, I, L) ∧ f_X12_judge_48 156 (nI w) (nI t) i (fun I L => some (-5, I, L)) n (nI k) I L = some (x, I, L)
  | 0, k, h1, h2 => by omega
  | n + 1, k, h1, h2 => by
    have hl : (bw_q (bn_wr A.1.1 w)).length ≤ 99 := (hok.1.1.2.2.2.1 w).2.1
    obtain ⟨c0, c1, c2⟩ := hC.2.2.2.2.2 t ht
    obtain ⟨m0, m1, m2⟩ := hM.2.2.2.2.2 t ht
    obtain ⟨hm, hs0⟩ := hok.2.2.2.2 t ht
    have hcN : bc_N I 2 A.1.1 := hC.1.1
    have hmN : bm_N (I (156 + 1)) A.1.1 := hM.1.1
    have hx : bc_W I (11 + 2 * w) (bn_wr A.1.1 w) := hcN.2.2.2 w hw8
    have hy := hmN.2.2.2 w hw
    rw [f_X11_judge_69, f_X12_judge_48, me_tokens hw8]
    simp only [Option.bind_some, Nat.reduceAdd, bp_cl (show t < 100000 by omega)]
    rw [hx.2.2.1, hy.2.2.1]
    by_cases hk : k = (bw_q (bn_wr A.1.1 w)).length
    · exact ⟨-5, by rw [if_pos (nI_le (by omega) (by omega))], by rw [if_pos (nI_le (by omega) (by omega))]⟩
    · rw [if_neg (nI_ge (by omega) (by omega)), if_neg (nI_ge (by omega) (by omega)), if_pos (bp_ok ht (by omega)), m0, c1, m1]
      by_cases i0 : i < 0
      · refine ⟨100 + nI k, by rw [if_pos i0], ?_⟩
        by_cases e : (ba_t A t).1 = -1
        · rw [if_pos e]
        · rw [if_neg e, if_pos i0]
      · obtain ⟨i', hi', rfl⟩ := nI_of i0
        rw [if_neg i0, if_neg i0]
        by_cases hik : i' + k < (ba_t A t).2.1
        · have hs1 : ¬ (ba_t A t).1 = -1 := fun e => by
            rcases hs0 with q | ⟨q, hq, e2⟩
            · omega
            · rw [e2] at e
              have := congrArg Int32.toInt e
              rw [bp_toI (by omega)] at this
              have : (q : Int) = -1 := this
              omega
          rw [if_pos (show nI i' < nI (ba_t A t).2.1 - nI k by rw [bp_ltI, bp_subI (by omega) (by omega), nI_toInt hi']; omega), if_neg hs1, if_pos (bp_ok ht (by omega)), if_pos (show nI k < nI (ba_t A t).2.1 - nI i' by rw [bp_ltI, bp_subI (by omega) (by omega), nI_toInt (by omega)]; omega), nI_add]
          unfold f_X8_itemAt
          rw [tp_holds c1 hm, if_pos (by rw [bp_toI (by omega)]; omega)]
          simp only [Option.bind_some]
          rw [if_neg bp_10, if_pos (bp_ok (by omega) (by omega)), bp_cl (by omega), show 144 + 2 * t + 1 = 145 + 2 * t by omega, c2 _ (by omega)]
          simp only [Option.bind_some]
          rw [rg_at hx (by omega) hl]
          simp only [Option.bind_some]
          rw [show (60 : Int32) = nI 60 from rfl, pk_mul, nI_add, nI_add, bp_ix, bp_p6, nI_add, if_pos (bp_ok (by omega) (by omega)), if_pos (bp_ok (by omega) (by omega)), bp_cl (by omega), bp_cl (by omega), show 60 * t + i' + k = 60 * t + (i' + k) by omega, m2 _ (by omega), hy.2.2.2 k (by omega)]
          by_cases e : lg_cmp ((ba_t A t).2.2 (i' + k)) ((bw_q (bn_wr A.1.1 w)).getD k 0).toInt64 = 0
          · rw [if_pos e, if_pos e, bp_p1]
            exact cm_judge hok hC hM hw8 hw ht hs (nI i') n (k + 1) (by omega) (by omega)
          · rw [if_neg e, if_neg e]
            exact ⟨nI k, rfl, rfl⟩
        · refine ⟨100 + nI k, by rw [if_neg (show ¬ nI i' < nI (ba_t A t).2.1 - nI k by rw [bp_ltI, bp_subI (by omega) (by omega), nI_toInt hi']; omega)], ?_⟩
          by_cases e : (ba_t A t).1 = -1
          · rw [if_pos e]
          · rw [if_neg e, if_pos (bp_ok ht (by omega)), if_neg (show ¬ nI k < nI (ba_t A t).2.1 - nI i' by rw [bp_ltI, bp_subI (by omega) (by omega), nI_toInt (by omega)]; omega)]
theorem op_judge (h : bo_St I L) (a b i : Int32) : bo_OK (f_X11_judge 0 a b i I L) (f_X12_judge 156 a b i) := by
  obtain ⟨A, hok, hC, hM⟩ := id h
  have hn : bn_ok A.1.1 := hok.1.1
  have hcN : bc_N I 2 A.1.1 := hC.1.1
  have hmN : bm_N (I (156 + 1)) A.1.1 := hM.1.1
  by_cases hw0 : bn_is A.1.1 a
  · obtain ⟨w, hw8, hw, rfl, hh⟩ := bo_wi hw0 hn
    by_cases hb : 0 ≤ b.toInt ∧ b.toInt ≤ 5
    · obtain ⟨t, ht, rfl⟩ := bp_rg (n := 5) (by omega) hb.1 hb.2
      obtain ⟨c0, c1, c2⟩ := hC.2.2.2.2.2 t (by omega)
      obtain ⟨m0, m1, m2⟩ := hM.2.2.2.2.2 t (by omega)
      have hl : (bw_q (bn_wr A.1.1 w)).length ≤ 99 := (hok.1.1.2.2.2.1 w).2.1
      have cc : f_X11_judge 0 (nI w) (nI t) i I L = if (ba_t A t).1 = -1 then f_X11_judge_p52 0 (nI w) i (144 + 2 * t) I L else if (ba_t A t).1 = 2 then f_X11_judge_p52 0 (nI w) i (144 + 2 * t) I L else some (-12, I, L) := by
        unfold f_X11_judge
        simp only [Nat.reduceAdd, Nat.zero_add]
        rw [cc_hasW_t hn hcN hw hh]
        simp only [Option.bind_some]
        rw [if_neg bp_10, cl_isTape, if_pos hb]
        simp only [Option.bind_some, bp_cl (show t < 100000 by omega)]
        rw [if_neg bp_10, if_pos (bp_ok (by omega) (by omega)), c0]
      have mm : f_X12_judge 156 (nI w) (nI t) i I L = if (ba_t A t).1 = -1 then f_X12_judge_p45 156 (nI w) (nI t) i I L else if (ba_t A t).1 = 2 then f_X12_judge_p45 156 (nI w) (nI t) i I L else some (-12, I, L) := by
        unfold f_X12_judge
        rw [mm_isW_t hn hmN hw hh]
        simp only [Option.bind_some]
        rw [if_neg bp_10, bp_in_t (lo := 0) (hi := 5) hb]
        simp only [Option.bind_some, Nat.reduceAdd, bp_cl (show t < 100000 by omega)]
        rw [if_neg bp_10, if_pos (bp_ok (by omega) (by omega)), m0, if_pos (bp_ok (by omega) (by omega))]
      by_cases hs : (ba_t A t).1 = -1 ∨ (ba_t A t).1 = 2
      · obtain ⟨x, x1, x2⟩ := cm_judge hok hC hM hw8 hw (t := t) (by omega) hs i 400 0 (by omega) (by omega)
        have y1 : f_X11_judge_p52 0 (nI w) i (144 + 2 * t) I L = some (x, I, L) := by
          unfold f_X11_judge_p52
          simp only [Nat.reduceAdd, Nat.zero_add, bp_cl (show w < 100000 by omega)]
          rw [if_pos (bp_ok hw8 (by omega))]
          exact x1
        refine bo_same h (x := x) ?_ ?_
        · rw [cc]
          rcases hs with e | e
          · rw [if_pos e, y1]
          · rw [if_neg (by rw [e]; decide), if_pos e, y1]
        · rw [mm]
          rcases hs with e | e
          · rw [if_pos e]
            exact x2
          · rw [if_neg (by rw [e]; decide), if_pos e]
            exact x2
      · refine bo_same h (x := -12) ?_ ?_
        · rw [cc, if_neg (fun q => hs (Or.inl q)), if_neg (fun q => hs (Or.inr q))]
        · rw [mm, if_neg (fun q => hs (Or.inl q)), if_neg (fun q => hs (Or.inr q))]
    · refine bo_same h (x := -1) ?_ ?_
      · unfold f_X11_judge
        simp only [Nat.reduceAdd, Nat.zero_add]
        rw [cc_hasW_t hn hcN hw hh]
        simp only [Option.bind_some]
        rw [if_neg bp_10, cl_isTape, if_neg hb]
        rfl
      · unfold f_X12_judge
        rw [mm_isW_t hn hmN hw hh]
        simp only [Option.bind_some]
        rw [if_neg bp_10, bp_in_f (lo := 0) (hi := 5) hb]
        rfl
  · refine bo_same h (x := -1) ?_ ?_
    · unfold f_X11_judge
      simp only [Nat.reduceAdd, Nat.zero_add]
      rw [cc_hasW_f hn hcN hw0]
      rfl
    · unfold f_X12_judge
      rw [mm_isW_f hn hmN hw0]
      rfl
end OPS164
