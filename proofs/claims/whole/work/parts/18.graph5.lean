/-! clauses laid -/
abbrev ly_c (N : bn_N) (y : ps_C) : Prop := y.1 < bn_nb N ∧ y.2.1 < bn_nb N ∧ bn_nw N < 8
abbrev ly_w (y : ps_C) (q : List Int32) : bn_W := (y.1, y.2.1, y.2.2.1, y.2.2.2.1, true, q)
def ly_N (N : bn_N) (y : ps_C) : bn_N := if ly_c N y then bn_aW N (ly_w y (y.2.2.2.2.map nI)) else N
def ly_all : List ps_C → bn_N → Nat → bn_N × Nat
  | [], N, n => (N, n)
  | y :: t, N, n => ly_all t (ly_N N y) (if ly_c N y then n + 1 else n)
theorem ly_wok {N : bn_N} {y : ps_C} {q : List Int32} (hy : ps_ok y) (hc : ly_c N y) (hq : q.length ≤ 6) : bw_ok (bn_nb N) (ly_w y q) := ⟨fun _ => ⟨hc.1, hc.2.1, hy.2.2.1.1, hy.2.2.1.2, hy.2.2.2.1.1, hy.2.2.2.1.2⟩, Nat.le_trans hq (by omega), fun z => absurd (show true = false from z) (by decide)⟩
theorem ly_ok {N : bn_N} {y : ps_C} (hok : bn_ok N) (hy : ps_ok y) : bn_ok (ly_N N y) ∧ bn_nb (ly_N N y) = bn_nb N := by
  unfold ly_N
  by_cases hc : ly_c N y
  · rw [if_pos hc]
    exact ⟨hok.addW hc.2.2 (ly_wok hy hc (by rw [List.length_map]; exact hy.2.2.2.2)), rfl⟩
  · rw [if_neg hc]
    exact ⟨hok, rfl⟩
theorem ly_allok : ∀ (a : List ps_C) (N : bn_N) (n : Nat), bn_ok N → (∀ y ∈ a, ps_ok y) → bn_ok (ly_all a N n).1 ∧ bn_nb (ly_all a N n).1 = bn_nb N
  | [], N, n, hok, ha => ⟨hok, rfl⟩
  | y :: t, N, n, hok, ha => by
    have h1 := ly_ok hok (ha y (List.mem_cons_self ..))
    have h2 := ly_allok t (ly_N N y) (if ly_c N y then n + 1 else n) h1.1 (fun z hz => ha z (List.mem_cons_of_mem _ hz))
    exact ⟨h2.1, h2.2.trans h1.2⟩
theorem ly_v {N : bn_N} {y : ps_C} (hok : bn_ok N) (hy : ps_ok y) : (bw_v1 N (nI y.1) (nI y.2.1) ∧ bw_v2 (nI y.2.2.1) (nI y.2.2.2.1) ∧ bn_nw N < 8) ↔ ly_c N y := by
  obtain ⟨y1, y2, y3, y4, -⟩ := hy
  unfold bw_v1 bw_v2
  rw [bp_toI (by omega), bp_toI (by omega), bp_toI (by omega), bp_toI (by omega)]
  constructor
  · intro h
    exact ⟨by omega, by omega, h.2.2⟩
  · intro h
    obtain ⟨h1, h2, h3⟩ := h
    exact ⟨by omega, by omega, h3⟩
theorem bl_dropN {a : List Nat} {j : Nat} (h : j < a.length) : a.drop j = a.getD j 0 :: a.drop (j + 1) := by
  rw [List.drop_eq_getElem_cons h, List.getD_eq_getElem?_getD, List.getElem?_eq_getElem h]
  rfl
theorem bn_wcn (N : bn_N) (a b c d : Int32) : bn_wc N a b c d < 0 := by
  unfold bn_wc
  by_cases h1 : bw_v1 N a b
  · rw [if_pos h1]
    by_cases h2 : bw_v2 c d
    · rw [if_pos h2]; decide
    · rw [if_neg h2]; decide
  · rw [if_neg h1]; decide
section GR5
variable {L : Nat → Nat → Int64}
theorem cl_lay45 {c w : Nat} {x : bn_W} {a : List Nat} (hw : w < 8) (hc : c < 8) (ha : a.length ≤ 6) (K : (Nat → Nat → Int32) → (Nat → Nat → Int64) → Option (Int32 × bf_St)) : ∀ (n j : Nat) (I : Nat → Nat → Int32) (q : List Int32), j ≤ a.length → a.length < j + n → cl_T I c a → bc_W I (11 + 2 * w) (bw_sq x q) → q.length ≤ j → ∃ I1, f_X11_layClause_45 0 (127 + 2 * c) (nI w) K n (nI j) I L = K I1 L ∧ bc_W I1 (11 + 2 * w) (bw_sq x (q ++ (a.drop j).map nI)) ∧ ∀ r, r ≠ 11 + 2 * w → r ≠ 11 + 2 * w + 1 → I1 r = I r
  | 0, j, I, q, h1, h2, hA, hW, hl => by omega
  | n + 1, j, I, q, h1, h2, hA, hW, hl => by
    rw [f_X11_layClause_45, hA.1]
    by_cases hj : j = a.length
    · rw [if_pos (nI_le (by omega) (by omega)), List.drop_eq_nil_of_le (by omega), List.map_nil, List.append_nil]
      exact ⟨I, rfl, hW, fun r _ _ => rfl⟩
    · rw [if_neg (nI_ge (by omega) (by omega)), if_neg (show ¬ (6 : Int32) ≤ nI j from nI_ge (b := 6) (by omega) (by omega)), if_pos (bp_ok hw (by omega)), if_pos (bp_ok (by omega) (by omega))]
      simp only [Nat.reduceAdd, Nat.zero_add, bp_cl (show w < 100000 by omega), bp_cl (show j < 100000 by omega)]
      rw [show 127 + 2 * c + 1 = 128 + 2 * c by omega, hA.2 j (by omega), bp_p1]
      obtain ⟨I1, e1, e2, e3⟩ := rg_append (L := L) (v := nI (a.getD j 0)) hW (show q.length < 99 by omega)
      rw [e1]
      simp only [Option.bind_some]
      obtain ⟨I2, g1, g2, g3⟩ := cl_lay45 hw hc ha K n (j + 1) I1 (q ++ [nI (a.getD j 0)]) (by omega) (by omega) ⟨by rw [e3 _ (by omega) (by omega)]; exact hA.1, fun i hi => by rw [e3 _ (by omega) (by omega)]; exact hA.2 i hi⟩ e2 (by rw [List.length_append, List.length_singleton]; omega)
      refine ⟨I2, g1, ?_, fun r r1 r2 => by rw [g3 r r1 r2, e3 r r1 r2]⟩
      rw [bl_dropN (show j < a.length by omega), List.map_cons]
      rw [List.append_assoc] at g2
      exact g2
theorem cl_lay {I : Nat → Nat → Int32} {c : Nat} {N : bn_N} {y : ps_C} (hc : c < 8) (hok : bn_ok N) (hN : bc_N I 2 N) (hy : ps_ok y) (hK : cl_K I c y) : ∃ I1, f_X11_layClause 0 (127 + 2 * c) I L = some ((if ly_c N y then 1 else 0), I1, L) ∧ bc_N I1 2 (ly_N N y) ∧ ∀ q, q < 2 ∨ 26 < q → I1 q = I q := by
  obtain ⟨⟨k1, k2, k3, k4⟩, hT⟩ := hK
  have hv := ly_v hok hy
  obtain ⟨y1, y2, y3, y4, y5⟩ := id hy
  unfold f_X11_layClause
  simp only [Nat.reduceAdd, Nat.zero_add]
  rw [k1, k2, k3, k4]
  rcases cl_addWire (L := L) hok hN (nI y.1) (nI y.2.1) (nI y.2.2.1) (nI y.2.2.2.1) with ⟨hno, e⟩ | ⟨f, t, p, k, I1, hv1, ⟨e1, e2, e3, e4⟩, h8, e, hN1, hq⟩
  · have hnc : ¬ ly_c N y := fun z => hno (hv.mpr z)
    rw [e]
    simp only [Option.bind_some]
    unfold f_X3_hasWire
    rw [if_pos (bn_wcn N _ _ _ _)]
    simp only [Option.bind_some]
    refine ⟨I, ?_, ?_, fun q _ => rfl⟩
    · rw [if_pos trivial, if_neg hnc]
    · unfold ly_N
      rw [if_neg hnc]
      exact hN
  · have o1 := hok.1
    rw [bp_eq (by omega) (by omega)] at e1 e2 e3 e4
    subst e1 e2 e3 e4
    have hyc : ly_c N y := ⟨hv1.1, hv1.2.1, h8⟩
    have hwr : bn_wr (bn_aW N (ly_w y [])) (bn_nw N) = ly_w y [] := vu_o
    have hok1 : bn_ok (bn_aW N (ly_w y [])) := hok.addW h8 (ly_wok hy hyc (Nat.zero_le _))
    rw [e]
    simp only [Option.bind_some]
    have hN1' : bc_N I1 2 (bn_aW N (ly_w y [])) := hN1
    rw [cc_hasWn hN1' h8, hwr]
    simp only [Option.bind_some]
    rw [if_pos trivial, if_neg bp_10]
    have hx := hN1'.2.2.2 (bn_nw N) h8
    rw [hwr] at hx
    obtain ⟨I2, g1, g2, g3⟩ := cl_lay45 (L := L) (x := ly_w y []) h8 hc y5 (fun I12 L12 => some (1, I12, L12)) 400 0 I1 [] (by omega) (by omega) ⟨by rw [hq _ (by omega)]; exact hT.1, fun i hi => by rw [hq _ (by omega)]; exact hT.2 i hi⟩ hx (Nat.le_refl _)
    refine ⟨I2, ?_, ?_, fun q hq1 => by rw [g3 q (by omega) (by omega), hq q (by omega)]⟩
    · rw [if_pos hyc]
      exact g1
    · have := hN1'.setW (w := bn_nw N) (x := bw_sq (ly_w y []) ([] ++ (y.2.2.2.2.drop 0).map nI)) hok1 h8 (fun q q1 q2 => g3 q (by omega) (by omega)) g2
      unfold ly_N
      rw [if_pos hyc]
      unfold bn_sW at this
      simp only [vu_vu] at this
      exact this
theorem cl_lays {a : List ps_C} (ha : a.length ≤ 8) (hA : ∀ y ∈ a, ps_ok y) (K : Int32 → (Nat → Nat → Int32) → (Nat → Nat → Int64) → Option (Int32 × bf_St)) : ∀ (n c m : Nat) (N : bn_N) (I : Nat → Nat → Int32), c ≤ a.length → a.length < c + n → bn_ok N → bc_N I 2 N → I 124 1 = nI a.length → cl_L I a → ∃ I1, f_X11_graph_29 0 K n (nI m) (nI c) I L = K (nI (ly_all (a.drop c) N m).2) I1 L ∧ bc_N I1 2 (ly_all (a.drop c) N m).1 ∧ ∀ q, q < 2 ∨ 26 < q → I1 q = I q
  | 0, c, m, N, I, h1, h2, hok, hN, hC, hL => by omega
  | n + 1, c, m, N, I, h1, h2, hok, hN, hC, hL => by
    rw [f_X11_graph_29]
    simp only [Nat.reduceAdd, Nat.zero_add]
    rw [hC]
    by_cases hc : c = a.length
    · rw [if_pos (nI_le (by omega) (by omega)), List.drop_eq_nil_of_le (by omega)]
      exact ⟨I, rfl, hN, fun q _ => rfl⟩
    · obtain ⟨y, e1, e2, e3⟩ := bl_drop (show c < a.length by omega)
      obtain ⟨I1, g1, g2, g3⟩ := cl_lay (L := L) (show c < 8 by omega) hok hN (hA y e2) (hL c y e1)
      rw [if_neg (nI_ge (by omega) (by omega)), if_neg (show ¬ (8 : Int32) ≤ nI c from nI_ge (b := 8) (by omega) (by omega)), if_pos (bp_ok (by omega) (by omega)), bp_cl (by omega), g1, e3, bp_p1]
      simp only [Option.bind_some]
      have ih := fun m' => cl_lays ha hA K n (c + 1) m' (ly_N N y) I1 (by omega) (by omega) (ly_ok hok (hA y e2)).1 g2 (by rw [g3 _ (by omega)]; exact hC) (fun d z hz => by
        have := bs_get hz
        exact (hL d z hz).cg (g3 _ (by omega)) (g3 _ (by omega)))
      by_cases hy : ly_c N y
      · obtain ⟨I2, j1, j2, j3⟩ := ih (m + 1)
        rw [if_pos hy, if_neg bp_10, bp_p1]
        refine ⟨I2, ?_, ?_, fun q hq => by rw [j3 q hq, g3 q hq]⟩
        · rw [j1]
          show _ = K (nI (ly_all (a.drop (c + 1)) (ly_N N y) (if ly_c N y then m + 1 else m)).2) I2 L
          rw [if_pos hy]
        · show bc_N I2 2 (ly_all (a.drop (c + 1)) (ly_N N y) (if ly_c N y then m + 1 else m)).1
          rw [if_pos hy]
          exact j2
      · obtain ⟨I2, j1, j2, j3⟩ := ih m
        rw [if_neg hy, if_pos rfl]
        refine ⟨I2, ?_, ?_, fun q hq => by rw [j3 q hq, g3 q hq]⟩
        · rw [j1]
          show _ = K (nI (ly_all (a.drop (c + 1)) (ly_N N y) (if ly_c N y then m + 1 else m)).2) I2 L
          rw [if_neg hy]
        · show bc_N I2 2 (ly_all (a.drop (c + 1)) (ly_N N y) (if ly_c N y then m + 1 else m)).1
          rw [if_neg hy]
          exact j2
theorem ml_lay174 {c : Nat} {v2 v3 : Int32} {N : bn_N} {y : ps_C} (hc : c < 8) (hok : bn_ok N) (hy : ps_ok y) (hyc : ly_c N y) (K : (Nat → Nat → Int32) → (Nat → Nat → Int64) → Option (Int32 × bf_St)) : ∀ (n j : Nat) (I : Nat → Nat → Int32) (q : List Int32), j ≤ y.2.2.2.2.length → y.2.2.2.2.length < j + n → ml_T I c y.2.2.2.2 → bm_N (I (156 + 1)) (bn_aW N (ly_w y q)) → q.length ≤ j → ∃ I1, f_X12_graph_174 156 v2 v3 (nI (11 * c)) (nI (bn_nw N)) K n (nI j) I L = K I1 L ∧ bm_N (I1 157) (bn_aW N (ly_w y (q ++ (y.2.2.2.2.drop j).map nI))) ∧ (∀ r, r ≠ 157 → I1 r = I r) ∧ ∀ p, p < 74 → I1 157 p = I 157 p
  | 0, j, I, q, h1, h2, hA, hN, hl => by omega
  | n + 1, j, I, q, h1, h2, hA, hN, hl => by
    have y5 := hy.2.2.2.2
    rw [f_X12_graph_174, bp_p4, bp_p5]
    simp only [Nat.reduceAdd]
    rw [if_pos (bp_ok (by omega) (by omega)), bp_cl (by omega), hA.1]
    by_cases hj : j = y.2.2.2.2.length
    · rw [if_pos (nI_le (by omega) (by omega)), List.drop_eq_nil_of_le (by omega), List.map_nil, List.append_nil]
      exact ⟨I, rfl, hN, fun r _ => rfl, fun p _ => rfl⟩
    · rw [if_neg (nI_ge (by omega) (by omega)), nI_add, if_pos (bp_ok (by omega) (by omega)), bp_cl (by omega), hA.2 j (by omega), bp_p1]
      have hok1 : bn_ok (bn_aW N (ly_w y q)) := hok.addW hyc.2.2 (ly_wok hy hyc (by omega))
      have hwr : bn_wr (bn_aW N (ly_w y q)) (bn_nw N) = ly_w y q := vu_o
      obtain ⟨I1, e1, e2, e3, e4⟩ := ml_comes (L := L) (o := 156) (w := bn_nw N) (v := nI (y.2.2.2.2.getD j 0)) hok1 hN (Nat.lt_succ_self _) (by rw [hwr]; show q.length < 99; omega)
      rw [e1]
      simp only [Option.bind_some]
      rw [hwr] at e2
      have e2' : bm_N (I1 157) (bn_aW N (ly_w y (q ++ [nI (y.2.2.2.2.getD j 0)]))) := by
        have := e2
        unfold bn_sW at this
        simp only [vu_vu] at this
        exact this
      obtain ⟨I2, g1, g2, g3, g4⟩ := ml_lay174 (v2 := v2) (v3 := v3) hc hok hy hyc K n (j + 1) I1 (q ++ [nI (y.2.2.2.2.getD j 0)]) (by omega) (by omega) ⟨by rw [e3 _ (by omega)]; exact hA.1, fun i hi => by rw [e3 _ (by omega)]; exact hA.2 i hi⟩ e2' (by rw [List.length_append, List.length_singleton]; omega)
      refine ⟨I2, g1, ?_, fun r hr => by rw [g3 r hr, e3 r (by omega)], fun p hp => by rw [g4 p hp]; exact e4 p hp⟩
      rw [bl_dropN (show j < y.2.2.2.2.length by omega), List.map_cons]
      rw [List.append_assoc] at g2
      exact g2
theorem ml_lays {a : List ps_C} (ha : a.length ≤ 8) (hA : ∀ y ∈ a, ps_ok y) (K : Int32 → (Nat → Nat → Int32) → (Nat → Nat → Int64) → Option (Int32 × bf_St)) : ∀ (n c m : Nat) (N : bn_N) (I : Nat → Nat → Int32), c ≤ a.length → a.length < c + n → bn_ok N → bm_N (I (156 + 1)) N → I 156 8 = nI a.length → ml_L I a → ∃ I1, f_X12_graph_109 156 K n (nI m) (nI c) I L = K (nI (ly_all (a.drop c) N m).2) I1 L ∧ bm_N (I1 157) (ly_all (a.drop c) N m).1 ∧ (∀ r, r ≠ 157 → I1 r = I r) ∧ ∀ p, (2 ≤ p ∧ p < 5) ∨ (23 ≤ p ∧ p < 74) → I1 157 p = I 157 p
  | 0, c, m, N, I, h1, h2, hok, hN, hC, hL => by omega
  | n + 1, c, m, N, I, h1, h2, hok, hN, hC, hL => by
    rw [f_X12_graph_109, hC]
    by_cases hc : c = a.length
    · rw [if_pos (nI_le (by omega) (by omega)), List.drop_eq_nil_of_le (by omega)]
      exact ⟨I, rfl, hN, fun q _ => rfl, fun p _ => rfl⟩
    · obtain ⟨y, e1, e2, e3⟩ := bl_drop (show c < a.length by omega)
      have hy := hA y e2
      have hv := ly_v hok hy
      obtain ⟨y1, y2, y3, y4, y5⟩ := id hy
      obtain ⟨⟨k1, k2, k3, k4⟩, hT⟩ := hL c y e1
      rw [if_neg (nI_ge (by omega) (by omega)), show (11 : Int32) = nI 11 from rfl, pk_mul, bp_p1 (11 * c), bp_p2, bp_p3, if_pos (bp_ok (by omega) (by omega)), if_pos (bp_ok (by omega) (by omega)), if_pos (bp_ok (by omega) (by omega)), if_pos (bp_ok (by omega) (by omega)), bp_cl (by omega), bp_cl (by omega), bp_cl (by omega), bp_cl (by omega)]
      simp only [Nat.reduceAdd]
      rw [k1, k2, k3, k4, e3, bp_p1]
      rcases ml_wire (L := L) hok hN (nI y.1) (nI y.2.1) (nI y.2.2.1) (nI y.2.2.2.1) with ⟨hno, e⟩ | ⟨f, t, p, k, I1, hv1, ⟨z1, z2, z3, z4⟩, h8, e, hN1, hq, hr⟩
      · have hnc : ¬ ly_c N y := fun z => hno (hv.mpr z)
        rw [e]
        simp only [Option.bind_some]
        rw [if_pos (bn_wcn N _ _ _ _)]
        obtain ⟨I2, j1, j2, j3, j4⟩ := ml_lays ha hA K n (c + 1) m (ly_N N y) I (by omega) (by omega) (ly_ok hok hy).1 (by unfold ly_N; rw [if_neg hnc]; exact hN) hC hL
        refine ⟨I2, ?_, ?_, j3, j4⟩
        · rw [j1]
          show _ = K (nI (ly_all (a.drop (c + 1)) (ly_N N y) (if ly_c N y then m + 1 else m)).2) I2 L
          rw [if_neg hnc]
        · show bm_N (I2 157) (ly_all (a.drop (c + 1)) (ly_N N y) (if ly_c N y then m + 1 else m)).1
          rw [if_neg hnc]
          exact j2
      · have o1 := hok.1
        rw [bp_eq (by omega) (by omega)] at z1 z2 z3 z4
        subst z1 z2 z3 z4
        have hyc : ly_c N y := ⟨hv1.1, hv1.2.1, h8⟩
        rw [e]
        simp only [Option.bind_some]
        rw [if_neg (nI_pos (by omega)), bp_p1, show (0 : Int32) = nI 0 from rfl]
        obtain ⟨I2, g1, g2, g3, g4⟩ := ml_lay174 (L := L) (v2 := nI (m + 1)) (v3 := nI c) (show c < 8 by omega) hok hy hyc (fun I29 L29 => f_X12_graph_109 156 K n (nI (m + 1)) (nI (c + 1)) I29 L29) 400 0 I1 [] (by omega) (by omega) ⟨by rw [hq _ (by omega)]; exact hT.1, fun i hi => by rw [hq _ (by omega)]; exact hT.2 i hi⟩ hN1 (Nat.le_refl _)
        rw [g1]
        have hN2 : bm_N (I2 (156 + 1)) (ly_N N y) := by
          unfold ly_N
          rw [if_pos hyc]
          exact g2
        obtain ⟨I3, j1, j2, j3, j4⟩ := ml_lays ha hA K n (c + 1) (m + 1) (ly_N N y) I2 (by omega) (by omega) (ly_ok hok hy).1 hN2 (by rw [g3 _ (by omega), hq _ (by omega)]; exact hC) (fun d z hz => (hL d z hz).cg (hA z (List.mem_of_getElem? hz)) (fun j _ _ => by rw [g3 _ (by omega), hq _ (by omega)]))
        refine ⟨I3, ?_, ?_, fun r hr1 => by rw [j3 r hr1, g3 r hr1, hq r (by omega)], fun p hp => by rw [j4 p hp, g4 p (by omega)]; exact hr p hp⟩
        · rw [j1]
          show _ = K (nI (ly_all (a.drop (c + 1)) (ly_N N y) (if ly_c N y then m + 1 else m)).2) I3 L
          rw [if_pos hyc]
        · show bm_N (I3 157) (ly_all (a.drop (c + 1)) (ly_N N y) (if ly_c N y then m + 1 else m)).1
          rw [if_pos hyc]
          exact j2
end GR5
section GR6
variable {I : Nat → Nat → Int32} {L : Nat → Nat → Int64}
theorem gr_C {A : bn_A} {N : bn_N} {I1 : Nat → Nat → Int32} (hC : bc_A I L A) (hok : ba_ok A) (hN : bc_N I1 2 N) (h0 : I1 124 0 = 0) (hq : ∀ q, q < 2 ∨ (26 < q ∧ q < 124) ∨ 143 ≤ q → I1 q = I q) : bc_A I1 L ((N, A.1.2), A.2.1, [], A.2.2.2) := by
  obtain ⟨⟨-, h2, h3, h4, h5, h6, h7⟩, g2, g3, g4, g5, g6⟩ := hC
  refine ⟨⟨hN, by rw [hq _ (by omega)]; exact h2, by rw [hq _ (by omega)]; exact h3, by rw [hq _ (by omega)]; exact h4, ?_, ?_, ?_⟩, by rw [hq 0 (by omega)]; exact g2, fun S hS => (g3 S hS).cg (hok.2.1 S hS) (fun q a b => hq q (by omega)), h0, fun k c hk => absurd (bs_get hk) (Nat.not_lt_zero _), fun t ht => ?_⟩
  · rw [hq (1 + 27) (by omega), hq (1 + 28) (by omega), hq (1 + 29) (by omega)]
    exact h5
  · rw [hq (1 + 31) (by omega), hq (1 + 32) (by omega)]
    exact h6
  · rw [hq (1 + 35) (by omega), hq (1 + 36) (by omega)]
    exact h7
  · rw [hq (144 + 2 * t) (by omega)]
    exact g6 t ht
theorem gr_M {A : bn_A} {N : bn_N} {I1 : Nat → Nat → Int32} (hM : bm_A I L A) (hok : ba_ok A) (hN : bm_N (I1 157) N) (h5 : I1 156 5 = 0) (h3 : I1 156 3 = I 156 3) (hq : ∀ q, 157 < q → q ≠ 161 → I1 q = I q) (hr : ∀ k, (2 ≤ k ∧ k < 5) ∨ (23 ≤ k ∧ k < 74) → I1 157 k = I 157 k) : bm_A I1 L ((N, A.1.2), A.2.1, [], A.2.2.2) := by
  obtain ⟨⟨-, k2, k3, k4, k5, k6, k7⟩, g2, g3, g4, g5, g6⟩ := hM
  obtain ⟨⟨-, o2, o3, o4, -⟩, -⟩ := hok
  refine ⟨⟨hN, by rw [hr 2 (by omega)]; exact k2, by rw [hr 3 (by omega)]; exact k3, by rw [hr 4 (by omega)]; exact k4, fun k x hk => ?_, fun k x hk => ?_, fun k x hk => ?_⟩, by rw [h3]; exact g2, by rw [hq 159 (by omega) (by omega)]; exact g3, h5, fun k c hk => absurd (bs_get hk) (Nat.not_lt_zero _), by rw [hq 170 (by omega) (by omega), hq 171 (by omega) (by omega)]; exact g6⟩
  · have := bs_get hk
    have : k < 5 := Nat.lt_of_lt_of_le this o2
    rw [hr _ (by omega), hr _ (by omega), hr _ (by omega)]
    exact k5 k x hk
  · have := bs_get hk
    have : k < 10 := Nat.lt_of_lt_of_le this o3
    rw [hr _ (by omega), hr _ (by omega)]
    exact k6 k x hk
  · have := bs_get hk
    have : k < 8 := Nat.lt_of_lt_of_le this o4
    rw [hr _ (by omega), hr _ (by omega)]
    exact k7 k x hk
theorem gy_ok {A : bn_A} {N : bn_N} (hok : ba_ok A) (hN : bn_ok N) (hb : bn_nb N = bn_nb A.1.1) : ba_ok ((N, A.1.2), A.2.1, [], A.2.2.2) := by
  obtain ⟨⟨h1, h2, h3, h4, h5, h6, h7⟩, g1, g2, g3, g4⟩ := hok
  refine ⟨⟨hN, h2, h3, h4, h5, fun x hx => ?_, h7⟩, g1, Nat.zero_le _, fun c hc => absurd hc List.not_mem_nil, g4⟩
  show _ ∧ _ ∧ (_ → x.2 < bn_nb N)
  rw [hb]
  exact h6 x hx
theorem op_graph (h : bo_St I L) : bo_OK (f_X11_graph 0 I L) (f_X12_graph 156) := by
  obtain ⟨A, hok, hC, hM⟩ := id h
  have hn : bn_ok A.1.1 := hok.1.1
  have hcN : bc_N I 2 A.1.1 := hC.1.1
  have hmN : bm_N (I (156 + 1)) A.1.1 := hM.1.1
  have hgd : ∀ k, k < (ba_x A).length → (ba_x A)[k]? = some ((ba_x A).getD k 0) := fun k hk => by
    rw [List.getD_eq_getElem?_getD, List.getElem?_eq_getElem hk]
    rfl
  have hx : tx_ok (ba_x A) := ⟨hok.2.2.1, fun k hk => hok.2.2.2.1 _ (List.mem_of_getElem? (hgd k hk))⟩
  have hT : tx_c (bf_u (bf_u I 124 4 0) 124 1 0) (ba_x A) 0 := ⟨by simp (disch := omega) only [bf_u_ni]; exact hC.2.2.2.1, by simp (disch := omega) only [bf_u_ni, bf_u_at]; rfl, fun k hk => by simp (disch := omega) only [bf_u_ne]; exact hC.2.2.2.2.1 k _ (hgd k hk)⟩
  obtain ⟨I1, e1, e2, e3, e4, e5, e6⟩ := cl_fault (L := L) hx (fun I11 L11 => some (I11 124 4, I11, L11)) 400 8 0 [] (bf_u (bf_u I 124 4 0) 124 1 0) rfl (by omega) (by omega) (by omega) hT (by rw [bf_u_at]; rfl) (fun c y hy => absurd (bs_get hy) (Nat.not_lt_zero _)) (fun y hy => absurd hy List.not_mem_nil)
  have cc : f_X11_graph 0 I L = (if ps_f (ps_g (ba_x A) 8 0 []).1 < 0 then f_X11_graph_29 0 (fun k2 I10 L10 => some (k2, I10, L10)) 400 0 0 (bf_u I1 124 0 0) L else some (-10 - ps_f (ps_g (ba_x A) 8 0 []).1, bf_u I1 124 0 0, L)) := by
    unfold f_X11_graph f_X9_findFault
    simp only [Nat.reduceAdd, Nat.zero_add]
    rw [show (0 : Int32) = nI ([] : List ps_C).length from rfl] at e1 ⊢
    rw [e1]
    rfl
  have fr1 : ∀ q, q < 124 ∨ 143 ≤ q → bf_u I1 124 0 0 q = I q := fun q hq => by
    rw [bf_u_ne (by omega), e5 q (by omega)]
    simp (disch := omega) only [bf_u_ne]
  have refr : ∀ I2 : Nat → Nat → Int32, (∀ q, 156 ≤ q → I2 q = I q) → ∃ g I3, f_X12_graph 156 I2 L = f_X12_graph_p67 156 g I3 L ∧ ml_R I3 (ba_x A) g (ps_g (ba_x A) 8 0 []) ∧ (∀ q, q ≠ 156 → q ≠ 161 → I3 q = I2 q) ∧ (∀ j, j ≠ 6 → j ≠ 8 → I3 156 j = I2 156 j) := fun I2 h2 => by
    have hT2 : tx_m (bf_u (bf_u I2 156 6 0) 156 8 0) (ba_x A) 0 := ⟨by simp (disch := omega) only [bf_u_ni]; rw [h2 156 (by omega)]; exact hM.2.2.2.1, by simp (disch := omega) only [bf_u_ni, bf_u_at]; rfl, fun k hk => by simp (disch := omega) only [bf_u_ne]; rw [h2 160 (by omega)]; exact hM.2.2.2.2.1 k _ (hgd k hk)⟩
    obtain ⟨g, I3, g1, g2, g3, g4⟩ := ml_fault (L := L) hx (fun k1 I13 L13 => f_X12_graph_p67 156 k1 I13 L13) 8 399 0 [] (bf_u (bf_u I2 156 6 0) 156 8 0) rfl (by omega) (by omega) (by omega) hT2 (by rw [bf_u_at]; rfl) (fun c y hy => absurd (bs_get hy) (Nat.not_lt_zero _)) (fun y hy => absurd hy List.not_mem_nil)
    refine ⟨g, I3, ?_, g2, fun q q1 q2 => by rw [g3 q q1 q2]; simp only [bf_u_ne q1], fun j j1 j2 => by rw [g4 j j1 j2, bf_u_ni j2, bf_u_ni j1]⟩
    unfold f_X12_graph
    rw [f_X12_graph_12, if_neg bp_10, bf_u_at, if_pos rfl]
    exact g1
  have hl := hx.1
  cases hr : (ps_g (ba_x A) 8 0 []).1 with
  | some v =>
    obtain ⟨g, I3, r1, r2, r3, r4⟩ := refr (bf_u I1 124 0 0) (fun q hq => fr1 q (by omega))
    have hv := e6 v hr
    unfold ml_R at r2
    rw [hr] at r2 cc
    obtain ⟨r21, r22, r23⟩ := r2
    have r21 : I3 156 6 = nI v := r21
    rw [show ps_f (some v) = nI v from rfl, if_neg (nI_pos (by omega))] at cc
    refine bo_mk (A := ((A.1.1, A.1.2), A.2.1, [], A.2.2.2)) (x := -10 - nI v) (I1 := bf_u I1 124 0 0) (L1 := L) (I2 := bf_u I3 156 5 0) (L2 := L) cc ?_ (fun q hq => ⟨by rw [bf_u_ne (by omega), r3 q (by omega) (by omega)], rfl⟩) (gy_ok hok hn rfl) (gr_C hC hok (hcN.cg (fun q q1 q2 => fr1 q (by omega)) hn) bf_u_at (fun q hq => fr1 q (by omega))) (gr_M hM hok (by rw [bf_u_ne (by omega), r3 157 (by omega) (by omega), fr1 157 (by omega)]; exact hmN) bf_u_at (by rw [bf_u_ni (by omega), r4 3 (by omega) (by omega), fr1 156 (by omega)]) (fun q q1 q3 => by rw [bf_u_ne (by omega), r3 q (by omega) q3, fr1 q (by omega)]) (fun k hk => by rw [bf_u_ne (by omega), r3 157 (by omega) (by omega), fr1 157 (by omega)]))
    rw [r1]
    have key : f_X12_graph_p86 156 I3 L = some (-10 - nI v, bf_u I3 156 5 0, L) := by
      unfold f_X12_graph_p86 f_X12_graph_p87
      rw [if_pos rfl, bf_u_ni (by omega), r21]
    unfold f_X12_graph_p67
    rcases r23 with rfl | ⟨rfl, hlt⟩
    · rw [if_pos rfl]
      exact key
    · rw [if_neg bp_10, r21, r4 5 (by omega) (by omega), fr1 156 (by omega), hM.2.2.2.1, if_neg (fun z => by rw [bp_eq (by omega) (by omega)] at z; omega)]
      exact key
  | none =>
    obtain ⟨c1, c2⟩ := e2 hr
    rw [hr, if_pos (by decide)] at cc
    obtain ⟨I4, d1, d2, d3⟩ := cl_lays (L := L) e3 e4 (fun k2 I10 L10 => some (k2, I10, L10)) 400 0 0 A.1.1 (bf_u I1 124 0 0) (by omega) (by omega) hn (hcN.cg (fun q q1 q2 => fr1 q (by omega)) hn) (by rw [bf_u_ni (by omega)]; exact c1) (fun c y hy => (c2 c y hy).cg (by rw [bf_u_ne (by omega)]) (by rw [bf_u_ne (by omega)]))
    rw [List.drop_zero] at d1 d2
    have hI4 : ∀ q, 156 ≤ q → I4 q = I q := fun q hq => by rw [d3 q (by omega), fr1 q (by omega)]
    obtain ⟨g, I3, r1, r2, r3, r4⟩ := refr I4 hI4
    unfold ml_R at r2
    rw [hr] at r2
    obtain ⟨r21, r22, r23, r24⟩ := r2
    have r22 : I3 156 6 = nI (ba_x A).length := r22
    subst r21
    obtain ⟨I5, j1, j2, j3, j4⟩ := ml_lays (L := L) e3 e4 (fun k2 I30 L30 => some (k2, I30, L30)) 400 0 0 A.1.1 (bf_u I3 156 5 0) (by omega) (by omega) hn (by rw [bf_u_ne (by omega), r3 157 (by omega) (by omega), hI4 157 (by omega)]; exact hmN) (by rw [bf_u_ni (by omega)]; exact r23) (fun c y hy => (r24 c y hy).cg (e4 y (List.mem_of_getElem? hy)) (fun j _ _ => by rw [bf_u_ne (by omega)]))
    rw [List.drop_zero] at j1 j2
    have hal := ly_allok (ps_g (ba_x A) 8 0 []).2 A.1.1 0 hn e4
    refine bo_mk (A := (((ly_all (ps_g (ba_x A) 8 0 []).2 A.1.1 0).1, A.1.2), A.2.1, [], A.2.2.2)) (x := nI (ly_all (ps_g (ba_x A) 8 0 []).2 A.1.1 0).2) (I1 := I4) (L1 := L) (I2 := I5) (L2 := L) (cc.trans d1) ?_ (fun q hq => ⟨by rw [j3 q (by omega), bf_u_ne (by omega), r3 q (by omega) (by omega)], rfl⟩) (gy_ok hok hal.1 hal.2) (gr_C hC hok d2 (by rw [d3 124 (by omega), bf_u_at]) (fun q hq => by rw [d3 q (by omega), fr1 q (by omega)])) (gr_M hM hok j2 (by rw [j3 156 (by omega), bf_u_at]) (by rw [j3 156 (by omega), bf_u_ni (by omega), r4 3 (by omega) (by omega), hI4 156 (by omega)]) (fun q q1 q3 => by rw [j3 q (by omega), bf_u_ne (by omega), r3 q (by omega) q3, hI4 q (by omega)]) (fun k hk => by rw [j4 k hk, bf_u_ne (by omega), r3 157 (by omega) (by omega), hI4 157 (by omega)]))
    rw [r1]
    unfold f_X12_graph_p67 f_X12_graph_p87
    rw [if_neg bp_10, r22, r4 5 (by omega) (by omega), hI4 156 (by omega), hM.2.2.2.1, if_pos rfl, if_neg bp_10]
    exact j1
end GR6
