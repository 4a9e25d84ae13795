section OPS163
variable {I : Nat → Nat → Int32} {L : Nat → Nat → Int64}
theorem bp_inB {a : Int32} {m : Nat} (hm : m < 100000) : f_X12_in a.toInt64 0 (nI m - 1).toInt64 I L = some ((if 0 ≤ a.toInt ∧ a.toInt < (m : Int) then 1 else 0), I, L) := by
  rw [bp_in]
  by_cases h : 0 ≤ a.toInt ∧ a.toInt < (m : Int)
  · rw [if_pos h, if_pos ((bp_inN hm).mpr ((bp_isB hm).mpr h))]
  · rw [if_neg h, if_neg (fun q => h ((bp_isB hm).mp ((bp_inN hm).mp q)))]
theorem tp_holds {o m : Nat} (h1 : I o 1 = nI m) (hm : m ≤ 60) (a : Int32) : f_X8_holds o a I L = some ((if 0 ≤ a.toInt ∧ a.toInt < (m : Int) then 1 else 0), I, L) := by
  unfold f_X8_holds
  rw [h1]
  by_cases h0 : a < 0
  · rw [if_pos h0, if_neg (by rw [bp_lt0] at h0; omega)]
  · by_cases h1 : nI m ≤ a
    · rw [if_neg h0, if_pos h1, if_neg (by rw [bp_leI, bp_toI (by omega)] at h1; omega)]
    · rw [if_neg h0, if_neg h1, if_pos (by rw [bp_lt0] at h0; rw [bp_leI, bp_toI (by omega)] at h1; omega)]
/-- an item of a sort -/
def bt_it (s : Int32) (v : Int64) : Int64 := if s = 0 then v.toInt32.toInt8.toInt32.toInt64 else if s = 1 then v.toInt32.toInt16.toInt32.toInt64 else if s = 2 then v.toInt32.toInt64 else if s = 3 then v else if lg_cmp v 0 = 0 then 0 else 1
theorem cl_asItem {o k : Nat} (hk : k ≤ 4) (h0 : I o 0 = nI k) (v : Int64) : f_X8_asItem o v I L = some (bt_it (nI k) v, I, L) := by
  unfold f_X8_asItem bt_it
  rw [h0]
  match k, hk with
  | 0, _ => rfl
  | 1, _ => rfl
  | 2, _ => rfl
  | 3, _ => rfl
  | 4, _ =>
    show (if lg_cmp v 0 = 0 then some ((0 : Int64), I, L) else some ((1 : Int64), I, L)) = some ((if lg_cmp v 0 = 0 then 0 else 1), I, L)
    by_cases q : lg_cmp v 0 = 0
    · rw [if_pos q, if_pos q]
    · rw [if_neg q, if_neg q]
theorem ml_asItem (s : Int32) (v : Int64) : f_X12_lowestBits s v I L = some (bt_it s v, I, L) := by
  unfold f_X12_lowestBits bt_it
  by_cases q0 : s = 0
  · rw [if_pos q0, if_pos q0]
  by_cases q1 : s = 1
  · rw [if_neg q0, if_pos q1, if_neg q0, if_pos q1]
  by_cases q2 : s = 2
  · rw [if_neg q0, if_neg q1, if_pos q2, if_neg q0, if_neg q1, if_pos q2]
  by_cases q3 : s = 3
  · rw [if_neg q0, if_neg q1, if_neg q2, if_pos q3, if_neg q0, if_neg q1, if_neg q2, if_pos q3]
  rw [if_neg q0, if_neg q1, if_neg q2, if_neg q3, if_neg q0, if_neg q1, if_neg q2, if_neg q3]
  by_cases q : lg_cmp v 0 = 0
  · rw [if_pos q, if_pos q]
  · rw [if_neg q, if_neg q]
theorem op_peek (h : bo_St I L) (a i : Int32) : bo_OK (f_X11_peek 0 a i I L) (f_X12_peek 156 a i) := by
  obtain ⟨A, hok, hC, hM⟩ := id h
  by_cases ha : 0 ≤ a.toInt ∧ a.toInt ≤ 5
  · obtain ⟨t, ht, rfl⟩ := bp_rg (n := 5) (by omega) ha.1 ha.2
    obtain ⟨c0, c1, c2⟩ := hC.2.2.2.2.2 t (by omega)
    obtain ⟨m0, m1, m2⟩ := hM.2.2.2.2.2 t (by omega)
    have hm := (hok.2.2.2.2 t (by omega)).1
    by_cases hi : 0 ≤ i.toInt ∧ i.toInt < ((ba_t A t).2.1 : Int)
    · obtain ⟨k, hk, rfl⟩ := (bp_isB (by omega)).mpr hi
      refine bo_same h (x := (ba_t A t).2.2 k) ?_ ?_
      · unfold f_X11_peek f_X8_itemAt
        rw [cl_isTape, if_pos ha]
        simp only [Option.bind_some, Nat.reduceAdd, Nat.zero_add, bp_cl (show t < 100000 by omega)]
        rw [if_neg bp_10, if_pos (bp_ok (by omega) (by omega)), tp_holds c1 hm, if_pos hi]
        simp only [Option.bind_some]
        rw [if_neg bp_10, if_pos (bp_ok (by omega) (by omega)), tp_holds c1 hm, if_pos hi]
        simp only [Option.bind_some]
        rw [if_neg bp_10, if_pos (bp_ok (by omega) (by omega)), bp_cl (by omega), show 144 + 2 * t + 1 = 145 + 2 * t by omega, c2 k (by omega)]
        rfl
      · unfold f_X12_peek
        rw [bp_in_t (lo := 0) (hi := 5) ha]
        simp only [Option.bind_some, Nat.reduceAdd, bp_cl (show t < 100000 by omega)]
        rw [if_neg bp_10, if_pos (bp_ok (by omega) (by omega)), m1, bp_inB (by omega), if_pos hi]
        simp only [Option.bind_some]
        rw [if_neg bp_10, show (60 : Int32) = nI 60 from rfl, pk_mul, nI_add, if_pos (bp_ok (by omega) (by omega)), bp_cl (by omega), m2 k (by omega)]
    · refine bo_same h (x := -9223372036854775808) ?_ ?_
      · unfold f_X11_peek
        rw [cl_isTape, if_pos ha]
        simp only [Option.bind_some, Nat.reduceAdd, Nat.zero_add, bp_cl (show t < 100000 by omega)]
        rw [if_neg bp_10, if_pos (bp_ok (by omega) (by omega)), tp_holds c1 hm, if_neg hi]
        rfl
      · unfold f_X12_peek
        rw [bp_in_t (lo := 0) (hi := 5) ha]
        simp only [Option.bind_some, Nat.reduceAdd, bp_cl (show t < 100000 by omega)]
        rw [if_neg bp_10, if_pos (bp_ok (by omega) (by omega)), m1, bp_inB (by omega), if_neg hi]
        rfl
  · refine bo_same h (x := -9223372036854775808) ?_ ?_
    · unfold f_X11_peek
      rw [cl_isTape, if_neg ha]
      rfl
    · unfold f_X12_peek
      rw [bp_in_f (lo := 0) (hi := 5) ha]
      rfl
theorem op_item (h : bo_St I L) (a i : Int32) (v : Int64) : bo_OK (f_X11_item 0 a i v I L) (f_X12_item 156 a i v) := by
  obtain ⟨A, hok, hC, hM⟩ := id h
  by_cases ha : 0 ≤ a.toInt ∧ a.toInt ≤ 5
  · obtain ⟨t, ht, rfl⟩ := bp_rg (n := 5) (by omega) ha.1 ha.2
    obtain ⟨c0, c1, c2⟩ := hC.2.2.2.2.2 t (by omega)
    obtain ⟨m0, m1, m2⟩ := hM.2.2.2.2.2 t (by omega)
    obtain ⟨hm, hs⟩ := hok.2.2.2.2 t (by omega)
    by_cases hs1 : (ba_t A t).1 = -1
    · refine bo_same h (x := -11) ?_ ?_
      · unfold f_X11_item
        rw [cl_isTape, if_pos ha]
        simp only [Option.bind_some, Nat.reduceAdd, Nat.zero_add, bp_cl (show t < 100000 by omega)]
        rw [if_neg bp_10, if_pos (bp_ok (by omega) (by omega)), c0, if_pos hs1]
      · unfold f_X12_item
        rw [bp_in_t (lo := 0) (hi := 5) ha]
        simp only [Option.bind_some, Nat.reduceAdd, bp_cl (show t < 100000 by omega)]
        rw [if_neg bp_10, if_pos (bp_ok (by omega) (by omega)), m0, if_pos hs1]
    · obtain ⟨s, hs4, hs5⟩ := hs.resolve_left (fun q => hs1 q.1)
      by_cases hi : 0 ≤ i.toInt ∧ i.toInt < ((ba_t A t).2.1 : Int)
      · obtain ⟨k, hk, rfl⟩ := (bp_isB (by omega)).mpr hi
        have hM1 : bm_A I (bf_u L (145 + 2 * t) k (bt_it (nI s) v)) A := hM.fc (fun q hq => ⟨rfl, bf_u_ne (by omega)⟩)
        refine bo_mk (A := bn_sT A t ((ba_t A t).1, (ba_t A t).2.1, va_up (ba_t A t).2.2 k (bt_it (nI s) v))) (x := 1) (I1 := I) (L1 := bf_u L (145 + 2 * t) k (bt_it (nI s) v)) (I2 := I) (L2 := bf_u (bf_u L (145 + 2 * t) k (bt_it (nI s) v)) 172 (60 * t + k) (bt_it (nI s) v)) ?_ ?_ (fun q hq => ⟨rfl, bf_u_ne (by omega)⟩) ?_ ?_ ?_
        · unfold f_X11_item f_X8_put
          rw [cl_isTape, if_pos ha]
          simp only [Option.bind_some, Nat.reduceAdd, Nat.zero_add, bp_cl (show t < 100000 by omega)]
          rw [if_neg bp_10, if_pos (bp_ok (by omega) (by omega)), c0, if_neg hs1, if_pos (bp_ok (by omega) (by omega)), tp_holds c1 hm, if_pos hi]
          simp only [Option.bind_some]
          rw [if_neg bp_10, if_pos (bp_ok (by omega) (by omega)), tp_holds c1 hm, if_pos hi]
          simp only [Option.bind_some]
          rw [if_neg bp_10, cl_asItem hs4 (c0.trans hs5)]
          simp only [Option.bind_some]
          rw [if_pos (bp_ok (by omega) (by omega)), bp_cl (by omega), show 144 + 2 * t + 1 = 145 + 2 * t by omega]
          rfl
        · unfold f_X12_item
          rw [bp_in_t (lo := 0) (hi := 5) ha]
          simp only [Option.bind_some, Nat.reduceAdd, bp_cl (show t < 100000 by omega)]
          rw [if_neg bp_10, if_pos (bp_ok (by omega) (by omega)), m0, if_neg hs1, if_pos (bp_ok (by omega) (by omega)), m1, bp_inB (by omega), if_pos hi]
          simp only [Option.bind_some]
          rw [if_neg bp_10, if_pos (bp_ok (by omega) (by omega)), m0, ml_asItem]
          simp only [Option.bind_some]
          rw [show (60 : Int32) = nI 60 from rfl, pk_mul, nI_add, if_pos (bp_ok (by omega) (by omega)), bp_cl (by omega), hs5]
        · exact hok.setT ⟨hm, hs⟩
        · refine hC.setT hok (by omega) (fun q _ => rfl) (fun q hq => bf_u_ne hq) c0 c1 (fun j hj => ?_)
          show _ = va_up _ k _ j
          by_cases e : j = k
          · subst e; rw [bf_u_at, vu_o]
          · rw [bf_u_ni e, vu_n e]; exact c2 j hj
        · refine hM1.setT (fun q _ _ => rfl) m0 m1 (fun j hj => ?_) (fun u hu hu6 => ⟨rfl, rfl, fun j hj => ?_⟩)
          · show _ = va_up _ k _ j
            by_cases e : j = k
            · subst e; rw [bf_u_at, vu_o]
            · rw [bf_u_ni (by omega), vu_n e, bf_u_ne (by omega)]; exact m2 j hj
          · rw [bf_u_ni (by omega)]
      · refine bo_same h (x := -13) ?_ ?_
        · unfold f_X11_item
          rw [cl_isTape, if_pos ha]
          simp only [Option.bind_some, Nat.reduceAdd, Nat.zero_add, bp_cl (show t < 100000 by omega)]
          rw [if_neg bp_10, if_pos (bp_ok (by omega) (by omega)), c0, if_neg hs1, if_pos (bp_ok (by omega) (by omega)), tp_holds c1 hm, if_neg hi]
          rfl
        · unfold f_X12_item
          rw [bp_in_t (lo := 0) (hi := 5) ha]
          simp only [Option.bind_some, Nat.reduceAdd, bp_cl (show t < 100000 by omega)]
          rw [if_neg bp_10, if_pos (bp_ok (by omega) (by omega)), m0, if_neg hs1, if_pos (bp_ok (by omega) (by omega)), m1, bp_inB (by omega), if_neg hi]
          rfl
  · refine bo_same h (x := -1) ?_ ?_
    · unfold f_X11_item
      rw [cl_isTape, if_neg ha]
      rfl
    · unfold f_X12_item
      rw [bp_in_f (lo := 0) (hi := 5) ha]
      rfl
/-- which places are laid already -/
abbrev bt_c (i j d n k p : Nat) : Prop := (j ≤ i ∧ d ≤ p ∧ p < d + k) ∨ (¬ j ≤ i ∧ d + (n - k) ≤ p ∧ p < d + n)
/-- a part of a row laid into it, one behind the other -/
theorem ml_shift {v0 t i u j n : Nat} (ht : t < 6) (hu : u < 6) (hi : i + n ≤ 60) (hj : j + n ≤ 60) (hv : v0 + 16 = 172) (M : Nat → Int64) (K : (Nat → Nat → Int32) → (Nat → Nat → Int64) → Option (Int32 × bf_St)) : ∀ (f k : Nat) (L : Nat → Nat → Int64), k ≤ n → n < k + f → (∀ p, L 172 p = if bt_c i j (60 * u + j) n k p then M (60 * t + i + (p - (60 * u + j))) else M p) → ∃ L1, f_X12_shift_135 v0 (nI t) (nI i) (nI u) (nI j) (nI n) K f (nI k) I L = K I L1 ∧ (∀ p, L1 172 p = if 60 * u + j ≤ p ∧ p < 60 * u + j + n then M (60 * t + i + (p - (60 * u + j))) else M p) ∧ ∀ q, q ≠ 172 → L1 q = L q
  | 0, k, L, h1, h2, hL => by omega
  | f + 1, k, L, h1, h2, hL => by
    rw [f_X12_shift_135]
    by_cases hk : k = n
    · subst hk
      refine ⟨L, if_pos (Int32.le_refl _), fun p => ?_, fun q _ => rfl⟩
      rw [hL p]
      by_cases hp : 60 * u + j ≤ p ∧ p < 60 * u + j + k
      · rw [if_pos (by omega), if_pos hp]
      · rw [if_neg (by omega), if_neg hp]
    · rw [if_neg (nI_ge (by omega) (by omega)), hv]
      by_cases hij : j ≤ i
      · rw [if_pos (nI_le hij (by omega)), show (60 : Int32) = nI 60 from rfl, pk_mul, nI_add, nI_add, pk_mul, nI_add, nI_add, if_pos (bp_ok (by omega) (by omega)), if_pos (bp_ok (by omega) (by omega)), bp_cl (by omega), bp_cl (by omega), bp_p1]
        have hL2 : ∀ p, bf_u L 172 (60 * u + j + k) (L 172 (60 * t + i + k)) 172 p = if bt_c i j (60 * u + j) n (k + 1) p then M (60 * t + i + (p - (60 * u + j))) else M p := fun p => by
          by_cases hp : p = 60 * u + j + k
          · subst hp
            rw [bf_u_at, hL, if_neg (by omega), if_pos (by omega), show 60 * u + j + k - (60 * u + j) = k by omega]
          · rw [bf_u_ni hp, hL]
            by_cases hp2 : bt_c i j (60 * u + j) n k p
            · rw [if_pos hp2, if_pos (by omega)]
            · rw [if_neg hp2, if_neg (by omega)]
        obtain ⟨L1, e1, e2, e3⟩ := ml_shift ht hu hi hj hv M K f (k + 1) _ (by omega) (by omega) hL2
        exact ⟨L1, e1, e2, fun q hq => by rw [e3 q hq, bf_u_ne hq]⟩
      · rw [if_neg (nI_ge (by omega) (by omega)), show (60 : Int32) = nI 60 from rfl, show nI n - 1 - nI k = nI (n - 1 - k) by rw [show (1 : Int32) = nI 1 from rfl, pk_sub (by omega), pk_sub (by omega)], pk_mul, nI_add, nI_add, pk_mul, nI_add, nI_add, if_pos (bp_ok (by omega) (by omega)), if_pos (bp_ok (by omega) (by omega)), bp_cl (by omega), bp_cl (by omega), bp_p1]
        have hL2 : ∀ p, bf_u L 172 (60 * u + j + (n - 1 - k)) (L 172 (60 * t + i + (n - 1 - k))) 172 p = if bt_c i j (60 * u + j) n (k + 1) p then M (60 * t + i + (p - (60 * u + j))) else M p := fun p => by
          by_cases hp : p = 60 * u + j + (n - 1 - k)
          · subst hp
            rw [bf_u_at, hL, if_neg (by omega), if_pos (by omega), show 60 * u + j + (n - 1 - k) - (60 * u + j) = n - 1 - k by omega]
          · rw [bf_u_ni hp, hL]
            by_cases hp2 : bt_c i j (60 * u + j) n k p
            · rw [if_pos hp2, if_pos (by omega)]
            · rw [if_neg hp2, if_neg (by omega)]
        obtain ⟨L1, e1, e2, e3⟩ := ml_shift ht hu hi hj hv M K f (k + 1) _ (by omega) (by omega) hL2
        exact ⟨L1, e1, e2, fun q hq => by rw [e3 q hq, bf_u_ne hq]⟩
theorem tp_run {o m : Nat} (h1 : I o 1 = nI m) (hm : m ≤ 60) (i n : Int32) : f_X8_holdsRun o i n I L = some ((if 0 ≤ n.toInt ∧ 0 ≤ i.toInt ∧ i.toInt + n.toInt ≤ (m : Int) then 1 else 0), I, L) := by
  unfold f_X8_holdsRun
  rw [h1]
  by_cases h0 : n < 0
  · rw [if_pos h0, if_neg (by rw [bp_lt0] at h0; omega)]
  by_cases h2 : i < 0
  · rw [if_neg h0, if_pos h2, if_neg (by rw [bp_lt0] at h2; omega)]
  rw [if_neg h0, if_neg h2]
  rw [bp_lt0] at h0 h2
  by_cases h3 : nI m < n
  · rw [if_pos h3, if_neg (by rw [bp_ltI, bp_toI (by omega)] at h3; omega)]
  rw [if_neg h3]
  rw [bp_ltI, bp_toI (by omega)] at h3
  obtain ⟨k, hk, rfl⟩ := bp_rg (a := n) (n := m) (by omega) (by omega) (by omega)
  rw [bp_toI (by omega)] at h3 ⊢
  rw [pk_sub (by omega)]
  by_cases h4 : nI (m - k) < i
  · rw [if_pos h4, if_neg (by rw [bp_ltI, bp_toI (by omega)] at h4; omega)]
  · rw [if_neg h4, if_pos (by rw [bp_ltI, bp_toI (by omega)] at h4; omega)]
end OPS163
