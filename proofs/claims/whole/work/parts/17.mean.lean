/-! the greatest divisor -/
theorem gc_st {a b : Nat} : Nat.gcd b (a % b) = Nat.gcd a b := by
  rw [Nat.gcd_comm b (a % b), ← Nat.gcd_rec, Nat.gcd_comm]
theorem gc_half {b r k : Nat} (hb : b < 2 ^ (k + 1)) (hr : 0 < r) (hrb : r < b) : b % r < 2 ^ k := by
  have h1 := Nat.mod_lt b hr
  have h2 := Nat.div_add_mod b r
  have h3 : r * 1 ≤ r * (b / r) := Nat.mul_le_mul_left r (Nat.div_pos (Nat.le_of_lt hrb) hr)
  rw [Nat.pow_succ] at hb
  omega
section GCD
variable {I : Nat → Nat → Int32} {L : Nat → Nat → Int64}
theorem lg_0 : (lg_cmp (lN 0) 0 = 0) := (lg_cmp_eq _ _).mpr rfl
theorem lg_n0 {b : Nat} (h0 : 0 < b) (hb : b < 2 ^ 63) : ¬ lN b = 0 := fun z => by
  rw [show (0 : Int64) = lN 0 from rfl, pk_lEQ hb (by omega)] at z
  omega
theorem lg_c0 {b : Nat} (h0 : 0 < b) (hb : b < 2 ^ 63) : ¬ lg_cmp (lN b) 0 = 0 := fun z => lg_n0 h0 hb ((lg_cmp_eq _ _).mp z)
theorem cl_gcd9 (K : Int64 → (Nat → Nat → Int32) → (Nat → Nat → Int64) → Option (Int64 × bf_St)) : ∀ (k n s a b : Nat), b < 2 ^ k → a < 2 ^ 63 → k ≤ 63 → 2 * k + 1 ≤ n → s + (2 * k + 1) ≤ 200 → f_X11_greatestDivisor_9 K n (lN a) (lN b) (nI s) I L = K (lN (Nat.gcd a b)) I L
  | k, 0, s, a, b, h1, h2, h3, h4, h5 => by omega
  | 0, n + 1, s, a, b, h1, h2, h3, h4, h5 => by
    have : b = 0 := by omega
    subst this
    rw [f_X11_greatestDivisor_9, if_neg (show ¬ (200 : Int32) ≤ nI s from nI_ge (b := 200) (by omega) (by omega)), if_pos lg_0, Nat.gcd_zero_right]
  | k + 1, 1, s, a, b, h1, h2, h3, h4, h5 => by omega
  | k + 1, n + 2, s, a, b, h1, h2, h3, h4, h5 => by
    have hp : 2 ^ (k + 1) ≤ 2 ^ 63 := Nat.pow_le_pow_right (by omega) h3
    rw [f_X11_greatestDivisor_9, if_neg (show ¬ (200 : Int32) ≤ nI s from nI_ge (b := 200) (by omega) (by omega))]
    by_cases b0 : b = 0
    · subst b0
      rw [if_pos lg_0, Nat.gcd_zero_right]
    · rw [if_neg (lg_c0 (by omega) (by omega)), if_neg (lg_n0 (by omega) (by omega)), pk_lRem h2 (by omega) (by omega), bp_p1, f_X11_greatestDivisor_9, if_neg (show ¬ (200 : Int32) ≤ nI (s + 1) from nI_ge (b := 200) (by omega) (by omega))]
      have hr := Nat.mod_lt a (show 0 < b by omega)
      by_cases r0 : a % b = 0
      · rw [r0, if_pos lg_0, ← gc_st, r0, Nat.gcd_zero_right]
      · rw [if_neg (lg_c0 (by omega) (by omega)), if_neg (lg_n0 (by omega) (by omega)), pk_lRem (by omega) (by omega) (by omega), bp_p1, cl_gcd9 K k n (s + 1 + 1) (a % b) (b % (a % b)) (gc_half h1 (by omega) hr) (by omega) (by omega) (by omega) (by omega), gc_st, gc_st]
theorem cl_gcd {a b : Nat} (ha : a < 2 ^ 63) (hb : b < 2 ^ 63) : f_X11_greatestDivisor (lN a) (lN b) I L = some (lN (Nat.gcd a b), I, L) := by
  unfold f_X11_greatestDivisor
  rw [show (0 : Int32) = nI 0 from rfl, cl_gcd9 _ 63 400 0 a b hb ha (by omega) (by omega) (by omega)]
theorem ml_gcd6 (K : Int64 → (Nat → Nat → Int32) → (Nat → Nat → Int64) → Option (Int64 × bf_St)) : ∀ (k n a b : Nat), b < 2 ^ k → a < 2 ^ 63 → k ≤ 63 → 2 * k + 1 ≤ n → f_X12_common_6 K n (lN a) (lN b) I L = K (lN (Nat.gcd a b)) I L
  | k, 0, a, b, h1, h2, h3, h4 => by omega
  | 0, n + 1, a, b, h1, h2, h3, h4 => by
    have : b = 0 := by omega
    subst this
    rw [f_X12_common_6, if_pos lg_0, Nat.gcd_zero_right]
  | k + 1, 1, a, b, h1, h2, h3, h4 => by omega
  | k + 1, n + 2, a, b, h1, h2, h3, h4 => by
    have hp : 2 ^ (k + 1) ≤ 2 ^ 63 := Nat.pow_le_pow_right (by omega) h3
    rw [f_X12_common_6]
    by_cases b0 : b = 0
    · subst b0
      rw [if_pos lg_0, Nat.gcd_zero_right]
    · rw [if_neg (lg_c0 (by omega) (by omega)), if_neg (lg_n0 (by omega) (by omega)), pk_lRem h2 (by omega) (by omega), f_X12_common_6]
      have hr := Nat.mod_lt a (show 0 < b by omega)
      by_cases r0 : a % b = 0
      · rw [r0, if_pos lg_0, ← gc_st, r0, Nat.gcd_zero_right]
      · rw [if_neg (lg_c0 (by omega) (by omega)), if_neg (lg_n0 (by omega) (by omega)), pk_lRem (by omega) (by omega) (by omega), ml_gcd6 K k n (a % b) (b % (a % b)) (gc_half h1 (by omega) hr) (by omega) (by omega) (by omega), gc_st, gc_st]
theorem ml_gcd {a b : Nat} (ha : a < 2 ^ 63) (hb : b < 2 ^ 63) : f_X12_common (lN a) (lN b) I L = some (lN (Nat.gcd a b), I, L) := by
  unfold f_X12_common
  rw [ml_gcd6 _ 63 400 a b hb ha (by omega) (by omega)]
/-- the lowest terms -/
def bt_lw (s : Int64) (b : Nat) (part : Int32) : Int64 := if part = 0 then s / lN (Nat.gcd s.toInt.natAbs b) else lN b / lN (Nat.gcd s.toInt.natAbs b)
theorem lg_abs {s : Int64} (h : -9223372036854775808 < s.toInt) : bf_absL s = lN s.toInt.natAbs ∧ (¬ 0 ≤ lg_cmp s 0 → -s = lN s.toInt.natAbs) ∧ (0 ≤ lg_cmp s 0 → s = lN s.toInt.natAbs) := by
  have h2 := Int64.toInt_lt s
  have h0 : (0 : Int64).toInt = 0 := by decide
  have neg : s.toInt ≤ 0 → -s = lN s.toInt.natAbs := fun q => Int64.toInt_inj.mp (by
    rw [pk_lT (by omega), Int64.toInt_neg, Int.bmod_eq_of_le (by omega) (by omega)]
    omega)
  have pos : 0 ≤ s.toInt → s = lN s.toInt.natAbs := fun q => Int64.toInt_inj.mp (by rw [pk_lT (by omega)]; omega)
  refine ⟨?_, fun z => neg ?_, fun z => pos ?_⟩
  · unfold bf_absL
    by_cases q : (0 : Int64) < s
    · rw [if_pos q]
      rw [Int64.lt_iff_toInt_lt, h0] at q
      exact pos (by omega)
    · rw [if_neg q]
      rw [Int64.lt_iff_toInt_lt, h0] at q
      exact neg (by omega)
  · rw [lg_cmp_ge, Int64.le_iff_toInt_le, h0] at z
    omega
  · rw [lg_cmp_ge, Int64.le_iff_toInt_le, h0] at z
    exact z
theorem cl_low {s : Int64} {b : Nat} (hs : -9223372036854775808 < s.toInt) (hb0 : 0 < b) (hb : b < 2 ^ 63) (part : Int32) : f_X11_lowestTerms s (lN b) part I L = some (bt_lw s b part, I, L) := by
  have h2 := Int64.toInt_lt s
  have hg : 0 < Nat.gcd s.toInt.natAbs b := Nat.gcd_pos_of_pos_right _ hb0
  have hgb : Nat.gcd s.toInt.natAbs b ≤ b := Nat.gcd_le_right _ hb0
  unfold f_X11_lowestTerms bt_lw
  rw [(lg_abs hs).1, cl_gcd (by omega) hb]
  simp only [Option.bind_some]
  rw [if_pos (show 0 < lg_cmp (lN (Nat.gcd s.toInt.natAbs b)) (0 : Int64) from (lg_cmp_gt _ _).mpr (show lN 0 < _ from (pk_lLT (by omega) (by omega)).mpr hg)), if_neg (lg_n0 hg (by omega)), if_neg (lg_n0 hg (by omega))]
  by_cases q : part = 0
  · rw [if_pos q, if_pos q]
  · rw [if_neg q, if_neg q]
theorem ml_low {s : Int64} {b : Nat} (hs : -9223372036854775808 < s.toInt) (hb0 : 0 < b) (hb : b < 2 ^ 63) (part : Int32) : f_X12_lowest s (lN b) part I L = some (bt_lw s b part, I, L) := by
  have h2 := Int64.toInt_lt s
  have hg : 0 < Nat.gcd s.toInt.natAbs b := Nat.gcd_pos_of_pos_right _ hb0
  have hgb : Nat.gcd s.toInt.natAbs b ≤ b := Nat.gcd_le_right _ hb0
  have key : f_X12_lowest_p12 s (lN b) part (lN s.toInt.natAbs) I L = some (bt_lw s b part, I, L) := by
    unfold f_X12_lowest_p12 bt_lw
    rw [ml_gcd (by omega) hb]
    simp only [Option.bind_some]
    rw [if_neg (lg_n0 hg (by omega)), if_neg (lg_n0 hg (by omega))]
    by_cases q : part = 0
    · rw [if_pos q, if_pos q]
    · rw [if_neg q, if_neg q]
  unfold f_X12_lowest
  by_cases q : 0 ≤ lg_cmp s 0
  · rw [if_pos q]
    have e := (lg_abs hs).2.2 q
    exact (congrArg (fun z => f_X12_lowest_p12 s (lN b) part z I L) e).trans key
  · rw [if_neg q, (lg_abs hs).2.1 q]
    exact key
/-! tokens together -/
def bn_tc (N : bn_N) : Nat := bfold (fun w a => a + bn_q N w) 8 0 0
theorem bn_q0 {N : bn_N} (hok : bn_ok N) {v : Nat} (h : ¬ bw_h (bn_wr N v) = true) : bn_q N v = 0 := by
  have : bw_h (bn_wr N v) = false := by
    cases q : bw_h (bn_wr N v) with
    | false => rfl
    | true => exact absurd q h
  show (bw_q (bn_wr N v)).length = 0
  rw [(hok.2.2.2.1 v).2.2 this]
  rfl
theorem cl_tc4 {o : Nat} {N : bn_N} (hok : bn_ok N) (hN : bc_N I o N) (K : Int32 → (Nat → Nat → Int32) → (Nat → Nat → Int64) → Option (Int32 × bf_St)) : ∀ (n w a : Nat), w ≤ 8 → 8 < w + n → f_X3_tokenCount_4 o K n (nI a) (nI w) I L = K (nI (bfold (fun w a => a + bn_q N w) (8 - w) w a)) I L
  | 0, w, a, h1, h2 => by omega
  | n + 1, w, a, h1, h2 => by
    rw [f_X3_tokenCount_4]
    by_cases h8 : w = 8
    · subst h8
      rw [if_pos (by decide)]
      rfl
    · have hx := hN.2.2.2 w (by omega)
      rw [if_neg (show ¬ (8 : Int32) ≤ nI w from nI_ge (b := 8) (by omega) (by omega)), if_pos (bp_ok (by omega) (by omega)), if_pos (bp_ok (by omega) (by omega)), bp_cl (by omega), hx.2.1, hx.2.2.1, bp_p1, show 8 - w = (8 - (w + 1)) + 1 by omega]
      show _ = K (nI (bfold _ (8 - (w + 1)) (w + 1) (a + bn_q N w))) I L
      by_cases hh : bw_h (bn_wr N w) = true
      · rw [if_pos hh, if_neg bp_10, nI_add, cl_tc4 hok hN K n (w + 1) _ (by omega) (by omega)]
      · rw [if_neg hh, if_pos rfl, Int32.add_zero, bn_q0 hok hh, cl_tc4 hok hN K n (w + 1) _ (by omega) (by omega)]
        rfl
theorem cl_tc {o : Nat} {N : bn_N} (hok : bn_ok N) (hN : bc_N I o N) : f_X3_tokenCount o I L = some (nI (bn_tc N), I, L) := by
  unfold f_X3_tokenCount
  exact cl_tc4 hok hN _ 400 0 0 (by omega) (by omega)
theorem ml_tc4 {o : Nat} {N : bn_N} (hok : bn_ok N) (hN : bm_N (I (o + 1)) N) (K : Int32 → (Nat → Nat → Int32) → (Nat → Nat → Int64) → Option (Int32 × bf_St)) : ∀ (n w a : Nat), w ≤ bn_nw N → bn_nw N < w + n → f_X12_tokensAll_4 o K n (nI a) (nI w) I L = K (nI (bfold (fun w a => a + bn_q N w) (bn_nw N - w) w a)) I L
  | 0, w, a, h1, h2 => by omega
  | n + 1, w, a, h1, h2 => by
    have o2 := hok.2.1
    rw [f_X12_tokensAll_4, bp_1, hN.2.1]
    by_cases h8 : w = bn_nw N
    · rw [if_pos (nI_le (by omega) (by omega)), show bn_nw N - w = 0 by omega]
      rfl
    · have hx := hN.2.2.2 w (by omega)
      rw [if_neg (nI_ge (by omega) (by omega)), mm_isWn hok hN (by omega), bp_p1, show bn_nw N - w = (bn_nw N - (w + 1)) + 1 by omega]
      simp only [Option.bind_some]
      show _ = K (nI (bfold _ (bn_nw N - (w + 1)) (w + 1) (a + bn_q N w))) I L
      by_cases hh : bw_h (bn_wr N w) = true
      · rw [if_pos hh, if_neg bp_10, me_tokens (by omega), hx.2.2.1]
        simp only [Option.bind_some]
        rw [nI_add, ml_tc4 hok hN K n (w + 1) _ (by omega) (by omega)]
      · rw [if_neg hh, if_pos rfl, Int32.add_zero, bn_q0 hok hh, ml_tc4 hok hN K n (w + 1) _ (by omega) (by omega)]
        rfl
theorem bn_qn {N : bn_N} (hok : bn_ok N) {v : Nat} (h : bn_nw N ≤ v) : bn_q N v = 0 := bn_q0 hok (by rw [hok.2.2.2.2 v h]; exact Bool.false_ne_true)
theorem ml_tc {o : Nat} {N : bn_N} (hok : bn_ok N) (hN : bm_N (I (o + 1)) N) : f_X12_tokensAll o I L = some (nI (bn_tc N), I, L) := by
  have o2 := hok.2.1
  unfold f_X12_tokensAll bn_tc
  rw [bfold_id (m := bn_nw N) (fun v a hv => by show a + bn_q N v = a; rw [bn_qn hok hv]; rfl) 8 0 _ (by omega)]
  exact ml_tc4 hok hN _ 400 0 0 (by omega) (by omega)
theorem bfold_le {f : Nat → Nat → Nat} {c : Nat} (h : ∀ w a, f w a ≤ a + c) : ∀ (k w a : Nat), bfold f k w a ≤ a + c * k
  | 0, w, a => Nat.le_refl _
  | k + 1, w, a => by
    have h1 := bfold_le h k (w + 1) (f w a)
    have h2 := h w a
    show bfold f k (w + 1) (f w a) ≤ a + c * (k + 1)
    rw [Nat.mul_succ]
    omega
theorem bn_tcle {N : bn_N} (hok : bn_ok N) : bn_tc N ≤ 792 := by
  have := bfold_le (f := fun w a => a + bn_q N w) (c := 99) (fun w a => Nat.add_le_add_left (hok.2.2.2.1 w).2.1 a) 8 0 0
  unfold bn_tc
  omega
/-! values together -/
abbrev bt_sl (q : List Int32) (s : Int64) : Int64 := q.foldl (fun s x => s + x.toInt64) s
def bn_vt (N : bn_N) : Int64 := bfold (fun w s => bt_sl (bw_q (bn_wr N w)) s) 8 0 0
theorem cl_vt40 {v0 p : Nat} {v3 : Int32} {x : bn_W} (hx : bc_W I p x) (hl : (bw_q x).length ≤ 99) (K : Int64 → (Nat → Nat → Int32) → (Nat → Nat → Int64) → Option (Int64 × bf_St)) : ∀ (n k : Nat) (s : Int64), k ≤ (bw_q x).length → (bw_q x).length < k + n → f_X3_valuesTogether_40 v0 v3 p (nI (bw_q x).length) K n s (nI k) I L = K (bt_sl ((bw_q x).drop k) s) I L
  | 0, k, s, h1, h2 => by omega
  | n + 1, k, s, h1, h2 => by
    rw [f_X3_valuesTogether_40]
    by_cases hk : k = (bw_q x).length
    · rw [if_pos (nI_le (by omega) (by omega)), List.drop_eq_nil_of_le (by omega)]
      rfl
    · rw [if_neg (nI_ge (by omega) (by omega)), rg_at hx (by omega) hl]
      simp only [Option.bind_some]
      rw [bp_p1, cl_vt40 hx hl K n (k + 1) _ (by omega) (by omega), bl_dropD (show k < (bw_q x).length by omega)]
      rfl
theorem cl_vt4 {o : Nat} {N : bn_N} (hok : bn_ok N) (hN : bc_N I o N) (K : Int64 → (Nat → Nat → Int32) → (Nat → Nat → Int64) → Option (Int64 × bf_St)) : ∀ (n w : Nat) (s : Int64), w ≤ 8 → 8 < w + n → f_X3_valuesTogether_4 o K n s (nI w) I L = K (bfold (fun w s => bt_sl (bw_q (bn_wr N w)) s) (8 - w) w s) I L
  | 0, w, s, h1, h2 => by omega
  | n + 1, w, s, h1, h2 => by
    rw [f_X3_valuesTogether_4]
    by_cases h8 : w = 8
    · subst h8
      rw [if_pos (by decide)]
      rfl
    · have hx := hN.2.2.2 w (by omega)
      have hl := (hok.2.2.2.1 w).2.1
      rw [if_neg (show ¬ (8 : Int32) ≤ nI w from nI_ge (b := 8) (by omega) (by omega)), if_pos (bp_ok (by omega) (by omega)), bp_cl (by omega), hx.2.1, hx.2.2.1, bp_p1, show 8 - w = (8 - (w + 1)) + 1 by omega]
      show _ = K (bfold _ (8 - (w + 1)) (w + 1) (bt_sl (bw_q (bn_wr N w)) s)) I L
      have e : ∀ m : Nat, m = (bw_q (bn_wr N w)).length → f_X3_valuesTogether_40 o (nI w) (o + 8 + 1 + 2 * w) (nI m) (fun k1 I7 L7 => f_X3_valuesTogether_4 o K n k1 (nI (w + 1)) I7 L7) 400 s 0 I L = K (bfold (fun w s => bt_sl (bw_q (bn_wr N w)) s) (8 - (w + 1)) (w + 1) (bt_sl (bw_q (bn_wr N w)) s)) I L := fun m hm => by
        subst hm
        rw [show (0 : Int32) = nI 0 from rfl, cl_vt40 hx hl _ 400 0 s (by omega) (by omega), cl_vt4 hok hN K n (w + 1) _ (by omega) (by omega), List.drop_zero]
      by_cases hh : bw_h (bn_wr N w) = true
      · rw [if_pos hh, if_neg bp_10]
        exact e _ rfl
      · rw [if_neg hh, if_pos rfl]
        exact e 0 (bn_q0 hok hh).symm
theorem cl_vt {o : Nat} {N : bn_N} (hok : bn_ok N) (hN : bc_N I o N) : f_X3_valuesTogether o I L = some (bn_vt N, I, L) := by
  unfold f_X3_valuesTogether
  exact cl_vt4 hok hN _ 400 0 0 (by omega) (by omega)
theorem ml_mean40 {o w : Nat} {a : Int32} {N : bn_N} (hok : bn_ok N) (hN : bm_N (I (o + 1)) N) (hw : w < bn_nw N) (K : Int64 → (Nat → Nat → Int32) → (Nat → Nat → Int64) → Option (Int64 × bf_St)) : ∀ (n k : Nat) (s : Int64), k ≤ (bw_q (bn_wr N w)).length → (bw_q (bn_wr N w)).length < k + n → f_X12_mean_40 o a (nI w) K n s (nI k) I L = K (bt_sl ((bw_q (bn_wr N w)).drop k) s) I L
  | 0, k, s, h1, h2 => by omega
  | n + 1, k, s, h1, h2 => by
    have o2 := hok.2.1
    have hx := hN.2.2.2 w hw
    have hl := (hok.2.2.2.1 w).2.1
    rw [f_X12_mean_40, mm_isWn hok hN (by omega)]
    simp only [Option.bind_some]
    by_cases hh : bw_h (bn_wr N w) = true
    · rw [if_pos hh, if_neg bp_10, me_tokens (by omega), hx.2.2.1]
      simp only [Option.bind_some]
      by_cases hk : k = (bw_q (bn_wr N w)).length
      · rw [if_pos (nI_le (by omega) (by omega)), List.drop_eq_nil_of_le (by omega)]
        rfl
      · rw [if_neg (nI_ge (by omega) (by omega)), bp_ix, bp_p6, nI_add, if_pos (bp_ok (by omega) (by omega)), bp_cl (by omega), hx.2.2.2 k (by omega), bp_p1, ml_mean40 hok hN hw K n (k + 1) _ (by omega) (by omega), bl_dropD (show k < (bw_q (bn_wr N w)).length by omega)]
        rfl
    · have := bn_q0 hok hh
      have : (bw_q (bn_wr N w)).length = 0 := this
      rw [if_neg hh, if_pos rfl, List.drop_eq_nil_of_le (by omega)]
      rfl
theorem ml_mean26 {o : Nat} {a : Int32} {N : bn_N} (hok : bn_ok N) (hN : bm_N (I (o + 1)) N) (K : Int64 → (Nat → Nat → Int32) → (Nat → Nat → Int64) → Option (Int64 × bf_St)) : ∀ (n w : Nat) (s : Int64), w ≤ bn_nw N → bn_nw N < w + n → f_X12_mean_26 o a K n s (nI w) I L = K (bfold (fun w s => bt_sl (bw_q (bn_wr N w)) s) (bn_nw N - w) w s) I L
  | 0, w, s, h1, h2 => by omega
  | n + 1, w, s, h1, h2 => by
    have o2 := hok.2.1
    rw [f_X12_mean_26, bp_1, hN.2.1]
    by_cases h8 : w = bn_nw N
    · rw [if_pos (nI_le (by omega) (by omega)), show bn_nw N - w = 0 by omega]
      rfl
    · have hl := (hok.2.2.2.1 w).2.1
      rw [if_neg (nI_ge (by omega) (by omega)), bp_p1, show (0 : Int32) = nI 0 from rfl, ml_mean40 hok hN (by omega) _ 400 0 s (by omega) (by omega), ml_mean26 hok hN K n (w + 1) _ (by omega) (by omega), show bn_nw N - w = (bn_nw N - (w + 1)) + 1 by omega, List.drop_zero]
      rfl
/-- the sum stays small -/
def bt_b (c : Nat) (s : Int64) : Prop := -((c : Int) * 2147483648) ≤ s.toInt ∧ s.toInt ≤ (c : Int) * 2147483648
theorem bt_bs {c : Nat} {s : Int64} (h1 : c + 1 ≤ 100000) (h2 : bt_b c s) (x : Int32) : bt_b (c + 1) (s + x.toInt64) := by
  have x1 := Int32.toInt_lt x
  have x2 := Int32.le_toInt x
  unfold bt_b at h2 ⊢
  rw [Int64.toInt_add, Int32.toInt_toInt64, Int.bmod_eq_of_le (by omega) (by omega)]
  omega
theorem bt_bm {c d : Nat} {s : Int64} (h : c ≤ d) (h2 : bt_b c s) : bt_b d s := by
  unfold bt_b at h2 ⊢
  omega
theorem bt_slb (q : List Int32) : ∀ (s : Int64) (c : Nat), c + q.length ≤ 100000 → bt_b c s → bt_b (c + q.length) (bt_sl q s) := by
  induction q with
  | nil => exact fun s c _ h2 => h2
  | cons x t ih =>
    intro s c h1 h2
    rw [List.length_cons] at h1
    have := ih (s + x.toInt64) (c + 1) (by omega) (bt_bs (by omega) h2 x)
    rw [List.length_cons, show c + (t.length + 1) = c + 1 + t.length by omega]
    exact this
theorem bn_vtb {N : bn_N} (hok : bn_ok N) (k : Nat) : ∀ (w c : Nat) (s : Int64), c + 99 * k ≤ 100000 → bt_b c s → bt_b (c + 99 * k) (bfold (fun w s => bt_sl (bw_q (bn_wr N w)) s) k w s) := by
  induction k with
  | zero => exact fun w c s _ h2 => h2
  | succ k ih =>
    intro w c s h1 h2
    have hl := (hok.2.2.2.1 w).2.1
    have e1 := bt_slb (bw_q (bn_wr N w)) s c (by omega) h2
    have e2 := ih (w + 1) (c + 99) (bt_sl (bw_q (bn_wr N w)) s) (by omega) (bt_bm (by omega) e1)
    rw [show c + 99 * (k + 1) = c + 99 + 99 * k by omega]
    exact e2
theorem op_mean (h : bo_St I L) (a : Int32) : bo_OK (f_X11_mean 0 a I L) (f_X12_mean 156 a) := by
  obtain ⟨A, hok, hC, hM⟩ := id h
  have hn : bn_ok A.1.1 := hok.1.1
  have o2 := hn.2.1
  have hcN : bc_N I 2 A.1.1 := hC.1.1
  have hmN : bm_N (I (156 + 1)) A.1.1 := hM.1.1
  have htc := bn_tcle hn
  by_cases ha : 0 ≤ a.toInt ∧ a.toInt ≤ 1
  · have q1 : ¬ a < 0 := by rw [bp_lt0]; omega
    have q2 : ¬ (1 : Int32) < a := by rw [bp_ltI, show (1 : Int32).toInt = 1 from rfl]; omega
    by_cases h0 : bn_tc A.1.1 = 0
    · refine bo_same h (x := -9223372036854775808) ?_ ?_
      · unfold f_X11_mean
        simp only [Nat.reduceAdd, Nat.zero_add]
        rw [cl_tc hn hcN]
        simp only [Option.bind_some]
        rw [if_neg q1, if_neg q2, h0, if_pos (by decide)]
      · unfold f_X12_mean
        rw [bp_in_t (lo := 0) (hi := 1) ha]
        simp only [Option.bind_some]
        rw [if_neg bp_10, ml_tc hn hmN]
        simp only [Option.bind_some]
        rw [h0, if_pos (by decide)]
    · have hs : -9223372036854775808 < (bn_vt A.1.1).toInt := by
        have := bn_vtb hn 8 0 0 0 (by omega) (by unfold bt_b; decide)
        unfold bt_b at this
        unfold bn_vt
        omega
      refine bo_same h (x := bt_lw (bn_vt A.1.1) (bn_tc A.1.1) a) ?_ ?_
      · unfold f_X11_mean
        simp only [Nat.reduceAdd, Nat.zero_add]
        rw [cl_tc hn hcN]
        simp only [Option.bind_some]
        rw [if_neg q1, if_neg q2, if_neg (nI_ne0 (by omega) (by omega)), cl_vt hn hcN]
        simp only [Option.bind_some]
        rw [nI_l (by omega), cl_low hs (by omega) (by omega)]
        rfl
      · unfold f_X12_mean
        rw [bp_in_t (lo := 0) (hi := 1) ha]
        simp only [Option.bind_some]
        rw [if_neg bp_10, ml_tc hn hmN]
        simp only [Option.bind_some]
        rw [if_neg (nI_ne0 (by omega) (by omega)), show (0 : Int32) = nI 0 from rfl, ml_mean26 hn hmN _ 400 0 0 (by omega) (by omega), ml_tc hn hmN]
        simp only [Option.bind_some]
        rw [← bfold_id (m := bn_nw A.1.1) (fun v a hv => by
          show bt_sl (bw_q (bn_wr A.1.1 v)) a = a
          rw [(hn.2.2.2.1 v).2.2 (hn.2.2.2.2 v hv)]
          rfl) 8 0 _ (by omega), nI_l (by omega)]
        show ((f_X12_lowest (bn_vt A.1.1) (lN (bn_tc A.1.1)) a I L).bind fun r20 => some (r20.1, r20.2.1, r20.2.2)) = _
        rw [ml_low hs (by omega) (by omega)]
        rfl
  · refine bo_same h (x := -9223372036854775808) ?_ ?_
    · unfold f_X11_mean
      simp only [Nat.reduceAdd, Nat.zero_add]
      rw [cl_tc hn hcN]
      simp only [Option.bind_some]
      by_cases q1 : a < 0
      · rw [if_pos q1]
      · rw [if_neg q1, if_pos (by rw [bp_lt0] at q1; rw [bp_ltI, show (1 : Int32).toInt = 1 from rfl]; omega)]
    · unfold f_X12_mean
      rw [bp_in_f (lo := 0) (hi := 1) ha]
      rfl
end GCD
