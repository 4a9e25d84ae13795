/-! numbers -/
theorem bp_cl {n : Nat} (h : n < 100000) : (nI n).toNatClampNeg = n := nI_clamp (by omega)
theorem bp_ok {m n : Nat} (h : m < n) (hn : n ≤ 100000) : bf_ok (nI m) n := ⟨nI_pos (by omega), by rw [nI_clamp (by omega)]; exact h⟩
theorem bp_le {a b : Nat} (ha : a < 100000) (hb : b < 100000) : (nI a ≤ nI b) = (a ≤ b) := propext (nI_leI (by omega) (by omega))
theorem bp_lt {a b : Nat} (ha : a < 100000) (hb : b < 100000) : (nI a < nI b) = (a < b) := propext (nI_ltI (by omega) (by omega))
theorem bp_eq {a b : Nat} (ha : a < 100000) (hb : b < 100000) : (nI a = nI b) = (a = b) := propext (nI_eq (by omega) (by omega))
theorem bp_n0 {a : Nat} (ha : a < 100000) : (nI a < 0) = False := eq_false (nI_pos (by omega))
theorem bp_ix (w : Nat) : (74 : Int32) + (105 : Int32) * nI w = nI (74 + 105 * w) := by
  rw [show (74 : Int32) = nI 74 from rfl, show (105 : Int32) = nI 105 from rfl, pk_mul, nI_add]
theorem bp_ib (b : Nat) : (5 : Int32) + (3 : Int32) * nI b = nI (5 + 3 * b) := by
  rw [show (5 : Int32) = nI 5 from rfl, show (3 : Int32) = nI 3 from rfl, pk_mul, nI_add]
theorem bp_p1 (a : Nat) : nI a + (1 : Int32) = nI (a + 1) := nI_1 a
theorem bp_p2 (a : Nat) : nI a + (2 : Int32) = nI (a + 2) := nI_add a 2
theorem bp_p3 (a : Nat) : nI a + (3 : Int32) = nI (a + 3) := nI_add a 3
theorem bp_p4 (a : Nat) : nI a + (4 : Int32) = nI (a + 4) := nI_add a 4
theorem bp_p5 (a : Nat) : nI a + (5 : Int32) = nI (a + 5) := nI_add a 5
theorem bp_p6 (a : Nat) : nI a + (6 : Int32) = nI (a + 6) := nI_add a 6
theorem bp_0 : (0 : Int32).toNatClampNeg = 0 := by decide
theorem bp_1 : (1 : Int32).toNatClampNeg = 1 := by decide
theorem bp_2 : (2 : Int32).toNatClampNeg = 2 := by decide
theorem bp_3 : (3 : Int32).toNatClampNeg = 3 := by decide
theorem bp_4 : (4 : Int32).toNatClampNeg = 4 := by decide
theorem bp_10 : ¬ (1 : Int32) = 0 := by decide
/-- an int within a range -/
theorem bp_rng {a : Int32} {n : Nat} (hn : n < 100000) (h0 : ¬ a < 0) (h1 : a < nI n) : ∃ j, j < n ∧ a = nI j := by
  rcases pk_ix a (n := n) (by omega) with h | h | h
  · exact absurd h h0
  · exact absurd h1 (Int32.not_lt.mpr h)
  · exact h
theorem bp_toI {n : Nat} (hn : n < 100000) : (nI n).toInt = (n : Int) := nI_toInt (by omega)
/-- the reference's test of a range -/
theorem bp_in (a b c : Int64) (I : Nat → Nat → Int32) (L : Nat → Nat → Int64) : f_X12_in a b c I L = some ((if b ≤ a ∧ a ≤ c then 1 else 0), I, L) := by
  unfold f_X12_in
  by_cases h : a < b
  · rw [if_pos ((lg_cmp_lt a b).mpr h), if_neg (fun q => absurd h (Int64.not_lt.mpr q.1))]
  · rw [if_neg (fun q => h ((lg_cmp_lt a b).mp q))]
    by_cases h2 : c < a
    · rw [if_pos ((lg_cmp_gt a c).mpr h2), if_neg (fun q => absurd h2 (Int64.not_lt.mpr q.2))]
    · rw [if_neg (fun q => h2 ((lg_cmp_gt a c).mp q)), if_pos ⟨Int64.not_lt.mp h, Int64.not_lt.mp h2⟩]
theorem bp_inI {a : Int32} {lo hi : Int64} : (lo ≤ a.toInt64 ∧ a.toInt64 ≤ hi) ↔ (lo.toInt ≤ a.toInt ∧ a.toInt ≤ hi.toInt) := by
  rw [Int64.le_iff_toInt_le, Int64.le_iff_toInt_le, Int32.toInt_toInt64]
theorem bp_inN {a : Int32} {n : Nat} (hn : n < 100000) : ((0 : Int64) ≤ a.toInt64 ∧ a.toInt64 ≤ (nI n - 1).toInt64) ↔ ∃ j, j < n ∧ a = nI j := by
  rw [bp_inI, Int32.toInt_toInt64, show (nI n - 1).toInt = (n : Int) - 1 from pk_sub_toInt (b := 1) (by omega) (by omega), show (0 : Int64).toInt = 0 from rfl]
  constructor
  · intro ⟨h1, h2⟩
    have h0 : ¬ a < 0 := by rw [Int32.lt_iff_toInt_lt]; show ¬ a.toInt < 0; omega
    obtain ⟨j, hj, rfl⟩ := nI_of h0
    rw [nI_toInt hj] at h2
    exact ⟨j, by omega, rfl⟩
  · rintro ⟨j, hj, rfl⟩
    rw [bp_toI (by omega)]
    omega
/-! the abstract net: a wire is (from, to, puts, takes, there, tokens), a box (kind, v, fired) -/
abbrev bn_W : Type := Nat × Nat × Nat × Nat × Bool × List Int32
abbrev bn_B : Type := Nat × Int32 × Int32
abbrev bn_N : Type := Nat × (Nat → bn_B) × Nat × (Nat → bn_W)
abbrev bw_f (x : bn_W) : Nat := x.1
abbrev bw_t (x : bn_W) : Nat := x.2.1
abbrev bw_p (x : bn_W) : Nat := x.2.2.1
abbrev bw_k (x : bn_W) : Nat := x.2.2.2.1
abbrev bw_h (x : bn_W) : Bool := x.2.2.2.2.1
abbrev bw_q (x : bn_W) : List Int32 := x.2.2.2.2.2
abbrev bn_nb (N : bn_N) : Nat := N.1
abbrev bn_bx (N : bn_N) : Nat → bn_B := N.2.1
abbrev bn_nw (N : bn_N) : Nat := N.2.2.1
abbrev bn_wr (N : bn_N) : Nat → bn_W := N.2.2.2
def bw_ok (nb : Nat) (x : bn_W) : Prop := (bw_h x = true → bw_f x < nb ∧ bw_t x < nb ∧ 1 ≤ bw_p x ∧ bw_p x ≤ 4 ∧ 1 ≤ bw_k x ∧ bw_k x ≤ 4) ∧ (bw_q x).length ≤ 99 ∧ (bw_h x = false → bw_q x = [])
def bn_ok (N : bn_N) : Prop := bn_nb N ≤ 6 ∧ bn_nw N ≤ 8 ∧ (∀ b, b < bn_nb N → (bn_bx N b).1 ≤ 4) ∧ (∀ w, bw_ok (bn_nb N) (bn_wr N w)) ∧ ∀ w, bn_nw N ≤ w → bw_h (bn_wr N w) = false
/-- the reference's row -/
def bm_W (r : Nat → Int32) (w : Nat) (x : bn_W) : Prop := (bw_h x = true → r (74 + 105 * w) = nI (bw_f x) ∧ r (74 + 105 * w + 1) = nI (bw_t x) ∧ r (74 + 105 * w + 2) = nI (bw_p x) ∧ r (74 + 105 * w + 3) = nI (bw_k x)) ∧ r (74 + 105 * w + 4) = (if bw_h x = true then 0 else 1) ∧ r (74 + 105 * w + 5) = nI (bw_q x).length ∧ ∀ i, i < (bw_q x).length → r (74 + 105 * w + 6 + i) = (bw_q x).getD i 0
def bm_N (r : Nat → Int32) (N : bn_N) : Prop := r 0 = nI (bn_nb N) ∧ r 1 = nI (bn_nw N) ∧ (∀ b, b < bn_nb N → r (5 + 3 * b) = nI (bn_bx N b).1 ∧ r (5 + 3 * b + 1) = (bn_bx N b).2.1 ∧ r (5 + 3 * b + 2) = (bn_bx N b).2.2) ∧ ∀ w, w < bn_nw N → bm_W r w (bn_wr N w)
/-- the class's objects: a wire at o, its tokens at o + 1 -/
def bc_W (I : Nat → Nat → Int32) (o : Nat) (x : bn_W) : Prop := (bw_h x = true → I o 0 = nI (bw_f x) ∧ I o 1 = nI (bw_t x) ∧ I o 2 = nI (bw_p x) ∧ I o 3 = nI (bw_k x)) ∧ I o 4 = (if bw_h x = true then 1 else 0) ∧ I o 5 = nI (bw_q x).length ∧ ∃ s, s < 99 ∧ I o 6 = nI s ∧ ∀ i, i < (bw_q x).length → I (o + 1) ((s + i) % 99) = (bw_q x).getD i 0
def bc_N (I : Nat → Nat → Int32) (o : Nat) (N : bn_N) : Prop := I o 2 = nI (bn_nb N) ∧ I o 3 = nI (bn_nw N) ∧ (∀ b, b < bn_nb N → I (o + 1 + 1 + b) 0 = nI (bn_bx N b).1 ∧ I (o + 1 + 1 + b) 1 = (bn_bx N b).2.1 ∧ I (o + 1 + 1 + b) 2 = (bn_bx N b).2.2) ∧ ∀ w, w < 8 → bc_W I (o + 8 + 1 + 2 * w) (bn_wr N w)
theorem bc_W.cg {I I2 : Nat → Nat → Int32} {o : Nat} {x : bn_W} (h : bc_W I o x) (h1 : I2 o = I o) (h2 : I2 (o + 1) = I (o + 1)) : bc_W I2 o x := by
  unfold bc_W at h ⊢
  rw [h1, h2]
  exact h
theorem bc_N.cg {I I2 : Nat → Nat → Int32} {o : Nat} {N : bn_N} (h : bc_N I o N) (hI : ∀ q, o ≤ q → q < o + 25 → I2 q = I q) (hok : bn_ok N) : bc_N I2 o N := by
  obtain ⟨h1, h2, h3, h4⟩ := h
  obtain ⟨k1, -⟩ := hok
  refine ⟨by rw [hI o (by omega) (by omega)]; exact h1, by rw [hI o (by omega) (by omega)]; exact h2, fun b hb => ?_, fun w hw => (h4 w hw).cg (hI _ (by omega) (by omega)) (hI _ (by omega) (by omega))⟩
  rw [hI _ (by omega) (by omega)]
  exact h3 b hb
/-! the reference's getters -/
section BPM
variable {o : Nat} {I : Nat → Nat → Int32} {L : Nat → Nat → Int64}
theorem me_from {w : Nat} (hw : w < 8) : f_X12_from o (nI w) I L = some (I (o + 1) (74 + 105 * w), I, L) := by
  unfold f_X12_from
  rw [bp_ix, if_pos (bp_ok (by omega) (by omega)), bp_cl (by omega)]
theorem me_to {w : Nat} (hw : w < 8) : f_X12_to o (nI w) I L = some (I (o + 1) (74 + 105 * w + 1), I, L) := by
  unfold f_X12_to
  rw [bp_ix, bp_p1, if_pos (bp_ok (by omega) (by omega)), bp_cl (by omega)]
theorem me_puts {w : Nat} (hw : w < 8) : f_X12_puts o (nI w) I L = some (I (o + 1) (74 + 105 * w + 2), I, L) := by
  unfold f_X12_puts
  rw [bp_ix, bp_p2, if_pos (bp_ok (by omega) (by omega)), bp_cl (by omega)]
theorem me_takes {w : Nat} (hw : w < 8) : f_X12_takes o (nI w) I L = some (I (o + 1) (74 + 105 * w + 3), I, L) := by
  unfold f_X12_takes
  rw [bp_ix, bp_p3, if_pos (bp_ok (by omega) (by omega)), bp_cl (by omega)]
theorem me_tokens {w : Nat} (hw : w < 8) : f_X12_tokens o (nI w) I L = some (I (o + 1) (74 + 105 * w + 5), I, L) := by
  unfold f_X12_tokens
  rw [bp_ix, bp_p5, if_pos (bp_ok (by omega) (by omega)), bp_cl (by omega)]
variable {N : bn_N}
theorem mm_isBox_t {b : Nat} (hok : bn_ok N) (hN : bm_N (I (o + 1)) N) (hb : b < bn_nb N) : f_X12_isBox o (nI b) I L = some (1, I, L) := by
  unfold f_X12_isBox
  have h6 := hok.1
  rw [bp_0, hN.1, bp_in, if_pos ((bp_inN (by omega)).mpr ⟨b, hb, rfl⟩)]
  rfl
theorem mm_isBox_f {a : Int32} (hok : bn_ok N) (hN : bm_N (I (o + 1)) N) (hb : ¬ ∃ b, b < bn_nb N ∧ a = nI b) : f_X12_isBox o a I L = some (0, I, L) := by
  unfold f_X12_isBox
  have h6 := hok.1
  rw [bp_0, hN.1, bp_in, if_neg (fun q => hb ((bp_inN (by omega)).mp q))]
  rfl
theorem mm_isWire {w : Nat} (hok : bn_ok N) (hN : bm_N (I (o + 1)) N) (hw : w < bn_nw N) : f_X12_isWire o (nI w) I L = some ((if bw_h (bn_wr N w) = true then 1 else 0), I, L) := by
  unfold f_X12_isWire
  have h8 := hok.2.1
  rw [bp_1, hN.2.1, bp_in, if_pos ((bp_inN (by omega)).mpr ⟨w, hw, rfl⟩)]
  simp only [Option.bind_some]
  rw [if_neg bp_10, bp_ix, bp_p4, if_pos (bp_ok (by omega) (by omega)), bp_cl (by omega), (hN.2.2.2 w hw).2.1]
  by_cases h : bw_h (bn_wr N w) = true
  · rw [if_pos h, if_pos rfl, if_pos h]
  · rw [if_neg h, if_neg bp_10, if_neg h]
theorem mm_isWire_f {a : Int32} (hok : bn_ok N) (hN : bm_N (I (o + 1)) N) (hw : ¬ ∃ w, w < bn_nw N ∧ a = nI w) : f_X12_isWire o a I L = some (0, I, L) := by
  unfold f_X12_isWire
  have h8 := hok.2.1
  rw [bp_1, hN.2.1, bp_in, if_neg (fun q => hw ((bp_inN (by omega)).mp q))]
  rfl
end BPM
/-- which wire an int names -/
def bn_is (N : bn_N) (a : Int32) : Prop := ∃ w, w < bn_nw N ∧ a = nI w ∧ bw_h (bn_wr N w) = true
theorem mm_isW_t {o : Nat} {I : Nat → Nat → Int32} {L : Nat → Nat → Int64} {N : bn_N} {w : Nat} (hok : bn_ok N) (hN : bm_N (I (o + 1)) N) (hw : w < bn_nw N) (hh : bw_h (bn_wr N w) = true) : f_X12_isWire o (nI w) I L = some (1, I, L) := by
  rw [mm_isWire hok hN hw, if_pos hh]
theorem mm_isW_f {o : Nat} {I : Nat → Nat → Int32} {L : Nat → Nat → Int64} {N : bn_N} {a : Int32} (hok : bn_ok N) (hN : bm_N (I (o + 1)) N) (ha : ¬ bn_is N a) : f_X12_isWire o a I L = some (0, I, L) := by
  by_cases h : ∃ w, w < bn_nw N ∧ a = nI w
  · obtain ⟨w, hw, rfl⟩ := h
    rw [mm_isWire hok hN hw, if_neg (fun q => ha ⟨w, hw, rfl, q⟩)]
  · exact mm_isWire_f hok hN h
/-! the class's getters -/
section BPC
variable {o : Nat} {I : Nat → Nat → Int32} {L : Nat → Nat → Int64} {N : bn_N}
theorem cc_hasBox_t {b : Nat} (hok : bn_ok N) (hN : bc_N I o N) (hb : b < bn_nb N) : f_X3_hasBox o (nI b) I L = some (1, I, L) := by
  unfold f_X3_hasBox
  have h6 := hok.1
  rw [hN.1, if_neg (nI_pos (by omega)), if_neg (nI_ge hb (by omega)), if_neg (show ¬ (6 : Int32) ≤ nI b from nI_ge (b := 6) (by omega) (by omega))]
theorem cc_hasBox_f {a : Int32} (hok : bn_ok N) (hN : bc_N I o N) (hb : ¬ ∃ b, b < bn_nb N ∧ a = nI b) : f_X3_hasBox o a I L = some (0, I, L) := by
  unfold f_X3_hasBox
  have h6 := hok.1
  by_cases h0 : a < 0
  · rw [if_pos h0]
  · rw [if_neg h0, hN.1]
    by_cases h1 : nI (bn_nb N) ≤ a
    · rw [if_pos h1]
    · exact absurd (bp_rng (by omega) h0 (Int32.not_le.mp h1)) hb
theorem cc_hasW_t {w : Nat} (hok : bn_ok N) (hN : bc_N I o N) (hw : w < bn_nw N) (hh : bw_h (bn_wr N w) = true) : f_X3_hasWire o (nI w) I L = some (1, I, L) := by
  unfold f_X3_hasWire
  have h8 := hok.2.1
  rw [if_neg (nI_pos (by omega)), if_neg (show ¬ (8 : Int32) ≤ nI w from nI_ge (b := 8) (by omega) (by omega)), if_pos (bp_ok (by omega) (by omega)), bp_cl (by omega), (hN.2.2.2 w (by omega)).2.1, if_pos hh, if_neg bp_10]
theorem cc_hasW_f {a : Int32} (hok : bn_ok N) (hN : bc_N I o N) (ha : ¬ bn_is N a) : f_X3_hasWire o a I L = some (0, I, L) := by
  unfold f_X3_hasWire
  have h8 := hok.2.1
  by_cases h0 : a < 0
  · rw [if_pos h0]
  · rw [if_neg h0]
    by_cases h1 : (8 : Int32) ≤ a
    · rw [if_pos h1]
    · obtain ⟨w, hw, rfl⟩ := bp_rng (n := 8) (by omega) h0 (Int32.not_le.mp h1)
      have hh : bw_h (bn_wr N w) = false := by
        by_cases q : w < bn_nw N
        · cases hq : bw_h (bn_wr N w) with
          | false => rfl
          | true => exact absurd ⟨w, q, rfl, hq⟩ ha
        · exact hok.2.2.2.2 w (by omega)
      rw [if_neg h1, if_pos (bp_ok hw (by omega)), bp_cl (by omega), (hN.2.2.2 w hw).2.1, hh]
      rfl
end BPC
