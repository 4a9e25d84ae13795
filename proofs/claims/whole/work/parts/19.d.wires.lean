section RCH3
variable {I : Nat → Nat → Int32} {L : Nat → Nat → Int64}
/-! wires to and from a box -/
def wr_t (N : bn_N) (b : Nat) : Nat → Int32 → Int32 := fun w a => if bw_h (bn_wr N w) = true ∧ bw_t (bn_wr N w) = b then a ||| ((1 : Int32) <<< (nI w &&& 31)) else a
def wr_f (N : bn_N) (b : Nat) : Nat → Int32 → Int32 := fun w a => if bw_h (bn_wr N w) = true ∧ bw_f (bn_wr N w) = b then a ||| ((1 : Int32) <<< (nI w &&& 31)) else a
theorem cl_wt4 {o b : Nat} {N : bn_N} (hok : bn_ok N) (hN : bc_N I o N) (hb : b < 6) (K : Int32 → (Nat → Nat → Int32) → (Nat → Nat → Int64) → Option (Int32 × bf_St)) : ∀ (n w : Nat) (a : Int32), w ≤ 8 → 8 < w + n → f_X3_wiresTo_4 o (nI b) K n a (nI w) I L = K (bfold (wr_t N b) (8 - w) w a) I L
  | 0, w, a, h1, h2 => by omega
  | n + 1, w, a, h1, h2 => by
    rw [f_X3_wiresTo_4]
    by_cases h8 : w = 8
    · subst h8
      rw [if_pos (by decide)]
      rfl
    · rw [if_neg (show ¬ (8 : Int32) ≤ nI w from nI_ge (b := 8) (by omega) (by omega)), if_pos (bp_ok (by omega) (by omega)), bp_cl (by omega), cl_goesTo (hN.2.2.2 w (by omega)) (hok.2.2.2.1 w) hok.1 (by omega), bp_p1, show 8 - w = (8 - (w + 1)) + 1 by omega]
      simp only [Option.bind_some, Int32.or_zero]
      show _ = K (bfold _ (8 - (w + 1)) (w + 1) (wr_t N b w a)) I L
      by_cases e : bw_h (bn_wr N w) = true ∧ bw_t (bn_wr N w) = b
      · rw [if_pos e, if_neg bp_10, cl_wt4 hok hN hb K n (w + 1) _ (by omega) (by omega), show wr_t N b w a = _ from if_pos e]
      · rw [if_neg e, if_pos rfl, cl_wt4 hok hN hb K n (w + 1) _ (by omega) (by omega), show wr_t N b w a = _ from if_neg e]
theorem cl_wf4 {o b : Nat} {N : bn_N} (hok : bn_ok N) (hN : bc_N I o N) (hb : b < 6) (K : Int32 → (Nat → Nat → Int32) → (Nat → Nat → Int64) → Option (Int32 × bf_St)) : ∀ (n w : Nat) (a : Int32), w ≤ 8 → 8 < w + n → f_X3_wiresFrom_4 o (nI b) K n a (nI w) I L = K (bfold (wr_f N b) (8 - w) w a) I L
  | 0, w, a, h1, h2 => by omega
  | n + 1, w, a, h1, h2 => by
    rw [f_X3_wiresFrom_4]
    by_cases h8 : w = 8
    · subst h8
      rw [if_pos (by decide)]
      rfl
    · rw [if_neg (show ¬ (8 : Int32) ≤ nI w from nI_ge (b := 8) (by omega) (by omega)), if_pos (bp_ok (by omega) (by omega)), bp_cl (by omega), cl_comesFrom (hN.2.2.2 w (by omega)) (hok.2.2.2.1 w) hok.1 (by omega), bp_p1, show 8 - w = (8 - (w + 1)) + 1 by omega]
      simp only [Option.bind_some, Int32.or_zero]
      show _ = K (bfold _ (8 - (w + 1)) (w + 1) (wr_f N b w a)) I L
      by_cases e : bw_h (bn_wr N w) = true ∧ bw_f (bn_wr N w) = b
      · rw [if_pos e, if_neg bp_10, cl_wf4 hok hN hb K n (w + 1) _ (by omega) (by omega), show wr_f N b w a = _ from if_pos e]
      · rw [if_neg e, if_pos rfl, cl_wf4 hok hN hb K n (w + 1) _ (by omega) (by omega), show wr_f N b w a = _ from if_neg e]
theorem ml_w5t {o b : Nat} {N : bn_N} (hok : bn_ok N) (hN : bm_N (I (o + 1)) N) (hb : b < 6) (K : Int32 → (Nat → Nat → Int32) → (Nat → Nat → Int64) → Option (Int32 × bf_St)) : ∀ (n w : Nat) (a : Int32), w ≤ bn_nw N → bn_nw N < w + n → f_X12_wires_5 o (nI b) 1 K n a (nI w) I L = K (bfold (wr_t N b) (bn_nw N - w) w a) I L
  | 0, w, a, h1, h2 => by omega
  | n + 1, w, a, h1, h2 => by
    have o1 := hok.1
    have o2 := hok.2.1
    rw [f_X12_wires_5, bp_1, hN.2.1]
    by_cases h8 : w = bn_nw N
    · rw [if_pos (nI_le (by omega) (by omega)), show bn_nw N - w = 0 by omega]
      rfl
    · have hx := hN.2.2.2 w (by omega)
      rw [if_neg (nI_ge (by omega) (by omega)), mm_isWire hok hN (by omega), bp_p1, show bn_nw N - w = (bn_nw N - (w + 1)) + 1 by omega]
      simp only [Option.bind_some, Int32.or_zero]
      show _ = K (bfold (wr_t N b) (bn_nw N - (w + 1)) (w + 1) (wr_t N b w a)) I L
      by_cases hh : bw_h (bn_wr N w) = true
      · obtain ⟨t1, t2, -⟩ := (hok.2.2.2.1 w).1 hh
        obtain ⟨s1, s2, -⟩ := hx.1 hh
        rw [if_pos hh, if_neg bp_10, if_neg bp_10, me_to (show w < 8 by omega), s2]
        simp only [Option.bind_some]
        by_cases e : bw_t (bn_wr N w) = b
        · rw [if_pos (congrArg nI e), ml_w5t hok hN hb K n (w + 1) _ (by omega) (by omega), show wr_t N b w a = _ from if_pos ⟨hh, e⟩]
        · rw [if_neg (fun z => e (by rwa [bp_eq (by omega) (by omega)] at z)), ml_w5t hok hN hb K n (w + 1) _ (by omega) (by omega), show wr_t N b w a = _ from if_neg (fun z => e z.2)]
      · rw [if_neg hh, if_pos rfl, ml_w5t hok hN hb K n (w + 1) _ (by omega) (by omega), show wr_t N b w a = _ from if_neg (fun z => hh z.1)]
theorem ml_w5f {o b : Nat} {N : bn_N} (hok : bn_ok N) (hN : bm_N (I (o + 1)) N) (hb : b < 6) (K : Int32 → (Nat → Nat → Int32) → (Nat → Nat → Int64) → Option (Int32 × bf_St)) : ∀ (n w : Nat) (a : Int32), w ≤ bn_nw N → bn_nw N < w + n → f_X12_wires_5 o (nI b) 0 K n a (nI w) I L = K (bfold (wr_f N b) (bn_nw N - w) w a) I L
  | 0, w, a, h1, h2 => by omega
  | n + 1, w, a, h1, h2 => by
    have o1 := hok.1
    have o2 := hok.2.1
    rw [f_X12_wires_5, bp_1, hN.2.1]
    by_cases h8 : w = bn_nw N
    · rw [if_pos (nI_le (by omega) (by omega)), show bn_nw N - w = 0 by omega]
      rfl
    · have hx := hN.2.2.2 w (by omega)
      rw [if_neg (nI_ge (by omega) (by omega)), mm_isWire hok hN (by omega), bp_p1, show bn_nw N - w = (bn_nw N - (w + 1)) + 1 by omega]
      simp only [Option.bind_some, Int32.or_zero]
      show _ = K (bfold (wr_f N b) (bn_nw N - (w + 1)) (w + 1) (wr_f N b w a)) I L
      by_cases hh : bw_h (bn_wr N w) = true
      · obtain ⟨t1, t2, -⟩ := (hok.2.2.2.1 w).1 hh
        obtain ⟨s1, s2, -⟩ := hx.1 hh
        rw [if_pos hh, if_neg bp_10, if_pos trivial, me_from (show w < 8 by omega), s1]
        simp only [Option.bind_some]
        by_cases e : bw_f (bn_wr N w) = b
        · rw [if_pos (congrArg nI e), ml_w5f hok hN hb K n (w + 1) _ (by omega) (by omega), show wr_f N b w a = _ from if_pos ⟨hh, e⟩]
        · rw [if_neg (fun z => e (by rwa [bp_eq (by omega) (by omega)] at z)), ml_w5f hok hN hb K n (w + 1) _ (by omega) (by omega), show wr_f N b w a = _ from if_neg (fun z => e z.2)]
      · rw [if_neg hh, if_pos rfl, ml_w5f hok hN hb K n (w + 1) _ (by omega) (by omega), show wr_f N b w a = _ from if_neg (fun z => hh z.1)]
theorem wr_8 {N : bn_N} (hok : bn_ok N) (b : Nat) : bfold (wr_t N b) 8 0 0 = bfold (wr_t N b) (bn_nw N - 0) 0 0 ∧ bfold (wr_f N b) 8 0 0 = bfold (wr_f N b) (bn_nw N - 0) 0 0 := by
  have o2 := hok.2.1
  exact ⟨bfold_id (m := bn_nw N) (fun v a hv => if_neg (fun z => by rw [hok.2.2.2.2 v hv] at z; exact absurd z.1 (by decide))) 8 0 _ (by omega), bfold_id (m := bn_nw N) (fun v a hv => if_neg (fun z => by rw [hok.2.2.2.2 v hv] at z; exact absurd z.1 (by decide))) 8 0 _ (by omega)⟩
theorem cl_wt {o b : Nat} {N : bn_N} (hok : bn_ok N) (hN : bc_N I o N) (hb : b < 6) : f_X3_wiresTo o (nI b) I L = some (bfold (wr_t N b) 8 0 0, I, L) := by
  have e1 := cl_wt4 (L := L) hok hN hb (fun k I L => some (k, I, L)) 400 0 0 (by omega) (by omega)
  rw [show nI 0 = (0 : Int32) from rfl] at e1
  unfold f_X3_wiresTo
  rw [e1]
theorem cl_wf {o b : Nat} {N : bn_N} (hok : bn_ok N) (hN : bc_N I o N) (hb : b < 6) : f_X3_wiresFrom o (nI b) I L = some (bfold (wr_f N b) 8 0 0, I, L) := by
  have e1 := cl_wf4 (L := L) hok hN hb (fun k I L => some (k, I, L)) 400 0 0 (by omega) (by omega)
  rw [show nI 0 = (0 : Int32) from rfl] at e1
  unfold f_X3_wiresFrom
  rw [e1]
theorem ml_wt {o b : Nat} {N : bn_N} (hok : bn_ok N) (hN : bm_N (I (o + 1)) N) (hb : b < 6) : f_X12_wires o (nI b) 1 I L = some (bfold (wr_t N b) 8 0 0, I, L) := by
  have o2 := hok.2.1
  have e1 := ml_w5t (L := L) hok hN hb (fun k I L => some (k, I, L)) 400 0 0 (by omega) (by omega)
  rw [show nI 0 = (0 : Int32) from rfl] at e1
  unfold f_X12_wires
  rw [(wr_8 hok b).1, e1]
theorem ml_wf {o b : Nat} {N : bn_N} (hok : bn_ok N) (hN : bm_N (I (o + 1)) N) (hb : b < 6) : f_X12_wires o (nI b) 0 I L = some (bfold (wr_f N b) 8 0 0, I, L) := by
  have o2 := hok.2.1
  have e1 := ml_w5f (L := L) hok hN hb (fun k I L => some (k, I, L)) 400 0 0 (by omega) (by omega)
  rw [show nI 0 = (0 : Int32) from rfl] at e1
  unfold f_X12_wires
  rw [(wr_8 hok b).2, e1]
end RCH3
