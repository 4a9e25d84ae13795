section RCH4
variable {I : Nat → Nat → Int32} {L : Nat → Nat → Int64}
/-! boxes held together -/
abbrev lo_c (N : bn_N) : Nat → Nat → Bool := fun w a => a.testBit (bw_f (bn_wr N w)) || a.testBit (bw_t (bn_wr N w))
abbrev lo_g (N : bn_N) (w : Nat) : Nat := 2 ^ bw_f (bn_wr N w) ||| 2 ^ bw_t (bn_wr N w)
def lo_ps (N : bn_N) (m : Nat) : Nat := bfold (sb_ps N (lo_c N) (lo_g N)) 8 0 m
def lo_L (N : bn_N) (b : Nat) : Nat := sb_it (lo_ps N) 6 (2 ^ b)
theorem lo_gl {N : bn_N} (hok : bn_ok N) : ∀ w, bw_h (bn_wr N w) = true → lo_g N w < 64 := fun w hw => by
  have h1 := (hok.2.2.2.1 w).1 hw
  have := hok.1
  exact sb_l (sb_p (by omega)) (sb_p (by omega))
theorem lo_psF {N : bn_N} (hok : bn_ok N) : ∀ m, m < 64 → lo_ps N m < 64 ∧ m ||| lo_ps N m = lo_ps N m := fun m hm => ⟨sb_fl (lo_gl hok) 8 0 m hm, sb_sub (fun j hj => sb_fS 8 0 m j hj)⟩
theorem lo_Ll {N : bn_N} (hok : bn_ok N) {b : Nat} (hb : b < 6) : lo_L N b < 64 := sb_itl (fun m hm => (lo_psF hok m hm).1) 6 _ (sb_p hb)
theorem lo_in {N : bn_N} (hok : bn_ok N) {b : Nat} : (lo_L N b).testBit b = true := by
  have : ∀ (i m : Nat), ∀ j, m.testBit j = true → (sb_it (lo_ps N) i m).testBit j = true := by
    intro i
    induction i with
    | zero => intro m j h; exact h
    | succ i ih => intro m j h; exact ih (lo_ps N m) j (sb_fS 8 0 m j h)
  exact this 6 _ b (sb_bit.mpr rfl)
theorem lo_cl {N : bn_N} (hok : bn_ok N) {b : Nat} (hb : b < 6) : ∀ w, w < 8 → bw_h (bn_wr N w) = true → ((lo_L N b).testBit (bw_f (bn_wr N w)) = true ↔ (lo_L N b).testBit (bw_t (bn_wr N w)) = true) := by
  have hst : lo_ps N (lo_L N b) = lo_L N b := sb_stab (lo_psF hok) 6 _ (sb_p hb) (by omega)
  have key : ∀ w, w < 8 → bw_h (bn_wr N w) = true → lo_c N w (lo_L N b) = true → ∀ j, (lo_g N w).testBit j = true → (lo_L N b).testBit j = true := fun w hw hh hc j hj => by
    rw [← hst]
    refine sb_fC (fun w a c hac h => ?_) 8 0 _ w (by omega) (by omega) hh hc j hj
    rcases (Bool.or_eq_true _ _).mp h with z | z
    · exact (Bool.or_eq_true _ _).mpr (Or.inl (hac _ z))
    · exact (Bool.or_eq_true _ _).mpr (Or.inr (hac _ z))
  intro w hw hh
  constructor
  · intro h
    exact key w hw hh ((Bool.or_eq_true _ _).mpr (Or.inl h)) _ (sb_or.mpr (Or.inr (sb_bit.mpr rfl)))
  · intro h
    exact key w hw hh ((Bool.or_eq_true _ _).mpr (Or.inr h)) _ (sb_or.mpr (Or.inl (sb_bit.mpr rfl)))
theorem lo_min {N : bn_N} (hok : bn_ok N) {b : Nat} {P : Nat → Prop} (hP : ∀ w, w < 8 → bw_h (bn_wr N w) = true → (P (bw_f (bn_wr N w)) ↔ P (bw_t (bn_wr N w)))) (h0 : P b) : ∀ j, (lo_L N b).testBit j = true → P j := by
  refine sb_itP (fun m hm => sb_fP (fun w a hh ha hc j hj => ?_) 8 0 m hm) 6 _ (fun j hj => by rw [← sb_bit.mp hj]; exact h0)
  have hw := rc_w8 hok hh
  have hf : P (bw_f (bn_wr N w)) ∧ P (bw_t (bn_wr N w)) := by
    rcases (Bool.or_eq_true _ _).mp hc with z | z
    · exact ⟨ha _ z, (hP w hw hh).mp (ha _ z)⟩
    · exact ⟨(hP w hw hh).mpr (ha _ z), ha _ z⟩
  rcases sb_or.mp hj with z | z
  · rw [← sb_bit.mp z]; exact hf.1
  · rw [← sb_bit.mp z]; exact hf.2
theorem ml_lo15 {o : Nat} {v3 : Int32} {N : bn_N} (hok : bn_ok N) (hN : bm_N (I (o + 1)) N) (K : Int32 → (Nat → Nat → Int32) → (Nat → Nat → Int64) → Option (Int32 × bf_St)) : ∀ (n w a : Nat), w ≤ bn_nw N → bn_nw N < w + n → a < 64 → f_X12_lotOf_15 o v3 K n (nI a) (nI w) I L = K (nI (bfold (sb_ps N (lo_c N) (lo_g N)) (bn_nw N - w) w a)) I L
  | 0, w, a, h1, h2, ha => by omega
  | n + 1, w, a, h1, h2, ha => by
    have o1 := hok.1
    have o2 := hok.2.1
    rw [f_X12_lotOf_15, bp_1, hN.2.1]
    by_cases h8 : w = bn_nw N
    · rw [if_pos (nI_le (by omega) (by omega)), show bn_nw N - w = 0 by omega]
      rfl
    · have hx := hN.2.2.2 w (by omega)
      rw [if_neg (nI_ge (by omega) (by omega)), mm_isWire hok hN (by omega), bp_p1, show bn_nw N - w = (bn_nw N - (w + 1)) + 1 by omega]
      simp only [Option.bind_some, Int32.or_zero]
      show _ = K (nI (bfold _ (bn_nw N - (w + 1)) (w + 1) (sb_ps N (lo_c N) (lo_g N) w a))) I L
      by_cases hh : bw_h (bn_wr N w) = true
      · obtain ⟨t1, t2, -⟩ := (hok.2.2.2.1 w).1 hh
        obtain ⟨s1, s2, -⟩ := hx.1 hh
        have l1 := sb_p (show bw_f (bn_wr N w) < 6 by omega)
        have l2 := sb_p (show bw_t (bn_wr N w) < 6 by omega)
        rw [if_pos hh, if_neg bp_10]
        simp only [me_from (show w < 8 by omega), me_to (show w < 8 by omega), Option.bind_some, s1, s2, sb_t ha (show bw_f (bn_wr N w) < 6 by omega), sb_t ha (show bw_t (bn_wr N w) < 6 by omega), sb_s (show bw_f (bn_wr N w) < 6 by omega), sb_s (show bw_t (bn_wr N w) < 6 by omega), sb_o l1 l2, sb_o ha (sb_l l1 l2)]
        by_cases e : a.testBit (bw_f (bn_wr N w)) = true
        · rw [if_pos e, ml_lo15 hok hN K n (w + 1) _ (by omega) (by omega) (sb_l ha (sb_l l1 l2)), show sb_ps N (lo_c N) (lo_g N) w a = _ from if_pos ⟨hh, (Bool.or_eq_true _ _).mpr (Or.inl e)⟩]
        · rw [if_neg e]
          by_cases e2 : a.testBit (bw_t (bn_wr N w)) = true
          · rw [if_pos e2, ml_lo15 hok hN K n (w + 1) _ (by omega) (by omega) (sb_l ha (sb_l l1 l2)), show sb_ps N (lo_c N) (lo_g N) w a = _ from if_pos ⟨hh, (Bool.or_eq_true _ _).mpr (Or.inr e2)⟩]
          · rw [if_neg e2, ml_lo15 hok hN K n (w + 1) _ (by omega) (by omega) ha, show sb_ps N (lo_c N) (lo_g N) w a = a from if_neg (fun z => ((Bool.or_eq_true _ _).mp z.2).elim e e2)]
      · rw [if_neg hh, if_pos rfl, ml_lo15 hok hN K n (w + 1) _ (by omega) (by omega) ha, show sb_ps N (lo_c N) (lo_g N) w a = a from if_neg (fun z => hh z.1)]
theorem ml_lo6 {o : Nat} {N : bn_N} (hok : bn_ok N) (hN : bm_N (I (o + 1)) N) (K : Int32 → (Nat → Nat → Int32) → (Nat → Nat → Int64) → Option (Int32 × bf_St)) : ∀ (n i j m : Nat), i + j = 6 → i < n → m < 64 → f_X12_lotOf_6 o K n (nI m) (nI j) I L = K (nI (sb_it (lo_ps N) i m)) I L
  | 0, i, j, m, h1, h2, hm => by omega
  | n + 1, 0, j, m, h1, h2, hm => by
    rw [f_X12_lotOf_6, if_pos (show (6 : Int32) ≤ nI j from nI_le (a := 6) (by omega) (by omega))]
    rfl
  | n + 1, i + 1, j, m, h1, h2, hm => by
    have o2 := hok.2.1
    rw [f_X12_lotOf_6, if_neg (show ¬ (6 : Int32) ≤ nI j from nI_ge (b := 6) (by omega) (by omega)), show (0 : Int32) = nI 0 from rfl, ml_lo15 hok hN _ 400 0 m (by omega) (by omega) hm, ← sb_ps8 hok, bp_p1]
    exact ml_lo6 hok hN K n i (j + 1) _ (by omega) (by omega) (lo_psF hok m hm).1
theorem ml_lo {o b : Nat} {N : bn_N} (hok : bn_ok N) (hN : bm_N (I (o + 1)) N) (hb : b < 6) : f_X12_lotOf o (nI b) I L = some (nI (lo_L N b), I, L) := by
  have e1 := ml_lo6 (L := L) hok hN (fun k I L => some (k, I, L)) 400 6 0 _ (by omega) (by omega) (sb_p hb)
  rw [show nI 0 = (0 : Int32) from rfl] at e1
  unfold f_X12_lotOf
  rw [sb_s hb, e1]
  rw [lo_L]
end RCH4
