section RCH2
variable {I : Nat → Nat → Int32} {L : Nat → Nat → Int64}
/-! the reference's -/
theorem ml_rch13 {o b : Nat} {v3 : Int32} {N : bn_N} (hok : bn_ok N) (hN : bm_N (I (o + 1)) N) (hb : b < 6) (K : Int32 → (Nat → Nat → Int32) → (Nat → Nat → Int64) → Option (Int32 × bf_St)) : ∀ (n w a : Nat), w ≤ bn_nw N → bn_nw N < w + n → a < 64 → f_X12_reached_13 o (nI b) v3 K n (nI a) (nI w) I L = K (nI (bfold (sb_ps N (rc_mc N b) (rc_g N)) (bn_nw N - w) w a)) I L
  | 0, w, a, h1, h2, ha => by omega
  | n + 1, w, a, h1, h2, ha => by
    have o1 := hok.1
    have o2 := hok.2.1
    rw [f_X12_reached_13, bp_1, hN.2.1]
    by_cases h8 : w = bn_nw N
    · rw [if_pos (nI_le (by omega) (by omega)), show bn_nw N - w = 0 by omega]
      rfl
    · have hx := hN.2.2.2 w (by omega)
      rw [if_neg (nI_ge (by omega) (by omega)), mm_isWire hok hN (by omega), bp_p1, show bn_nw N - w = (bn_nw N - (w + 1)) + 1 by omega]
      simp only [Option.bind_some, Int32.or_zero]
      show _ = K (nI (bfold _ (bn_nw N - (w + 1)) (w + 1) (sb_ps N (rc_mc N b) (rc_g N) w a))) I L
      by_cases hh : bw_h (bn_wr N w) = true
      · obtain ⟨t1, t2, -⟩ := (hok.2.2.2.1 w).1 hh
        obtain ⟨s1, s2, -⟩ := hx.1 hh
        rw [if_pos hh, if_neg bp_10]
        simp only [me_from (show w < 8 by omega), me_to (show w < 8 by omega), Option.bind_some, s1, s2, sb_t ha (show bw_f (bn_wr N w) < 6 by omega), sb_add ha (show bw_t (bn_wr N w) < 6 by omega)]
        by_cases e : bw_f (bn_wr N w) = b
        · rw [if_pos (congrArg nI e), ml_rch13 hok hN hb K n (w + 1) _ (by omega) (by omega) (sb_l ha (sb_p (by omega))), show sb_ps N (rc_mc N b) (rc_g N) w a = a ||| 2 ^ bw_t (bn_wr N w) from if_pos ⟨hh, (Bool.or_eq_true _ _).mpr (Or.inl (decide_eq_true e))⟩]
        · rw [if_neg (fun z => e (by rwa [bp_eq (by omega) (by omega)] at z))]
          by_cases e2 : a.testBit (bw_f (bn_wr N w)) = true
          · rw [if_pos e2, ml_rch13 hok hN hb K n (w + 1) _ (by omega) (by omega) (sb_l ha (sb_p (by omega))), show sb_ps N (rc_mc N b) (rc_g N) w a = a ||| 2 ^ bw_t (bn_wr N w) from if_pos ⟨hh, (Bool.or_eq_true _ _).mpr (Or.inr e2)⟩]
          · rw [if_neg e2, ml_rch13 hok hN hb K n (w + 1) _ (by omega) (by omega) ha, show sb_ps N (rc_mc N b) (rc_g N) w a = a from if_neg (fun z => ((Bool.or_eq_true _ _).mp z.2).elim (fun y => e (of_decide_eq_true y)) (fun y => e2 y))]
      · rw [if_neg hh, if_pos rfl, ml_rch13 hok hN hb K n (w + 1) _ (by omega) (by omega) ha, show sb_ps N (rc_mc N b) (rc_g N) w a = a from if_neg (fun z => hh z.1)]
theorem sb_ps8 {N : bn_N} (hok : bn_ok N) {c : Nat → Nat → Bool} {g : Nat → Nat} (a : Nat) : bfold (sb_ps N c g) 8 0 a = bfold (sb_ps N c g) (bn_nw N - 0) 0 a := bfold_id (m := bn_nw N) (fun v a hv => if_neg (fun z => by rw [hok.2.2.2.2 v hv] at z; exact absurd z.1 (by decide))) 8 0 a (by have := hok.2.1; omega)
theorem ml_rch4 {o b : Nat} {N : bn_N} (hok : bn_ok N) (hN : bm_N (I (o + 1)) N) (hb : b < 6) (K : Int32 → (Nat → Nat → Int32) → (Nat → Nat → Int64) → Option (Int32 × bf_St)) : ∀ (n i j m : Nat), i + j = 7 → i < n → m < 64 → f_X12_reached_4 o (nI b) K n (nI m) (nI j) I L = K (nI (sb_it (rc_ps N b) i m)) I L
  | 0, i, j, m, h1, h2, hm => by omega
  | n + 1, 0, j, m, h1, h2, hm => by
    rw [f_X12_reached_4, if_pos (show (7 : Int32) ≤ nI j from nI_le (a := 7) (by omega) (by omega))]
    rfl
  | n + 1, i + 1, j, m, h1, h2, hm => by
    have o2 := hok.2.1
    rw [f_X12_reached_4, if_neg (show ¬ (7 : Int32) ≤ nI j from nI_ge (b := 7) (by omega) (by omega)), show (0 : Int32) = nI 0 from rfl, ml_rch13 hok hN hb _ 400 0 m (by omega) (by omega) hm, ← sb_ps8 hok, bp_p1]
    exact ml_rch4 hok hN hb K n i (j + 1) _ (by omega) (by omega) (rc_psl hok hm)
theorem ml_rch {o b : Nat} {N : bn_N} (hok : bn_ok N) (hN : bm_N (I (o + 1)) N) (hb : b < 6) : f_X12_reached o (nI b) I L = some (nI (rc_C N b), I, L) := by
  have e1 := ml_rch4 (L := L) hok hN hb (fun k I L => some (k, I, L)) 400 7 0 0 (by omega) (by omega) (by omega)
  rw [show nI 0 = (0 : Int32) from rfl] at e1
  unfold f_X12_reached
  rw [rc_eq hok b, rc_M, e1]
theorem ml_fb11 {o b r : Nat} {N : bn_N} (hok : bn_ok N) (hN : bm_N (I (o + 1)) N) (hb : b < 6) (hr : r < 64) (K : Int32 → (Nat → Nat → Int32) → (Nat → Nat → Int64) → Option (Int32 × bf_St)) : ∀ (n x a : Nat), x ≤ bn_nb N → bn_nb N < x + n → a < 64 → f_X12_feedback_11 o (nI b) (nI r) K n (nI a) (nI x) I L = K (nI (bfold (fb_f N b r) (bn_nb N - x) x a)) I L
  | 0, x, a, h1, h2, ha => by omega
  | n + 1, x, a, h1, h2, ha => by
    have o1 := hok.1
    rw [f_X12_feedback_11, bp_0, hN.1]
    by_cases h8 : x = bn_nb N
    · rw [if_pos (nI_le (by omega) (by omega)), show bn_nb N - x = 0 by omega]
      rfl
    · rw [if_neg (nI_ge (by omega) (by omega)), bp_p1, show bn_nb N - x = (bn_nb N - (x + 1)) + 1 by omega]
      show _ = K (nI (bfold _ (bn_nb N - (x + 1)) (x + 1) (fb_f N b r x a))) I L
      simp only [sb_t hr (show x < 6 by omega), Int32.or_zero]
      by_cases e : r.testBit x = true
      · rw [if_pos e, ml_rch hok hN (by omega)]
        simp only [Option.bind_some, sb_t (rc_Cl hok x) hb]
        by_cases e2 : (rc_C N x).testBit b = true
        · rw [if_pos e2, sb_add ha (by omega), ml_fb11 hok hN hb hr K n (x + 1) _ (by omega) (by omega) (sb_l ha (sb_p (by omega))), show fb_f N b r x a = a ||| 2 ^ x from if_pos ⟨e, e2⟩]
        · rw [if_neg e2, ml_fb11 hok hN hb hr K n (x + 1) _ (by omega) (by omega) ha, show fb_f N b r x a = a from if_neg (fun z => e2 z.2)]
      · rw [if_neg e, ml_fb11 hok hN hb hr K n (x + 1) _ (by omega) (by omega) ha, show fb_f N b r x a = a from if_neg (fun z => e z.1)]
theorem ml_fb {o b : Nat} {N : bn_N} (hok : bn_ok N) (hN : bm_N (I (o + 1)) N) (hb : b < 6) : f_X12_feedback o (nI b) I L = some (nI (fb_R N b), I, L) := by
  have o1 := hok.1
  have e2 := ml_rch (L := L) hok hN hb
  have e1 := ml_fb11 (L := L) hok hN hb (rc_Cl hok b) (fun k I L => some (k, I, L)) 400 0 0 (by omega) (by omega) (by omega)
  have e3 : fb_R N b = bfold (fb_f N b (rc_C N b)) (bn_nb N - 0) 0 0 := by
    unfold fb_R
    refine bfold_id (m := bn_nb N) (fun v a hv => if_neg (fun z => ?_)) 6 0 0 (by omega)
    have := rc_Cmin hok (b := b) (P := fun j => j < bn_nb N) (fun w _ hh _ => ((hok.2.2.2.1 w).1 hh).2.1) v z.1
    omega
  rw [← e3] at e1
  obtain ⟨x, hx⟩ : ∃ x, x = nI (rc_C N b) := ⟨_, rfl⟩
  rw [← hx] at e1 e2
  rw [show nI 0 = (0 : Int32) from rfl] at e1
  unfold f_X12_feedback
  rw [e2, Option.bind_some, e1]
end RCH2
