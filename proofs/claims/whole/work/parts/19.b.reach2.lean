section RCH1
variable {I : Nat → Nat → Int32} {L : Nat → Nat → Int64}
theorem cl_on4 {o m : Nat} {N : bn_N} (hok : bn_ok N) (hN : bc_N I o N) (hm : m < 64) (K : Int32 → (Nat → Nat → Int32) → (Nat → Nat → Int64) → Option (Int32 × bf_St)) : ∀ (n w a : Nat), w ≤ 8 → 8 < w + n → a < 64 → f_X3_onwardFrom_4 o (nI m) K n (nI a) (nI w) I L = K (nI (bfold (sb_ps N (fun w _ => m.testBit (bw_f (bn_wr N w))) (rc_g N)) (8 - w) w a)) I L
  | 0, w, a, h1, h2, ha => by omega
  | n + 1, w, a, h1, h2, ha => by
    rw [f_X3_onwardFrom_4]
    by_cases h8 : w = 8
    · subst h8
      rw [if_pos (by decide)]
      rfl
    · have hx := hN.2.2.2 w (by omega)
      have o1 := hok.1
      rw [if_neg (show ¬ (8 : Int32) ≤ nI w from nI_ge (b := 8) (by omega) (by omega)), if_pos (bp_ok (by omega) (by omega)), bp_cl (by omega), hx.2.1, bp_p1, show 8 - w = (8 - (w + 1)) + 1 by omega]
      show _ = K (nI (bfold _ (8 - (w + 1)) (w + 1) (sb_ps N (fun w _ => m.testBit (bw_f (bn_wr N w))) (rc_g N) w a))) I L
      by_cases hh : bw_h (bn_wr N w) = true
      · obtain ⟨t1, t2, -⟩ := (hok.2.2.2.1 w).1 hh
        rw [if_pos hh, if_neg bp_10, (hx.1 hh).1, (hx.1 hh).2.1]
        simp only [sb_t hm (show bw_f (bn_wr N w) < 6 by omega)]
        by_cases e : m.testBit (bw_f (bn_wr N w)) = true
        · rw [if_pos e, sb_add ha (by omega), cl_on4 hok hN hm K n (w + 1) _ (by omega) (by omega) (sb_l ha (sb_p (by omega)))]
          rw [show sb_ps N (fun w _ => m.testBit (bw_f (bn_wr N w))) (rc_g N) w a = a ||| 2 ^ bw_t (bn_wr N w) from if_pos ⟨hh, e⟩]
        · rw [if_neg e, cl_on4 hok hN hm K n (w + 1) _ (by omega) (by omega) ha]
          rw [show sb_ps N (fun w _ => m.testBit (bw_f (bn_wr N w))) (rc_g N) w a = a from if_neg (fun z => e z.2)]
      · rw [if_neg hh, if_pos rfl, cl_on4 hok hN hm K n (w + 1) _ (by omega) (by omega) ha]
        rw [show sb_ps N (fun w _ => m.testBit (bw_f (bn_wr N w))) (rc_g N) w a = a from if_neg (fun z => hh z.1)]
theorem cl_on {o m : Nat} {N : bn_N} (hok : bn_ok N) (hN : bc_N I o N) (hm : m < 64) : f_X3_onwardFrom o (nI m) I L = some (nI (rc_on N m), I, L) := by
  unfold f_X3_onwardFrom
  rw [show (0 : Int32) = nI 0 from rfl, cl_on4 hok hN hm _ 400 0 0 (by omega) (by omega) (by omega)]
  rfl
theorem cl_rch10 {o : Nat} {N : bn_N} (hok : bn_ok N) (hN : bc_N I o N) (K : Int32 → (Nat → Nat → Int32) → (Nat → Nat → Int64) → Option (Int32 × bf_St)) : ∀ (n i j m : Nat), i + j = 6 → i < n → m < 64 → f_X3_reachedFrom_10 o K n (nI m) (nI j) I L = K (nI (sb_it (rc_st N) i m)) I L
  | 0, i, j, m, h1, h2, hm => by omega
  | n + 1, 0, j, m, h1, h2, hm => by
    rw [f_X3_reachedFrom_10, if_pos (show (6 : Int32) ≤ nI j from nI_le (a := 6) (by omega) (by omega))]
    rfl
  | n + 1, i + 1, j, m, h1, h2, hm => by
    rw [f_X3_reachedFrom_10, if_neg (show ¬ (6 : Int32) ≤ nI j from nI_ge (b := 6) (by omega) (by omega)), cl_on hok hN hm]
    simp only [Option.bind_some]
    rw [sb_o hm (rc_onl hok m), bp_p1, cl_rch10 hok hN K n i (j + 1) _ (by omega) (by omega) (sb_l hm (rc_onl hok m))]
    rfl
theorem cl_rch {o b : Nat} {N : bn_N} (hok : bn_ok N) (hN : bc_N I o N) (hb : b < 6) : f_X3_reachedFrom o (nI b) I L = some (nI (rc_C N b), I, L) := by
  have e1 := cl_rch10 (L := L) hok hN (fun k2_6 I6 L6 => some (k2_6, I6, L6)) 400 5 1 (rc_on N (2 ^ b)) (by omega) (by omega) (rc_onl hok _)
  have e2 := cl_on (L := L) hok hN (sb_p hb)
  obtain ⟨x, hx⟩ : ∃ x, x = nI (rc_on N (2 ^ b)) := ⟨_, rfl⟩
  rw [← hx] at e1 e2
  rw [show nI 1 = (1 : Int32) from rfl] at e1
  unfold f_X3_reachedFrom
  rw [sb_s hb, e2, Option.bind_some, e1]
  rw [rc_C]
end RCH1
