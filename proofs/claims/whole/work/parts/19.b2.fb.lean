section RCH1b
variable {I : Nat → Nat → Int32} {L : Nat → Nat → Int64}
def fb_f (N : bn_N) (b r : Nat) : Nat → Nat → Nat := fun x a => if r.testBit x = true ∧ (rc_C N x).testBit b = true then a ||| 2 ^ x else a
theorem cl_fb11 {o b r : Nat} {N : bn_N} (hok : bn_ok N) (hN : bc_N I o N) (hb : b < 6) (hr : r < 64) (K : Int32 → (Nat → Nat → Int32) → (Nat → Nat → Int64) → Option (Int32 × bf_St)) : ∀ (n x a : Nat), x ≤ 6 → 6 < x + n → a < 64 → f_X3_feedback_11 o (nI b) (nI r) K n (nI a) (nI x) I L = K (nI (bfold (fb_f N b r) (6 - x) x a)) I L
  | 0, x, a, h1, h2, ha => by omega
  | n + 1, x, a, h1, h2, ha => by
    rw [f_X3_feedback_11]
    by_cases h8 : x = 6
    · subst h8
      rw [if_pos (by decide)]
      rfl
    · rw [if_neg (show ¬ (6 : Int32) ≤ nI x from nI_ge (b := 6) (by omega) (by omega)), bp_p1, show 6 - x = (6 - (x + 1)) + 1 by omega]
      show _ = K (nI (bfold _ (6 - (x + 1)) (x + 1) (fb_f N b r x a))) I L
      simp only [sb_t hr (show x < 6 by omega), Int32.or_zero]
      by_cases e : r.testBit x = true
      · rw [if_pos e, cl_rch hok hN (by omega)]
        simp only [Option.bind_some, sb_t (rc_Cl hok x) hb]
        by_cases e2 : (rc_C N x).testBit b = true
        · rw [if_pos e2, sb_add ha (by omega), cl_fb11 hok hN hb hr K n (x + 1) _ (by omega) (by omega) (sb_l ha (sb_p (by omega))), show fb_f N b r x a = a ||| 2 ^ x from if_pos ⟨e, e2⟩]
        · rw [if_neg e2, cl_fb11 hok hN hb hr K n (x + 1) _ (by omega) (by omega) ha, show fb_f N b r x a = a from if_neg (fun z => e2 z.2)]
      · rw [if_neg e, cl_fb11 hok hN hb hr K n (x + 1) _ (by omega) (by omega) ha, show fb_f N b r x a = a from if_neg (fun z => e z.1)]
def fb_R (N : bn_N) (b : Nat) : Nat := bfold (fb_f N b (rc_C N b)) 6 0 0
theorem cl_fb {o b : Nat} {N : bn_N} (hok : bn_ok N) (hN : bc_N I o N) (hb : b < 6) : f_X3_feedback o (nI b) I L = some (nI (fb_R N b), I, L) := by
  have e2 := cl_rch (L := L) hok hN hb
  have e1 := cl_fb11 (L := L) hok hN hb (rc_Cl hok b) (fun k I L => some (k, I, L)) 400 0 0 (by omega) (by omega) (by omega)
  obtain ⟨x, hx⟩ : ∃ x, x = nI (rc_C N b) := ⟨_, rfl⟩
  rw [← hx] at e1 e2
  rw [show nI 0 = (0 : Int32) from rfl] at e1
  unfold f_X3_feedback
  rw [e2, Option.bind_some, e1]
  rw [fb_R]
end RCH1b
