/-! the reference finds TIMES -/
def sp_R (L : Nat → Nat → Int64) (o : Nat) (A B : Nat → Nat) : Prop := ∀ b, b < 6 → L (o + 6) b = lN (A b) ∧ (0 < A b → L (o + 7) b = lN (B b))
theorem sp_R.up {L : Nat → Nat → Int64} {o c x y : Nat} {A B : Nat → Nat} (h : sp_R L o A B) : sp_R (bf_u (bf_u L (o + 6) c (lN x)) (o + 7) c (lN y)) o (va_up A c x) (va_up B c y) := fun b hb => by
  by_cases e : b = c
  · subst e
    rw [bf_u_ne (by omega), bf_u_at, bf_u_at, vu_o, vu_o]
    exact ⟨rfl, fun _ => rfl⟩
  · rw [bf_u_ne (by omega), bf_u_ni e, bf_u_ni e, bf_u_ne (by omega), vu_n e, vu_n e]
    exact h b hb
theorem sp_z {a : Nat} (h : a < 2 ^ 63) : (lg_cmp (lN a) 0 ≤ 0) = (a = 0) := propext (by
  rw [lg_cmp_le, show (0 : Int64) = lN 0 from rfl, pk_lLE h (by omega)]
  omega)
theorem sp_z2 {a : Nat} (h : a < 2 ^ 63) : (lg_cmp (lN a) 0 = 0) = (a = 0) := propext (by
  rw [lg_cmp_eq, show (0 : Int64) = lN 0 from rfl, pk_lEQ h (by omega)])
theorem sp_le {x n : Nat} (h : x ∣ 12 ^ n) (hn : n ≤ 6) : x ≤ 2985984 := by
  refine Nat.le_trans (Nat.le_of_dvd (Nat.pow_pos (by omega)) h) ?_
  exact Nat.le_trans (Nat.pow_le_pow_right (n := 12) (j := 6) (by omega) hn) (by decide)
section TM5
variable {I : Nat → Nat → Int32}
theorem ml_sets {L : Nat → Nat → Int64} {o c p q : Nat} (hc : c < 6) (hp0 : 0 < p) (hp : p < 2 ^ 63) (hq : q < 2 ^ 63) : f_X12_sets o (nI c) (lN p) (lN q) I L = some (1, I, bf_u (bf_u L (o + 6) c (lN (p / Nat.gcd p q))) (o + 7) c (lN (q / Nat.gcd p q))) := by
  have g0 : 0 < Nat.gcd p q := Nat.gcd_pos_of_pos_left _ hp0
  have gl : Nat.gcd p q ≤ p := Nat.le_of_dvd hp0 (Nat.gcd_dvd_left _ _)
  unfold f_X12_sets
  rw [ml_gcd hp hq]
  simp only [Option.bind_some]
  rw [if_neg (lg_n0 g0 (by omega)), if_pos (bp_ok hc (by omega)), if_neg (lg_n0 g0 (by omega)), if_pos (bp_ok hc (by omega)), bp_cl (by omega), pk_lDiv hp g0 (by omega), pk_lDiv hq g0 (by omega)]
abbrev sp_fine (N : bn_N) (A B : Nat → Nat) (u : Nat) : Prop := (A (bw_f (bn_wr N u)) = 0 ∧ A (bw_t (bn_wr N u)) = 0) ∨ (0 < A (bw_f (bn_wr N u)) ∧ 0 < A (bw_t (bn_wr N u)) ∧ sp_c N A B u)
set_option maxHeartbeats 1000000 in
theorem ml_sp10 {o r : Nat} {N : bn_N} {Q : Nat → Prop} {A0 B0 : Nat → Nat} (hok : bn_ok N) (hN : bm_N (I (o + 1)) N) (hQ : sp_Q N Q) (hr6 : r < 6) (K : Int32 → (Nat → Nat → Int32) → (Nat → Nat → Int64) → Option (Int32 × bf_St)) : ∀ (n w : Nat) (v : Int32) (A B : Nat → Nat) (L : Nat → Nat → Int64), w ≤ bn_nw N → bn_nw N < w + n → sp_R L o A B → sp_I N r Q A0 B0 A B → ∃ L1, (∀ q, q ≠ o + 6 → q ≠ o + 7 → L1 q = L q) ∧ (((¬ ∃ t, tm_ev N t) ∧ f_X12_spreads_10 o K n v (nI w) I L = some (0, I, L1)) ∨ ∃ v1 A1 B1, f_X12_spreads_10 o K n v (nI w) I L = K v1 I L1 ∧ sp_R L1 o A1 B1 ∧ sp_I N r Q A0 B0 A1 B1 ∧ ((v1 = v ∧ A1 = A ∧ B1 = B ∧ ∀ u, w ≤ u → u < bn_nw N → bw_h (bn_wr N u) = true → sp_fine N A B u) ∨ (v1 = 1 ∧ sp_n A < sp_n A1)))
  | 0, w, v, A, B, L, h1, h2, hR, hI => by omega
  | n + 1, w, v, A, B, L, h1, h2, hR, hI => by
    have o1 := hok.1
    have o2 := hok.2.1
    rw [f_X12_spreads_10, bp_1, hN.2.1]
    by_cases h8 : w = bn_nw N
    · rw [if_pos (nI_le (by omega) (by omega))]
      exact ⟨L, fun _ _ _ => rfl, Or.inr ⟨v, A, B, rfl, hR, hI, Or.inl ⟨rfl, rfl, rfl, fun u u1 u2 => by omega⟩⟩⟩
    · have hx := hN.2.2.2 w (by omega)
      have w8 : w < 8 := by omega
      have cont : ∀ {X : Option (Int32 × bf_St)}, X = f_X12_spreads_10 o K n v (nI (w + 1)) I L → (bw_h (bn_wr N w) = true → sp_fine N A B w) → ∃ L1, (∀ q, q ≠ o + 6 → q ≠ o + 7 → L1 q = L q) ∧ (((¬ ∃ t, tm_ev N t) ∧ X = some (0, I, L1)) ∨ ∃ v1 A1 B1, X = K v1 I L1 ∧ sp_R L1 o A1 B1 ∧ sp_I N r Q A0 B0 A1 B1 ∧ ((v1 = v ∧ A1 = A ∧ B1 = B ∧ ∀ u, w ≤ u → u < bn_nw N → bw_h (bn_wr N u) = true → sp_fine N A B u) ∨ (v1 = 1 ∧ sp_n A < sp_n A1))) := fun {X} hX hf => by
        obtain ⟨L1, g1, g2⟩ := ml_sp10 hok hN hQ hr6 K n (w + 1) v A B L (by omega) (by omega) hR hI
        rw [hX]
        refine ⟨L1, g1, ?_⟩
        rcases g2 with g2 | ⟨v1, A1, B1, g2, g3, g4, g5⟩
        · exact Or.inl g2
        · refine Or.inr ⟨v1, A1, B1, g2, g3, g4, ?_⟩
          rcases g5 with ⟨z1, z2, z3, z4⟩ | z
          · refine Or.inl ⟨z1, z2, z3, fun u u1 u2 u3 => ?_⟩
            by_cases e : u = w
            · subst e; exact hf u3
            · exact z4 u (by omega) u2 u3
          · exact Or.inr z
      have sett : ∀ {X : Option (Int32 × bf_St)} (A' B' : Nat → Nat) (L' : Nat → Nat → Int64), X = f_X12_spreads_10 o K n 1 (nI (w + 1)) I L' → sp_R L' o A' B' → sp_I N r Q A0 B0 A' B' → sp_n A < sp_n A' → (∀ q, q ≠ o + 6 → q ≠ o + 7 → L' q = L q) → ∃ L1, (∀ q, q ≠ o + 6 → q ≠ o + 7 → L1 q = L q) ∧ (((¬ ∃ t, tm_ev N t) ∧ X = some (0, I, L1)) ∨ ∃ v1 A1 B1, X = K v1 I L1 ∧ sp_R L1 o A1 B1 ∧ sp_I N r Q A0 B0 A1 B1 ∧ ((v1 = v ∧ A1 = A ∧ B1 = B ∧ ∀ u, w ≤ u → u < bn_nw N → bw_h (bn_wr N u) = true → sp_fine N A B u) ∨ (v1 = 1 ∧ sp_n A < sp_n A1))) := fun {X} A' B' L' hX hR' hI' hn hL' => by
        obtain ⟨L1, g1, g2⟩ := ml_sp10 hok hN hQ hr6 K n (w + 1) 1 A' B' L' (by omega) (by omega) hR' hI'
        rw [hX]
        refine ⟨L1, fun q q1 q2 => (g1 q q1 q2).trans (hL' q q1 q2), ?_⟩
        rcases g2 with g2 | ⟨v1, A1, B1, g2, g3, g4, g5⟩
        · exact Or.inl g2
        · refine Or.inr ⟨v1, A1, B1, g2, g3, g4, Or.inr ?_⟩
          rcases g5 with ⟨z1, z2, z3, z4⟩ | z
          · exact ⟨z1, by rw [z2]; exact hn⟩
          · exact ⟨z.1, by omega⟩
      rw [if_neg (nI_ge (by omega) (by omega)), me_from w8]
      simp only [Option.bind_some]
      rw [me_to w8]
      simp only [Option.bind_some]
      rw [mm_isWire hok hN (by omega)]
      simp only [Option.bind_some]
      by_cases hh : bw_h (bn_wr N w) = true
      · obtain ⟨f1, t1, p1, p2, k1, k2⟩ := (hok.2.2.2.1 w).1 hh
        obtain ⟨s1, s2, s3, s4⟩ := hx.1 hh
        have f6 : bw_f (bn_wr N w) < 6 := by omega
        have t6 : bw_t (bn_wr N w) < 6 := by omega
        have af := hR _ f6
        have ta := hR _ t6
        have n6 := sp_n6 A
        have bA : ∀ b, A b ≤ 2985984 := fun b => by
          by_cases q : 0 < A b
          · exact sp_le (hI.1 b q).2.2.1 n6
          · omega
        have bB : ∀ b, 0 < A b → B b ≤ 2985984 := fun b q => sp_le (hI.1 b q).2.2.2 n6
        have bAf := bA (bw_f (bn_wr N w))
        have bAt := bA (bw_t (bn_wr N w))
        rw [if_pos hh, if_neg bp_10, s1, s2]
        simp only [me_puts w8, me_takes w8, s3, s4, Option.bind_some, bp_okT f6 (show 6 ≤ 100000 by omega), bp_okT t6 (show 6 ≤ 100000 by omega), bp_cl (show bw_f (bn_wr N w) < 100000 by omega), bp_cl (show bw_t (bn_wr N w) < 100000 by omega), if_true, af.1, ta.1, sp_z (show A (bw_f (bn_wr N w)) < 2 ^ 63 by omega), sp_z (show A (bw_t (bn_wr N w)) < 2 ^ 63 by omega), sp_z2 (show A (bw_f (bn_wr N w)) < 2 ^ 63 by omega), sp_z2 (show A (bw_t (bn_wr N w)) < 2 ^ 63 by omega), nI_l (show bw_p (bn_wr N w) < 2 ^ 31 by omega), nI_l (show bw_k (bn_wr N w) < 2 ^ 31 by omega), lN_mul, bp_p1]
        by_cases e1 : A (bw_f (bn_wr N w)) = 0
        · by_cases e2 : A (bw_t (bn_wr N w)) = 0
          · simp only [if_pos e1, if_pos e2]
            exact cont rfl (fun _ => Or.inl ⟨e1, e2⟩)
          · have t0 : 0 < A (bw_t (bn_wr N w)) := by omega
            have bt := ta.2 t0
            have bBt := bB _ t0
            have m1 : A (bw_t (bn_wr N w)) * bw_k (bn_wr N w) ≤ 2985984 * 4 := Nat.mul_le_mul bAt k2
            have m2 : B (bw_t (bn_wr N w)) * bw_p (bn_wr N w) ≤ 2985984 * 4 := Nat.mul_le_mul bBt p2
            simp only [if_pos e1, if_neg e2, bt, lN_mul]
            rw [ml_sets f6 (Nat.mul_pos t0 k1) (by omega) (by omega)]
            simp only [Option.bind_some]
            obtain ⟨z1, z2⟩ := sp_set (x := bw_t (bn_wr N w)) (y := bw_f (bn_wr N w)) (nu := bw_k (bn_wr N w)) (de := bw_p (bn_wr N w)) hI (fun z => (hQ w w8 hh).mpr z) f1 f6 (fun z => (lo_cl hok hr6 w w8 hh).mpr z) (fun t ht => ht w w8 hh) t0 e1 k1 k2 p1 p2 (fun u u1 u2 u3 => (hQ u u1 u2).mp u3)
            exact sett _ _ _ rfl hR.up z1 z2 (fun q q1 q2 => by rw [bf_u_ne q2, bf_u_ne q1])
        · have f0 : 0 < A (bw_f (bn_wr N w)) := by omega
          have bf := af.2 f0
          have bBf := bB _ f0
          by_cases e2 : A (bw_t (bn_wr N w)) = 0
          · have m1 : A (bw_f (bn_wr N w)) * bw_p (bn_wr N w) ≤ 2985984 * 4 := Nat.mul_le_mul bAf p2
            have m2 : B (bw_f (bn_wr N w)) * bw_k (bn_wr N w) ≤ 2985984 * 4 := Nat.mul_le_mul bBf k2
            simp only [if_neg e1, if_pos e2, bf, lN_mul]
            rw [ml_sets t6 (Nat.mul_pos f0 p1) (by omega) (by omega)]
            simp only [Option.bind_some]
            obtain ⟨z1, z2⟩ := sp_set (x := bw_f (bn_wr N w)) (y := bw_t (bn_wr N w)) (nu := bw_p (bn_wr N w)) (de := bw_k (bn_wr N w)) hI (fun z => (hQ w w8 hh).mp z) t1 t6 (fun z => (lo_cl hok hr6 w w8 hh).mp z) (fun t ht => (ht w w8 hh).symm) f0 e2 p1 p2 k1 k2 (fun u u1 u2 u3 => (hQ u u1 u2).mp u3)
            exact sett _ _ _ rfl hR.up z1 z2 (fun q q1 q2 => by rw [bf_u_ne q2, bf_u_ne q1])
          · have t0 : 0 < A (bw_t (bn_wr N w)) := by omega
            have bt := ta.2 t0
            have bBt := bB _ t0
            have m1 : A (bw_f (bn_wr N w)) * bw_p (bn_wr N w) * B (bw_t (bn_wr N w)) ≤ 2985984 * 4 * 2985984 := Nat.mul_le_mul (Nat.mul_le_mul bAf p2) bBt
            have m2 : A (bw_t (bn_wr N w)) * bw_k (bn_wr N w) * B (bw_f (bn_wr N w)) ≤ 2985984 * 4 * 2985984 := Nat.mul_le_mul (Nat.mul_le_mul bAt k2) bBf
            simp only [if_neg e1, if_neg e2, bf, bt, lN_mul, lg_cmp_eq, pk_lEQ (show A (bw_f (bn_wr N w)) * bw_p (bn_wr N w) * B (bw_t (bn_wr N w)) < 2 ^ 63 by omega) (show A (bw_t (bn_wr N w)) * bw_k (bn_wr N w) * B (bw_f (bn_wr N w)) < 2 ^ 63 by omega)]
            by_cases hc : sp_c N A B w
            · rw [if_pos hc]
              exact cont rfl (fun _ => Or.inr ⟨f0, t0, hc⟩)
            · rw [if_neg hc]
              exact ⟨L, fun _ _ _ => rfl, Or.inl ⟨sp_no hok hI hQ w8 hh f0 t0 hc, rfl⟩⟩
      · rw [if_neg hh, if_pos rfl, bp_p1]
        exact cont rfl (fun z => absurd z hh)
theorem ml_sp2 {o r : Nat} {N : bn_N} {Q : Nat → Prop} {A0 B0 : Nat → Nat} (hok : bn_ok N) (hN : bm_N (I (o + 1)) N) (hQ : sp_Q N Q) (hr6 : r < 6) (K : (Nat → Nat → Int32) → (Nat → Nat → Int64) → Option (Int32 × bf_St)) : ∀ (n : Nat) (A B : Nat → Nat) (L : Nat → Nat → Int64), 8 ≤ n + sp_n A → sp_R L o A B → sp_I N r Q A0 B0 A B → ∃ L1, (∀ q, q ≠ o + 6 → q ≠ o + 7 → L1 q = L q) ∧ (((¬ ∃ t, tm_ev N t) ∧ f_X12_spreads_2 o K n 1 I L = some (0, I, L1)) ∨ ∃ A1 B1, f_X12_spreads_2 o K n 1 I L = K I L1 ∧ sp_R L1 o A1 B1 ∧ sp_I N r Q A0 B0 A1 B1 ∧ ∀ u, u < bn_nw N → bw_h (bn_wr N u) = true → sp_fine N A1 B1 u)
  | 0, A, B, L, h1, hR, hI => by
    have := sp_n6 A
    omega
  | n + 1, A, B, L, h1, hR, hI => by
    have o2 := hok.2.1
    have n6 := sp_n6 A
    rw [f_X12_spreads_2, if_neg bp_10]
    obtain ⟨L1, g1, g2⟩ := ml_sp10 hok hN hQ hr6 (fun k1_90 I90 L90 => (f_X12_spreads_2 o K n k1_90 I90 L90)) 400 0 0 A B L (by omega) (by omega) hR hI
    rw [show nI 0 = (0 : Int32) from rfl] at g2
    rcases g2 with g2 | ⟨v1, A1, B1, g2, g3, g4, g5⟩
    · exact ⟨L1, g1, Or.inl g2⟩
    · rw [g2]
      rcases g5 with ⟨rfl, rfl, rfl, z⟩ | ⟨rfl, z⟩
      · obtain ⟨m, rfl⟩ : ∃ m, n = m + 1 := ⟨n - 1, by omega⟩
        refine ⟨L1, g1, Or.inr ⟨A1, B1, ?_, g3, g4, fun u u1 u2 => z u (by omega) u1 u2⟩⟩
        show f_X12_spreads_2 o K (m + 1) 0 I L1 = _
        rw [f_X12_spreads_2, if_pos rfl]
      · obtain ⟨L2, k1, k2⟩ := ml_sp2 hok hN hQ hr6 K n A1 B1 L1 (by omega) g3 g4
        exact ⟨L2, fun q q1 q2 => (k1 q q1 q2).trans (g1 q q1 q2), k2⟩
theorem ml_spreads {L : Nat → Nat → Int64} {o r : Nat} {N : bn_N} {Q : Nat → Prop} {A0 B0 A B : Nat → Nat} (hok : bn_ok N) (hN : bm_N (I (o + 1)) N) (hQ : sp_Q N Q) (hr6 : r < 6) (hR : sp_R L o A B) (hI : sp_I N r Q A0 B0 A B) : ∃ L1, (∀ q, q ≠ o + 6 → q ≠ o + 7 → L1 q = L q) ∧ (((¬ ∃ t, tm_ev N t) ∧ f_X12_spreads o I L = some (0, I, L1)) ∨ ∃ A1 B1, f_X12_spreads o I L = some (1, I, L1) ∧ sp_R L1 o A1 B1 ∧ sp_I N r Q A0 B0 A1 B1 ∧ ∀ u, u < bn_nw N → bw_h (bn_wr N u) = true → sp_fine N A1 B1 u) := by
  unfold f_X12_spreads
  exact ml_sp2 hok hN hQ hr6 _ 400 A B L (by omega) hR hI
end TM5
section TM6
variable {L : Nat → Nat → Int64}
theorem ml_wh5 {I : Nat → Nat → Int32} {o lot : Nat} {B : Nat → Nat} (hlot : lot < 64) (hB : ∀ b, lot.testBit b = true → L (o + 7) b = lN (B b) ∧ 0 < B b ∧ B b ∣ 12 ^ 6) (K : Int64 → (Nat → Nat → Int32) → (Nat → Nat → Int64) → Option (Int32 × bf_St)) : ∀ (n j : Nat), j ≤ 6 → 6 < j + n → f_X12_isWhole_5 o (nI lot) K n (lN (wh_a lot B j)) (nI j) I L = K (lN (wh_a lot B 6)) I L
  | 0, j, h1, h2 => by omega
  | n + 1, j, h1, h2 => by
    rw [f_X12_isWhole_5]
    by_cases h6 : j = 6
    · subst h6
      rw [if_pos (by decide)]
    · rw [if_neg (show ¬ (6 : Int32) ≤ nI j from nI_ge (b := 6) (by omega) (by omega)), bp_p1]
      simp only [sb_t hlot (show j < 6 by omega)]
      have ih := ml_wh5 (I := I) hlot hB K n (j + 1) (by omega) (by omega)
      rw [wh_as] at ih
      have aI := wh_aI (lot := lot) (M := 12 ^ 6) (B := B) (fun b hb => (hB b hb).2.2) j
      have al : wh_a lot B j ≤ 2985984 := sp_le aI.1 (Nat.le_refl _)
      by_cases e : lot.testBit j = true
      · obtain ⟨b1, b2, b3⟩ := hB j e
        have bl : B j ≤ 2985984 := sp_le b3 (Nat.le_refl _)
        have g0 : 0 < Nat.gcd (wh_a lot B j) (B j) := Nat.gcd_pos_of_pos_right _ b2
        have gl : Nat.gcd (wh_a lot B j) (B j) ≤ B j := Nat.le_of_dvd b2 (Nat.gcd_dvd_right _ _)
        rw [if_pos e]
        simp only [if_pos (bp_ok (show j < 6 by omega) (show 6 ≤ 100000 by omega)), bp_cl (show j < 100000 by omega), b1]
        rw [ml_gcd (by omega) (by omega)]
        simp only [Option.bind_some]
        rw [if_neg (lg_n0 g0 (by omega)), b1, pk_lDiv (by omega) g0 (by omega), lN_mul]
        rw [show wh_f lot B j (wh_a lot B j) = wh_a lot B j / Nat.gcd (wh_a lot B j) (B j) * B j from if_pos e] at ih
        exact ih
      · rw [if_neg e]
        rw [show wh_f lot B j (wh_a lot B j) = wh_a lot B j from if_neg e] at ih
        exact ih
theorem wh_gl {lot M : Nat} {m : Nat → Nat} (hM : ∀ b, lot.testBit b = true → 0 < m b ∧ m b ≤ M) : ∀ j, wh_g lot m j ≤ M
  | 0 => Nat.zero_le _
  | j + 1 => by
    rw [wh_gs]
    by_cases q : lot.testBit j = true
    · rw [show wh_h lot m j (wh_g lot m j) = Nat.gcd (m j) (wh_g lot m j) from if_pos q]
      exact Nat.le_trans (Nat.le_of_dvd (hM j q).1 (Nat.gcd_dvd_left _ _)) (hM j q).2
    · rw [show wh_h lot m j (wh_g lot m j) = wh_g lot m j from if_neg q]
      exact wh_gl hM j
theorem ml_wh60 {I : Nat → Nat → Int32} {o lot a : Nat} {A B : Nat → Nat} (hlot : lot < 64) (ha : a ≤ 2985984) (hB : ∀ b, lot.testBit b = true → L (o + 7) b = lN (B b) ∧ 0 < B b ∧ B b ≤ 2985984 ∧ L (o + 6) b = lN (A b) ∧ 0 < wh_m a A B b ∧ wh_m a A B b ≤ 8916100448256) (K : Int64 → (Nat → Nat → Int32) → (Nat → Nat → Int64) → Option (Int32 × bf_St)) : ∀ (n j : Nat), j ≤ 6 → 6 < j + n → f_X12_isWhole_60 o (nI lot) (lN a) K n (lN (wh_g lot (wh_m a A B) j)) (nI j) I L = K (lN (wh_g lot (wh_m a A B) 6)) I L
  | 0, j, h1, h2 => by omega
  | n + 1, j, h1, h2 => by
    rw [f_X12_isWhole_60]
    by_cases h6 : j = 6
    · subst h6
      rw [if_pos (by decide)]
    · rw [if_neg (show ¬ (6 : Int32) ≤ nI j from nI_ge (b := 6) (by omega) (by omega)), bp_p1]
      simp only [sb_t hlot (show j < 6 by omega)]
      have ih := ml_wh60 (I := I) hlot ha hB K n (j + 1) (by omega) (by omega)
      rw [wh_gs] at ih
      have gl := wh_gl (lot := lot) (m := wh_m a A B) (M := 8916100448256) (fun b hb => (hB b hb).2.2.2.2) j
      by_cases e : lot.testBit j = true
      · obtain ⟨b1, b2, b3, b4, b5, b6⟩ := hB j e
        have b6' : a / B j * A j ≤ 8916100448256 := b6
        rw [if_pos e]
        simp only [if_pos (bp_ok (show j < 6 by omega) (show 6 ≤ 100000 by omega)), bp_cl (show j < 100000 by omega), b1, b4, if_neg (lg_n0 b2 (show B j < 2 ^ 63 by omega))]
        rw [pk_lDiv (by omega) b2 (by omega), lN_mul, ml_gcd (a := a / B j * A j) (by omega) (by omega)]
        simp only [Option.bind_some]
        rw [show wh_h lot (wh_m a A B) j (wh_g lot (wh_m a A B) j) = Nat.gcd (wh_m a A B j) (wh_g lot (wh_m a A B) j) from if_pos e] at ih
        exact ih
      · rw [if_neg e]
        rw [show wh_h lot (wh_m a A B) j (wh_g lot (wh_m a A B) j) = wh_g lot (wh_m a A B) j from if_neg e] at ih
        exact ih
theorem ml_min61 {x : Nat} (h : x ≤ 60) : (bf_minL (lN x) 61).toInt32 = nI x := by
  unfold bf_minL
  rw [if_neg (show ¬ (61 : Int64) < lN x from fun z => by
    rw [show (61 : Int64) = lN 61 from rfl, pk_lLT (by omega) (by omega)] at z
    omega), lN_i]
theorem ml_wh118 {o lot a g : Nat} {A B : Nat → Nat} (hlot : lot < 64) (ha : a ≤ 2985984) (hg : 0 < g) (hg2 : g ≤ 8916100448256) (hB : ∀ b, lot.testBit b = true → L (o + 7) b = lN (B b) ∧ 0 < B b ∧ B b ≤ 2985984 ∧ L (o + 6) b = lN (A b) ∧ 0 < wh_m a A B b ∧ wh_m a A B b ≤ 8916100448256) (K : Int32 → (Nat → Nat → Int32) → (Nat → Nat → Int64) → Option (Int32 × bf_St)) : ∀ (n j : Nat) (v : Int32) (I : Nat → Nat → Int32), j ≤ 6 → 6 < j + n → (v = 0 ∨ v = 1) → ∃ v1 I1, f_X12_isWhole_118 o (nI lot) (lN a) (lN g) K n v (nI j) I L = K v1 I1 L ∧ (v1 = 0 ∨ v1 = 1) ∧ (v1 = 1 ↔ (v = 1 ∧ ∀ c, j ≤ c → c < 6 → lot.testBit c = true → wh_m a A B c / g ≤ 60)) ∧ (∀ c, j ≤ c → c < 6 → lot.testBit c = true → wh_m a A B c / g ≤ 60 → I1 (o + 8) c = nI (wh_m a A B c / g)) ∧ (∀ c, c < j ∨ ¬ lot.testBit c = true → I1 (o + 8) c = I (o + 8) c) ∧ ∀ q, q ≠ o + 8 → I1 q = I q
  | 0, j, v, I, h1, h2, hv => by omega
  | n + 1, j, v, I, h1, h2, hv => by
    rw [f_X12_isWhole_118]
    by_cases h6 : j = 6
    · subst h6
      rw [if_pos (by decide)]
      exact ⟨v, I, rfl, hv, ⟨fun z => ⟨z, fun c c1 c2 => by omega⟩, fun z => z.1⟩, fun c c1 c2 => by omega, fun _ _ => rfl, fun _ _ => rfl⟩
    · rw [if_neg (show ¬ (6 : Int32) ≤ nI j from nI_ge (b := 6) (by omega) (by omega)), bp_p1]
      simp only [sb_t hlot (show j < 6 by omega)]
      by_cases e : lot.testBit j = true
      · obtain ⟨b1, b2, b3, b4, b5, b6⟩ := hB j e
        obtain ⟨x, hx⟩ : ∃ x, x = wh_m a A B j / g := ⟨_, rfl⟩
        have xl : x ≤ 8916100448256 := by rw [hx]; exact Nat.le_trans (Nat.div_le_self _ _) b6
        have eq1 : lN a / lN (B j) * lN (A j) / lN g = lN x := by
          rw [pk_lDiv (by omega) b2 (by omega), lN_mul, pk_lDiv (a := a / B j * A j) (by have : a / B j * A j ≤ 8916100448256 := b6
                                                                                         omega) hg (by omega), hx]
        have go : ∀ v2 : Int32, (v2 = 0 ∨ v2 = 1) → (v2 = 1 ↔ (v = 1 ∧ x ≤ 60)) → ∃ v1 I1, f_X12_isWhole_118 o (nI lot) (lN a) (lN g) K n v2 (nI (j + 1)) (bf_u I (o + 8) j (bf_minL (lN x) 61).toInt32) L = K v1 I1 L ∧ (v1 = 0 ∨ v1 = 1) ∧ (v1 = 1 ↔ (v = 1 ∧ ∀ c, j ≤ c → c < 6 → lot.testBit c = true → wh_m a A B c / g ≤ 60)) ∧ (∀ c, j ≤ c → c < 6 → lot.testBit c = true → wh_m a A B c / g ≤ 60 → I1 (o + 8) c = nI (wh_m a A B c / g)) ∧ (∀ c, c < j ∨ ¬ lot.testBit c = true → I1 (o + 8) c = I (o + 8) c) ∧ ∀ q, q ≠ o + 8 → I1 q = I q := fun v2 h01 hv2 => by
          obtain ⟨v1, I1, g1, g2, g3, g4, g5, g6⟩ := ml_wh118 hlot ha hg hg2 hB K n (j + 1) v2 (bf_u I (o + 8) j (bf_minL (lN x) 61).toInt32) (by omega) (by omega) h01
          refine ⟨v1, I1, g1, g2, ⟨fun z => ?_, fun z => ?_⟩, fun c c1 c2 c3 c4 => ?_, fun c hc => ?_, fun q q1 => by rw [g6 q q1, bf_u_ne q1]⟩
          · obtain ⟨z1, z2⟩ := g3.mp z
            obtain ⟨z3, z4⟩ := hv2.mp z1
            refine ⟨z3, fun c c1 c2 c3 => ?_⟩
            by_cases q : c = j
            · subst q; rw [← hx]; exact z4
            · exact z2 c (by omega) c2 c3
          · refine g3.mpr ⟨hv2.mpr ⟨z.1, by rw [hx]; exact z.2 j (by omega) (by omega) e⟩, fun c c1 c2 c3 => z.2 c (by omega) c2 c3⟩
          · by_cases q : c = j
            · subst q
              rw [g5 c (Or.inl (by omega)), bf_u_at, ← hx]
              rw [← hx] at c4
              exact ml_min61 c4
            · exact g4 c (by omega) c2 c3 c4
          · have cj : c ≠ j := fun z => by
              subst z
              rcases hc with y | y
              · omega
              · exact y e
            rw [g5 c (by rcases hc with y | y
                         · exact Or.inl (by omega)
                         · exact Or.inr y), bf_u_ni cj]
        rw [if_pos e]
        simp only [if_pos (bp_ok (show j < 6 by omega) (show 6 ≤ 100000 by omega)), bp_cl (show j < 100000 by omega), b1, b4, if_neg (lg_n0 b2 (show B j < 2 ^ 63 by omega)), if_neg (lg_n0 hg (show g < 2 ^ 63 by omega)), eq1]
        rcases hv with rfl | rfl
        · rw [if_pos rfl]
          exact go 0 (Or.inl rfl) ⟨fun z => absurd z (by decide), fun z => absurd z.1 (by decide)⟩
        · rw [if_neg bp_10]
          by_cases x60 : x ≤ 60
          · rw [if_neg (fun z => by
              rw [lg_cmp_gt, show (60 : Int64) = lN 60 from rfl, pk_lLT (by omega) (by omega)] at z
              omega)]
            exact go 1 (Or.inr rfl) ⟨fun _ => ⟨rfl, x60⟩, fun _ => rfl⟩
          · rw [if_pos (by
              rw [lg_cmp_gt, show (60 : Int64) = lN 60 from rfl, pk_lLT (by omega) (by omega)]
              omega)]
            exact go 0 (Or.inl rfl) ⟨fun z => absurd z (by decide), fun z => absurd z.2 x60⟩
      · rw [if_neg e]
        obtain ⟨v1, I1, g1, g2, g3, g4, g5, g6⟩ := ml_wh118 hlot ha hg hg2 hB K n (j + 1) v I (by omega) (by omega) hv
        refine ⟨v1, I1, g1, g2, ⟨fun z => ⟨(g3.mp z).1, fun c c1 c2 c3 => ?_⟩, fun z => g3.mpr ⟨z.1, fun c c1 c2 c3 => z.2 c (by omega) c2 c3⟩⟩, fun c c1 c2 c3 c4 => ?_, fun c hc => ?_, g6⟩
        · by_cases q : c = j
          · subst q; exact absurd c3 e
          · exact (g3.mp z).2 c (by omega) c2 c3
        · by_cases q : c = j
          · subst q; exact absurd c3 e
          · exact g4 c (by omega) c2 c3 c4
        · rcases hc with y | y
          · exact g5 c (Or.inl (by omega))
          · exact g5 c (Or.inr y)
end TM6
