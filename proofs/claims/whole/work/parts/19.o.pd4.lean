/-! the reference's PERIOD -/
theorem pd_oN2 {N : bn_N} {l : Nat → Nat} (h : pd_nx N l = none) : ∀ m, pd_o m N l = []
  | 0 => rfl
  | _ + 1 => pd_oN h
section PD4
variable {L : Nat → Nat → Int64}
theorem ml_starts2 {o : Nat} {N : bn_N} {t : Nat → Nat} (hok : bn_ok N) (hz : pd_z N t) (K : (Nat → Nat → Int32) → (Nat → Nat → Int64) → Option bf_St) : ∀ (n j : Nat) (I : Nat → Nat → Int32), j ≤ 6 → 6 < j + n → bm_N (I (o + 1)) N → (∀ c, c < bn_nb N → I (o + 8) c = nI (t c)) → (∀ b, b < j → I (o + 9) b = nI (t b)) → ∃ I1, f_X12_starts_2 o K n (nI j) I L = K I1 L ∧ (∀ b, b < 6 → I1 (o + 9) b = nI (t b)) ∧ ∀ q, q ≠ o + 9 → I1 q = I q
  | 0, j, I, h1, h2, hN, ht, hl => by omega
  | n + 1, j, I, h1, h2, hN, ht, hl => by
    have o1 := hok.1
    rw [f_X12_starts_2]
    by_cases h6 : j = 6
    · subst h6
      rw [if_pos (by decide)]
      exact ⟨I, rfl, hl, fun _ _ => rfl⟩
    · have go : ∀ z : Int32, z = nI (t j) → ∃ I1, f_X12_starts_2 o K n (nI (j + 1)) (bf_u I (o + 9) j z) L = K I1 L ∧ (∀ b, b < 6 → I1 (o + 9) b = nI (t b)) ∧ ∀ q, q ≠ o + 9 → I1 q = I q := fun z hzz => by
        obtain ⟨I1, g1, g2, g3⟩ := ml_starts2 (o := o) hok hz K n (j + 1) (bf_u I (o + 9) j z) (by omega) (by omega) (by rw [bf_u_ne (by omega)]; exact hN) (fun c hc => by rw [bf_u_ne (by omega)]; exact ht c hc) (fun b hb => by
          by_cases e : b = j
          · subst e; rw [bf_u_at]; exact hzz
          · rw [bf_u_ni e]; exact hl b (by omega))
        exact ⟨I1, g1, g2, fun q hq => by rw [g3 q hq, bf_u_ne hq]⟩
      rw [if_neg (show ¬ (6 : Int32) ≤ nI j from nI_ge (b := 6) (by omega) (by omega)), bp_0, hN.1, bp_p1]
      simp only [if_pos (bp_ok (show j < 6 by omega) (show 6 ≤ 100000 by omega)), bp_cl (show j < 100000 by omega)]
      by_cases e : j < bn_nb N
      · rw [if_neg (nI_ge e (by omega))]
        exact go _ (ht j e)
      · rw [if_pos (nI_le (by omega) (by omega))]
        exact go 0 (by rw [hz j (by omega)]; rfl)
theorem ml_starts {I : Nat → Nat → Int32} {o : Nat} {N : bn_N} {t : Nat → Nat} (hok : bn_ok N) (hz : pd_z N t) (hN : bm_N (I (o + 1)) N) (ht : ∀ c, c < bn_nb N → I (o + 8) c = nI (t c)) : ∃ I1, f_X12_starts o I L = some (I1, L) ∧ (∀ b, b < 6 → I1 (o + 9) b = nI (t b)) ∧ ∀ q, q ≠ o + 9 → I1 q = I q := by
  unfold f_X12_starts
  exact ml_starts2 hok hz _ 400 0 I (by omega) (by omega) hN ht (fun b hb => absurd hb (by omega))
theorem ml_next2 {I : Nat → Nat → Int32} {o : Nat} {N : bn_N} {l : Nat → Nat} (hok : bn_ok N) (hz : pd_z N l) (hN : bm_N (I (o + 1)) N) (hl : ∀ b, b < 6 → I (o + 9) b = nI (l b) ∧ l b ≤ 60) : ∀ (n j : Nat), j ≤ bn_nb N → bn_nb N < j + n → f_X12_nextOne_2 o (fun I7 L7 => (some ((-1 : Int32), I7, L7))) n (nI j) I L = some (pd_v (pd_f N l (6 - j) j), I, L)
  | 0, j, h1, h2 => by omega
  | n + 1, j, h1, h2 => by
    have o1 := hok.1
    rw [f_X12_nextOne_2, bp_0, hN.1]
    by_cases h6 : j = bn_nb N
    · rw [if_pos (nI_le (by omega) (by omega)), pd_f0 (6 - j) j (fun c c1 c2 => hz c (by omega))]
      rfl
    · have hj := hl j (by omega)
      have ih := ml_next2 hok hz hN hl n (j + 1) (by omega) (by omega)
      rw [if_neg (nI_ge (by omega) (by omega)), if_pos (bp_ok (by omega) (by omega)), bp_cl (by omega), hj.1, bp_p1, show 6 - j = (6 - (j + 1)) + 1 by omega]
      by_cases e : l j = 0
      · rw [if_pos (by rw [e]; decide), ih]
        rw [show pd_f N l (6 - (j + 1) + 1) j = pd_f N l (6 - (j + 1)) (j + 1) from if_neg (fun z => by omega)]
      · rw [if_neg (nI_nle (by omega) (by omega)), ml_canFire hok hN (by omega)]
        simp only [Option.bind_some]
        by_cases c : bn_can N j
        · rw [if_pos c, if_neg bp_10]
          rw [show pd_f N l (6 - (j + 1) + 1) j = some j from if_pos ⟨by omega, c⟩]
          rfl
        · rw [if_neg c, if_pos rfl, ih]
          rw [show pd_f N l (6 - (j + 1) + 1) j = pd_f N l (6 - (j + 1)) (j + 1) from if_neg (fun z => c z.2)]
theorem ml_next {I : Nat → Nat → Int32} {o : Nat} {N : bn_N} {l : Nat → Nat} (hok : bn_ok N) (hz : pd_z N l) (hN : bm_N (I (o + 1)) N) (hl : ∀ b, b < 6 → I (o + 9) b = nI (l b) ∧ l b ≤ 60) : f_X12_nextOne o I L = some (pd_v (pd_nx N l), I, L) := by
  have o1 := hok.1
  unfold f_X12_nextOne
  exact ml_next2 hok hz hN hl 400 0 (by omega) (by omega)
theorem ml_held2 {o : Nat} {N : bn_N} {H : Nat → Nat} (hok : bn_ok N) (hH : ∀ w, w < 8 → H w ≤ 99) (hH0 : ∀ w, ¬ bw_h (bn_wr N w) = true → H w = 0) (K : (Nat → Nat → Int32) → (Nat → Nat → Int64) → Option bf_St) : ∀ (n j : Nat) (I : Nat → Nat → Int32), j ≤ bn_nw N → bn_nw N < j + n → bm_N (I (o + 1)) N → (∀ w, w < 8 → I (o + 10) w = nI (if w < j then max (H w) (bn_q N w) else H w)) → ∃ I1, f_X12_looksAtHeld_2 o K n (nI j) I L = K I1 L ∧ (∀ w, w < 8 → I1 (o + 10) w = nI (max (H w) (bn_q N w))) ∧ ∀ q, q ≠ o + 10 → I1 q = I q
  | 0, j, I, h1, h2, hN, hl => by omega
  | n + 1, j, I, h1, h2, hN, hl => by
    have o2 := hok.2.1
    rw [f_X12_looksAtHeld_2, bp_1, hN.2.1]
    by_cases h6 : j = bn_nw N
    · rw [if_pos (nI_le (by omega) (by omega))]
      refine ⟨I, rfl, fun w hw => ?_, fun _ _ => rfl⟩
      rw [hl w hw]
      by_cases e : w < j
      · rw [if_pos e]
      · have hn : ¬ bw_h (bn_wr N w) = true := by rw [hok.2.2.2.2 w (by omega)]; decide
        rw [if_neg e, hH0 w hn, bn_q0 hok hn, Nat.max_self]
    · have go : ∀ z : Int32, z = nI (max (H j) (bn_q N j)) → ∃ I1, f_X12_looksAtHeld_2 o K n (nI (j + 1)) (bf_u I (o + 10) j z) L = K I1 L ∧ (∀ w, w < 8 → I1 (o + 10) w = nI (max (H w) (bn_q N w))) ∧ ∀ q, q ≠ o + 10 → I1 q = I q := fun z hzz => by
        obtain ⟨I1, g1, g2, g3⟩ := ml_held2 (o := o) hok hH hH0 K n (j + 1) (bf_u I (o + 10) j z) (by omega) (by omega) (by rw [bf_u_ne (by omega)]; exact hN) (fun w hw => by
          by_cases e : w = j
          · subst e; rw [bf_u_at, if_pos (by omega)]; exact hzz
          · rw [bf_u_ni e, hl w hw]
            by_cases y : w < j
            · rw [if_pos y, if_pos (by omega)]
            · rw [if_neg y, if_neg (by omega)])
        exact ⟨I1, g1, g2, fun q hq => by rw [g3 q hq, bf_u_ne hq]⟩
      have q99 : bn_q N j ≤ 99 := (hok.2.2.2.1 j).2.1
      have h99 := hH j (by omega)
      have hj := hl j (by omega)
      rw [if_neg (Nat.lt_irrefl _)] at hj
      rw [if_neg (nI_ge (by omega) (by omega)), bp_p1, mm_isWire hok hN (by omega)]
      simp only [Option.bind_some, if_pos (bp_ok (show j < 8 by omega) (show 8 ≤ 100000 by omega)), bp_cl (show j < 100000 by omega)]
      by_cases hh : bw_h (bn_wr N j) = true
      · rw [if_pos hh, if_neg bp_10, me_tokens (by omega), (hN.2.2.2 j (by omega)).2.2.1]
        simp only [Option.bind_some]
        exact go _ (by rw [hj]; exact bp_mx (a := H j) (b := bn_q N j) (by omega) (by omega))
      · rw [if_neg hh, if_pos rfl]
        exact go 0 (by rw [hH0 j hh, bn_q0 hok hh]; rfl)
theorem ml_held {I : Nat → Nat → Int32} {o : Nat} {N : bn_N} {H : Nat → Nat} (hok : bn_ok N) (hH0 : ∀ w, ¬ bw_h (bn_wr N w) = true → H w = 0) (hN : bm_N (I (o + 1)) N) (hl : ∀ w, w < 8 → I (o + 10) w = nI (H w) ∧ H w ≤ 99) : ∃ I1, f_X12_looksAtHeld o I L = some (I1, L) ∧ (∀ w, w < 8 → I1 (o + 10) w = nI (max (H w) (bn_q N w)) ∧ max (H w) (bn_q N w) ≤ 99) ∧ ∀ q, q ≠ o + 10 → I1 q = I q := by
  have o2 := hok.2.1
  unfold f_X12_looksAtHeld
  obtain ⟨I1, g1, g2, g3⟩ := ml_held2 (L := L) hok (fun w hw => (hl w hw).2) hH0 (fun I10 L10 => (some (I10, L10))) 400 0 I (by omega) (by omega) hN (fun w hw => by rw [(hl w hw).1, if_neg (by omega)])
  exact ⟨I1, g1, fun w hw => ⟨g2 w hw, Nat.max_le.mpr ⟨(hl w hw).2, (hok.2.2.2.1 w).2.1⟩⟩, g3⟩
theorem tm_ps (t : Nat → Nat) (j : Nat) : tm_p t (j + 1) = tm_p t j + t j := by
  unfold tm_p
  rw [bfold_sc, Nat.zero_add]
theorem ml_left4 {I : Nat → Nat → Int32} {o : Nat} {l : Nat → Nat} (hl : ∀ b, b < 6 → I (o + 9) b = nI (l b)) (K : Int32 → (Nat → Nat → Int32) → (Nat → Nat → Int64) → Option (Int32 × bf_St)) : ∀ (n j : Nat), j ≤ 6 → 6 < j + n → f_X12_leftAll_4 o K n (nI (tm_p l j)) (nI j) I L = K (nI (tm_p l 6)) I L
  | 0, j, h1, h2 => by omega
  | n + 1, j, h1, h2 => by
    rw [f_X12_leftAll_4]
    by_cases h6 : j = 6
    · subst h6
      rw [if_pos (by decide)]
    · rw [if_neg (show ¬ (6 : Int32) ≤ nI j from nI_ge (b := 6) (by omega) (by omega)), if_pos (bp_ok (by omega) (by omega)), bp_cl (by omega), hl j (by omega), nI_add, bp_p1, ← tm_ps]
      exact ml_left4 hl K n (j + 1) (by omega) (by omega)
theorem ml_leftAll {I : Nat → Nat → Int32} {o : Nat} {l : Nat → Nat} (hl : ∀ b, b < 6 → I (o + 9) b = nI (l b)) : f_X12_leftAll o I L = some (nI (tm_p l 6), I, L) := by
  unfold f_X12_leftAll
  exact ml_left4 hl _ 400 0 (by omega) (by omega)
theorem ml_goes42 {o : Nat} {a : Int32} (K : (Nat → Nat → Int32) → (Nat → Nat → Int64) → Option (Int32 × bf_St)) : ∀ (m n k : Nat) (N : bn_N) (l H : Nat → Nat) (I : Nat → Nat → Int32), tm_p l 6 = m → m < n → k + m ≤ 360 → bn_ok N → bm_N (I (o + 1)) N → pd_z N l → (∀ b, b < 6 → I (o + 9) b = nI (l b) ∧ l b ≤ 60) → (∀ w, w < 8 → I (o + 10) w = nI (H w) ∧ H w ≤ 99) → (∀ w, ¬ bw_h (bn_wr N w) = true → H w = 0) → I o 19 = a → ∃ I1 l1, f_X12_goes_42 o K n (nI k) (pd_v (pd_nx N l)) I L = K I1 L ∧ bm_N (I1 (o + 1)) (pd_fin (pd_o m N l) N) ∧ (∀ b, b < 6 → I1 (o + 9) b = nI (l1 b)) ∧ tm_p l1 6 + (pd_o m N l).length = m ∧ (∀ w, w < 8 → I1 (o + 10) w = nI (pd_H (pd_o m N l) N H w)) ∧ I1 o 20 = pd_a (pd_o m N l) k a (I o 20) ∧ (∀ r, r ≠ o → r ≠ o + 1 → r ≠ o + 9 → r ≠ o + 10 → I1 r = I r) ∧ (∀ p, p < 9 ∨ 13 < p → p ≠ 20 → I1 o p = I o p) ∧ ∀ p, p < 5 ∨ 23 ≤ p ∧ p < 74 → I1 (o + 1) p = I (o + 1) p
  | m, 0, k, N, l, H, I, h1, h2, h3, hok, hN, hz, hl, hH, hH0, ha => by omega
  | m, n + 1, k, N, l, H, I, h1, h2, h3, hok, hN, hz, hl, hH, hH0, ha => by
    rw [f_X12_goes_42]
    cases hn : pd_nx N l with
    | none =>
      rw [if_pos (show pd_v none < (0 : Int32) from by decide), pd_oN2 hn]
      exact ⟨I, l, rfl, hN, fun b hb => (hl b hb).1, by rw [List.length_nil]; exact h1, fun w hw => (hH w hw).1, rfl, fun _ _ _ _ _ => rfl, fun _ _ _ => rfl, fun _ _ => rfl⟩
    | some b =>
      obtain ⟨b6, lb, hcan⟩ := pd_nxS hn
      have hb := hz.nx hn
      have hdl := pd_dS b6 lb
      obtain ⟨m2, rfl⟩ : ∃ m2, m = m2 + 1 := ⟨m - 1, by omega⟩
      have hok2 := bn_fire_ok hok hb hcan
      obtain ⟨I1, g1, g2, g3, g4, g5⟩ := ml_fires (L := L) hok hN hb hcan
      rw [if_neg (show ¬ pd_v (some b) < (0 : Int32) from nI_pos (by omega))]
      show ∃ I1 l1, ((f_X12_fires o (nI b) I L).bind _) = K I1 L ∧ _
      rw [g1, pd_oS hn]
      have e9 : I1 (o + 9) b - 1 = nI (l b - 1) := by
        rw [g3 _ (by omega) (by omega), (hl b b6).1]
        obtain ⟨y, hy⟩ : ∃ y, l b = y + 1 := ⟨l b - 1, by omega⟩
        rw [hy, nI_pred]
        rfl
      have e19 : I1 o 19 = a := by rw [g4 19 (by omega)]; exact ha
      have e20 : I1 o 20 = I o 20 := g4 20 (by omega)
      simp only [Option.bind_some, pd_v, if_pos (bp_ok b6 (show 6 ≤ 100000 by omega)), bp_cl (show b < 100000 by omega), e9]
      rw [bf_u_ne (show o ≠ o + 9 by omega), e19, e20, bp_p1]
      have go : ∀ z : Int32, z = (if nI k = a then nI b else I o 20) → ∃ I2 l1, ((f_X12_looksAtHeld o (bf_u (bf_u I1 (o + 9) b (nI (l b - 1))) o 20 z) L).bind (fun r21 => ((f_X12_nextOne o r21.1 r21.2).bind (fun r23 => (f_X12_goes_42 o K n (nI (k + 1)) r23.1 r23.2.1 r23.2.2))))) = K I2 L ∧ bm_N (I2 (o + 1)) (pd_fin (b :: pd_o m2 (bn_fire N b) (pd_d l b)) N) ∧ (∀ b, b < 6 → I2 (o + 9) b = nI (l1 b)) ∧ tm_p l1 6 + (b :: pd_o m2 (bn_fire N b) (pd_d l b)).length = m2 + 1 ∧ (∀ w, w < 8 → I2 (o + 10) w = nI (pd_H (b :: pd_o m2 (bn_fire N b) (pd_d l b)) N H w)) ∧ I2 o 20 = pd_a (b :: pd_o m2 (bn_fire N b) (pd_d l b)) k a (I o 20) ∧ (∀ r, r ≠ o → r ≠ o + 1 → r ≠ o + 9 → r ≠ o + 10 → I2 r = I r) ∧ (∀ p, p < 9 ∨ 13 < p → p ≠ 20 → I2 o p = I o p) ∧ ∀ p, p < 5 ∨ 23 ≤ p ∧ p < 74 → I2 (o + 1) p = I (o + 1) p := fun z hzz => by
        obtain ⟨I3, k1, k2, k3⟩ := ml_held (L := L) (I := bf_u (bf_u I1 (o + 9) b (nI (l b - 1))) o 20 z) (o := o) (H := H) hok2 hH0 (by rw [bf_u_ne (by omega), bf_u_ne (by omega)]; exact g2) (fun w hw => by
          rw [bf_u_ne (by omega), bf_u_ne (by omega), g3 _ (by omega) (by omega)]
          exact hH w hw)
        have hN3 : bm_N (I3 (o + 1)) (bn_fire N b) := by rw [k3 _ (by omega), bf_u_ne (by omega), bf_u_ne (by omega)]; exact g2
        have hl3 : ∀ c, c < 6 → I3 (o + 9) c = nI (pd_d l b c) ∧ pd_d l b c ≤ 60 := fun c hc => by
          rw [k3 _ (by omega), bf_u_ne (by omega)]
          by_cases e : c = b
          · subst e
            rw [bf_u_at, pd_do]
            exact ⟨rfl, by have := (hl c hc).2; omega⟩
          · rw [bf_u_ni e, pd_dn e, g3 _ (by omega) (by omega)]
            exact hl c hc
        rw [k1]
        simp only [Option.bind_some]
        rw [ml_next hok2 (hz.d b) hN3 hl3]
        simp only [Option.bind_some]
        obtain ⟨I4, l4, m1, m2', m3, m4, m5, m6, m7, m8, m9⟩ := ml_goes42 (o := o) (a := a) K m2 n (k + 1) (bn_fire N b) (pd_d l b) (fun w => max (H w) (bn_q (bn_fire N b) w)) I3 (by omega) (by omega) (by omega) hok2 hN3 (hz.d b) hl3 k2 (fun w hw => by
          show max (H w) (bn_q (bn_fire N b) w) = 0
          rw [hH0 w hw, bn_q0 hok2 hw, Nat.max_self]) (by rw [k3 _ (by omega), bf_u_ni (by omega), bf_u_ne (by omega)]; exact e19)
        refine ⟨I4, l4, m1, m2', m3, by rw [List.length_cons]; omega, m5, ?_, fun r r0 r1 r9 r10 => ?_, fun p p1 p2 => ?_, fun p hp => ?_⟩
        · rw [m6, k3 o (by omega), bf_u_at, hzz]
          rfl
        · rw [m7 r r0 r1 r9 r10, k3 r r10, bf_u_ne r0, bf_u_ne r9, g3 r r0 r1]
        · rw [m8 p p1 p2, k3 o (by omega), bf_u_ni p2, bf_u_ne (by omega), g4 p p1]
        · rw [m9 p hp, k3 _ (by omega), bf_u_ne (by omega), bf_u_ne (by omega), g5 p hp]
      by_cases e : nI k = a
      · rw [if_pos e]
        exact go _ (if_pos e).symm
      · rw [if_neg e]
        exact go _ (if_neg e).symm
theorem ml_goes12 {o : Nat} (K : (Nat → Nat → Int32) → (Nat → Nat → Int64) → Option (Int32 × bf_St)) : ∀ (n j : Nat) (I : Nat → Nat → Int32), j ≤ 8 → 8 < j + n → (∀ w, w < j → I (o + 10) w = 0) → ∃ I1, f_X12_goes_12 o K n (nI j) I L = K I1 L ∧ (∀ w, w < 8 → I1 (o + 10) w = 0) ∧ ∀ q, q ≠ o + 10 → I1 q = I q
  | 0, j, I, h1, h2, hl => by omega
  | n + 1, j, I, h1, h2, hl => by
    rw [f_X12_goes_12]
    by_cases h6 : j = 8
    · subst h6
      rw [if_pos (by decide)]
      exact ⟨I, rfl, hl, fun _ _ => rfl⟩
    · rw [if_neg (show ¬ (8 : Int32) ≤ nI j from nI_ge (b := 8) (by omega) (by omega)), if_pos (bp_ok (by omega) (by omega)), bp_cl (by omega), bp_p1]
      obtain ⟨I1, g1, g2, g3⟩ := ml_goes12 (o := o) K n (j + 1) (bf_u I (o + 10) j 0) (by omega) (by omega) (fun w hw => by
        by_cases e : w = j
        · subst e; rw [bf_u_at]
        · rw [bf_u_ni e]; exact hl w (by omega))
      exact ⟨I1, g1, g2, fun q hq => by rw [g3 q hq, bf_u_ne hq]⟩
/-- left, held, and what is told -/
theorem ml_goes {I : Nat → Nat → Int32} {o : Nat} {N : bn_N} {t : Nat → Nat} (hok : bn_ok N) (hz : pd_z N t) (h60 : ∀ b, t b ≤ 60) (hs : tm_p t 6 ≤ 360) (hN : bm_N (I (o + 1)) N) (ht : ∀ c, c < bn_nb N → I (o + 8) c = nI (t c)) : ∃ I1, f_X12_goes o I L = some ((if pd_go N t then 1 else 0), I1, L) ∧ bm_N (I1 (o + 1)) (pd_fin (pd_O N t) N) ∧ (∀ w, w < 8 → I1 (o + 10) w = nI (pd_H (pd_O N t) N (bn_q N) w)) ∧ I1 o 20 = pd_a (pd_O N t) 0 (I o 19) (-5) ∧ (∀ r, r ≠ o → r ≠ o + 1 → r ≠ o + 9 → r ≠ o + 10 → I1 r = I r) ∧ (∀ p, p < 9 ∨ 13 < p → p ≠ 20 → I1 o p = I o p) ∧ ∀ p, p < 5 ∨ 23 ≤ p ∧ p < 74 → I1 (o + 1) p = I (o + 1) p := by
  unfold f_X12_goes
  obtain ⟨I1, g1, g2, g3⟩ := ml_starts (L := L) hok hz hN ht
  rw [g1]
  simp only [Option.bind_some]
  obtain ⟨I2, k1, k2, k3⟩ := ml_goes12 (L := L) (o := o) (fun I5 L5 => (f_X12_goes_p31 o I5 L5)) 400 0 (bf_u I1 o 20 (-5)) (by omega) (by omega) (fun w hw => absurd hw (by omega))
  rw [show (0 : Int32) = nI 0 from rfl, k1]
  have hN2 : bm_N (I2 (o + 1)) N := by rw [k3 _ (by omega), bf_u_ne (by omega), g3 _ (by omega)]; exact hN
  unfold f_X12_goes_p31
  obtain ⟨I3, m1, m2, m3⟩ := ml_held (L := L) (I := I2) (o := o) (H := fun _ => 0) hok (fun _ _ => rfl) hN2 (fun w hw => ⟨k2 w hw, by omega⟩)
  have hN3 : bm_N (I3 (o + 1)) N := by rw [m3 _ (by omega)]; exact hN2
  have hl3 : ∀ b, b < 6 → I3 (o + 9) b = nI (t b) ∧ t b ≤ 60 := fun b hb => by
    rw [m3 _ (by omega), k3 _ (by omega), bf_u_ne (by omega)]
    exact ⟨g2 b hb, h60 b⟩
  have eH : (fun w => max ((fun _ => 0) w) (bn_q N w)) = bn_q N := by
    funext w
    exact Nat.max_eq_right (Nat.zero_le _)
  have mq : ∀ w, w < 8 → I3 (o + 10) w = nI (bn_q N w) ∧ bn_q N w ≤ 99 := fun w hw => by
    have := m2 w hw
    rw [show max ((fun _ => 0) w) (bn_q N w) = bn_q N w from Nat.max_eq_right (Nat.zero_le _)] at this
    exact this
  rw [m1]
  simp only [Option.bind_some]
  rw [ml_next hok hz hN3 hl3]
  simp only [Option.bind_some]
  have e19 : I3 o 19 = I o 19 := by rw [m3 _ (by omega), k3 _ (by omega), bf_u_ni (by omega), g3 _ (by omega)]
  have e20 : I3 o 20 = -5 := by rw [m3 _ (by omega), k3 _ (by omega), bf_u_at]
  obtain ⟨I4, l4, n1, n2, n3, n4, n5, n6, n7, n8, n9⟩ := ml_goes42 (L := L) (o := o) (a := I o 19) (fun I24 L24 => ((f_X12_leftAll o I24 L24).bind (fun r26 => (if r26.1 = 0 then (some ((1 : Int32), r26.2.1, r26.2.2)) else (some ((0 : Int32), r26.2.1, r26.2.2)))))) (tm_p t 6) 400 0 N t (bn_q N) I3 rfl (by omega) (by omega) hok hN3 hz hl3 mq (fun w hw => bn_q0 hok hw) e19
  rw [show (0 : Int32) = nI 0 from rfl] at *
  rw [n1, ml_leftAll n3]
  simp only [Option.bind_some]
  refine ⟨I4, ?_, n2, n5, by rw [n6, e20], fun r r0 r1 r9 r10 => ?_, fun p p1 p2 => ?_, fun p hp => ?_⟩
  · by_cases e : pd_go N t
    · have e : (pd_o (tm_p t 6) N t).length = tm_p t 6 := e
      rw [if_pos (show nI (tm_p l4 6) = nI 0 by rw [show tm_p l4 6 = 0 by omega]), if_pos e]
    · have e : ¬ (pd_o (tm_p t 6) N t).length = tm_p t 6 := e
      have : tm_p l4 6 ≤ 360 := by omega
      rw [if_neg (show ¬ nI (tm_p l4 6) = nI 0 from nI_ne0 (by omega) (by omega)), if_neg e]
  · rw [n7 r r0 r1 r9 r10, m3 r r10, k3 r r10, bf_u_ne r0, g3 r r9]
  · rw [n8 p p1 p2, m3 _ (by omega), k3 _ (by omega), bf_u_ni p2, g3 _ (by omega)]
  · rw [n9 p hp, m3 _ (by omega), k3 _ (by omega), bf_u_ne (by omega), g3 _ (by omega)]
end PD4
