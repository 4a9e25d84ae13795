/-! the class looks at a PERIOD -/
theorem bp_mx {a b : Nat} (ha : a < 100000) (hb : b < 100000) : bf_max (nI a) (nI b) = nI (max a b) := by
  unfold bf_max
  by_cases q : a < b
  · rw [if_pos (nI_lt q (by omega)), Nat.max_eq_right (by omega)]
  · rw [if_neg (nI_nlt (by omega) (by omega)), Nat.max_eq_left (by omega)]
theorem bp_as {q p k r : Nat} (h : r + k = q + p) : nI q + (nI p - nI k) = nI r := by
  rw [Int32.sub_eq_add_neg, ← Int32.add_assoc, nI_add, ← Int32.sub_eq_add_neg, pk_sub (by omega), show q + p - k = r by omega]
section PD2
variable {L : Nat → Nat → Int64}
def pd_v (x : Option Nat) : Int32 := match x with | none => -1 | some b => nI b
theorem cl_first2 {I : Nat → Nat → Int32} {o a : Nat} {N0 N : bn_N} {l : Nat → Nat} (hok0 : bn_ok N0) (hN : bc_N I a N0) (hst : bn_sta N0 N) (hok : bn_ok N) (hq : ∀ w, w < 8 → I (o + 6 + 1) w = nI (bn_q N w)) (hl : ∀ b, b < 6 → I (o + 5) b = nI (l b) ∧ l b ≤ 60) : ∀ (n j : Nat), j ≤ 6 → 6 < j + n → f_X6_firstReady_2 o a (fun I7 L7 => (some ((-1 : Int32), I7, L7))) n (nI j) I L = some (pd_v (pd_f N l (6 - j) j), I, L)
  | 0, j, h1, h2 => by omega
  | n + 1, j, h1, h2 => by
    rw [f_X6_firstReady_2]
    by_cases h6 : j = 6
    · subst h6
      rw [if_pos (by decide)]
      rfl
    · have hj := hl j (by omega)
      have hl99 : ∀ w, bn_q N w ≤ 99 := fun w => (hok.2.2.2.1 w).2.1
      have ih := cl_first2 hok0 hN hst hok hq hl n (j + 1) (by omega) (by omega)
      rw [if_neg (show ¬ (6 : Int32) ≤ nI j from nI_ge (b := 6) (by omega) (by omega)), if_pos (bp_ok (by omega) (by omega)), bp_cl (by omega), hj.1, bp_p1, show 6 - j = (6 - (j + 1)) + 1 by omega]
      by_cases e : l j = 0
      · rw [if_pos (by rw [e]; decide), ih]
        rw [show pd_f N l (6 - (j + 1) + 1) j = pd_f N l (6 - (j + 1)) (j + 1) from if_neg (fun z => by omega)]
      · rw [if_neg (nI_nle (by omega) (by omega)), cl_canFire (N := N0) (q := bn_q N) hok0 hN (fun w hw => ⟨hq w hw, by have := hl99 w; omega⟩) (by omega)]
        simp only [Option.bind_some]
        have hc := hst.can (fun v _ => rfl) j
        by_cases c : bn_can N j
        · rw [if_pos (hc.mpr c), if_neg bp_10]
          rw [show pd_f N l (6 - (j + 1) + 1) j = some j from if_pos ⟨by omega, c⟩]
          rfl
        · rw [if_neg (fun z => c (hc.mp z)), if_pos rfl, ih]
          rw [show pd_f N l (6 - (j + 1) + 1) j = pd_f N l (6 - (j + 1)) (j + 1) from if_neg (fun z => c z.2)]
theorem cl_first {I : Nat → Nat → Int32} {o a : Nat} {N0 N : bn_N} {l : Nat → Nat} (hok0 : bn_ok N0) (hN : bc_N I a N0) (hst : bn_sta N0 N) (hok : bn_ok N) (hq : ∀ w, w < 8 → I (o + 6 + 1) w = nI (bn_q N w)) (hl : ∀ b, b < 6 → I (o + 5) b = nI (l b) ∧ l b ≤ 60) : f_X6_firstReady o a I L = some (pd_v (pd_nx N l), I, L) := by
  unfold f_X6_firstReady
  exact cl_first2 hok0 hN hst hok hq hl 400 0 (by omega) (by omega)
theorem cl_cfire2 {c a b : Nat} {N0 : bn_N} {q q2 : Nat → Nat} (hok0 : bn_ok N0) (hd : a + 25 ≤ c) (hb : b < 6) (hq2 : ∀ v, v < 8 → q2 v + ch_k (bn_wr N0 v) b = q v + ch_p (bn_wr N0 v) b) (K : (Nat → Nat → Int32) → (Nat → Nat → Int64) → Option bf_St) : ∀ (n j : Nat) (I : Nat → Nat → Int32), j ≤ 8 → 8 < j + n → bc_N I a N0 → (∀ w, w < 8 → I (c + 1) w = nI (if w < j then q2 w else q w)) → ∃ I1, f_X2_fireBox_2 c a (nI b) K n (nI j) I L = K I1 L ∧ (∀ w, w < 8 → I1 (c + 1) w = nI (q2 w)) ∧ ∀ r, r ≠ c + 1 → I1 r = I r
  | 0, j, I, h1, h2, hN, hq => by omega
  | n + 1, j, I, h1, h2, hN, hq => by
    rw [f_X2_fireBox_2]
    by_cases h8 : j = 8
    · subst h8
      rw [if_pos (by decide)]
      exact ⟨I, rfl, fun w hw => by rw [hq w hw, if_pos hw], fun _ _ => rfl⟩
    · rw [if_neg (show ¬ (8 : Int32) ≤ nI j from nI_ge (b := 8) (by omega) (by omega)), bp_p1]
      simp only [if_pos (bp_ok (show j < 8 by omega) (show 8 ≤ 100000 by omega)), bp_cl (show j < 100000 by omega)]
      rw [cl_changeBy (hN.2.2.2 j (by omega)) (hok0.2.2.2.1 j) hok0.1 (by omega)]
      simp only [Option.bind_some]
      rw [hq j (by omega), if_neg (Nat.lt_irrefl _), bp_as (hq2 j (by omega))]
      obtain ⟨I1, g1, g2, g3⟩ := cl_cfire2 (c := c) (a := a) hok0 hd hb hq2 K n (j + 1) (bf_u I (c + 1) j (nI (q2 j))) (by omega) (by omega) (hN.cg (fun r r1 r2 => by rw [bf_u_ne (by omega)]) hok0) (fun w hw => by
        by_cases e : w = j
        · subst e
          rw [bf_u_at, if_pos (by omega)]
        · rw [bf_u_ni e, hq w hw]
          by_cases z : w < j
          · rw [if_pos z, if_pos (by omega)]
          · rw [if_neg z, if_neg (by omega)])
      exact ⟨I1, g1, g2, fun r hr => by rw [g3 r hr, bf_u_ne hr]⟩
theorem cl_cfire {I : Nat → Nat → Int32} {c a b : Nat} {N0 : bn_N} {q q2 : Nat → Nat} (hok0 : bn_ok N0) (hd : a + 25 ≤ c) (hb : b < 6) (hq2 : ∀ v, v < 8 → q2 v + ch_k (bn_wr N0 v) b = q v + ch_p (bn_wr N0 v) b) (hN : bc_N I a N0) (hq : ∀ w, w < 8 → I (c + 1) w = nI (q w)) : ∃ I1, f_X2_fireBox c a (nI b) I L = some (I1, L) ∧ (∀ w, w < 8 → I1 (c + 1) w = nI (q2 w)) ∧ ∀ r, r ≠ c + 1 → I1 r = I r := by
  unfold f_X2_fireBox
  exact cl_cfire2 hok0 hd hb hq2 _ 400 0 I (by omega) (by omega) hN (fun w hw => by rw [hq w hw, if_neg (by omega)])
theorem cl_ff41 {o : Nat} {H q : Nat → Nat} (hH : ∀ w, w < 8 → H w ≤ 99 ∧ q w ≤ 99) (K : (Nat → Nat → Int32) → (Nat → Nat → Int64) → Option bf_St) : ∀ (n j : Nat) (I : Nat → Nat → Int32), j ≤ 8 → 8 < j + n → (∀ w, w < 8 → I (o + 6 + 1) w = nI (q w)) → (∀ w, w < 8 → I (o + 3) w = nI (if w < j then max (H w) (q w) else H w)) → ∃ I1, f_X6_followFiring_41 o K n (nI j) I L = K I1 L ∧ (∀ w, w < 8 → I1 (o + 3) w = nI (max (H w) (q w))) ∧ ∀ r, r ≠ o + 3 → I1 r = I r
  | 0, j, I, h1, h2, hq, hI => by omega
  | n + 1, j, I, h1, h2, hq, hI => by
    rw [f_X6_followFiring_41]
    by_cases h8 : j = 8
    · subst h8
      rw [if_pos (by decide)]
      exact ⟨I, rfl, fun w hw => by rw [hI w hw, if_pos hw], fun _ _ => rfl⟩
    · have hj := hH j (by omega)
      rw [if_neg (show ¬ (8 : Int32) ≤ nI j from nI_ge (b := 8) (by omega) (by omega)), if_pos (bp_ok (by omega) (by omega)), if_pos (bp_ok (by omega) (by omega)), if_pos (bp_ok (by omega) (by omega)), bp_cl (by omega), hI j (by omega), if_neg (Nat.lt_irrefl _), hq j (by omega), bp_mx (by omega) (by omega), bp_p1]
      obtain ⟨I1, g1, g2, g3⟩ := cl_ff41 (o := o) hH K n (j + 1) (bf_u I (o + 3) j (nI (max (H j) (q j)))) (by omega) (by omega) (fun w hw => by rw [bf_u_ne (by omega)]; exact hq w hw) (fun w hw => by
        by_cases e : w = j
        · subst e
          rw [bf_u_at, if_pos (by omega)]
        · rw [bf_u_ni e, hI w hw]
          by_cases z : w < j
          · rw [if_pos z, if_pos (by omega)]
          · rw [if_neg z, if_neg (by omega)])
      exact ⟨I1, g1, g2, fun r hr => by rw [g3 r hr, bf_u_ne hr]⟩
/-- the schedule's rows while it looks: counts of N, left l, held H, k fired -/
def sc_R (I : Nat → Nat → Int32) (o : Nat) (N : bn_N) (l H : Nat → Nat) (k : Nat) : Prop := (∀ w, w < 8 → I (o + 6 + 1) w = nI (bn_q N w)) ∧ (∀ b, b < 6 → I (o + 5) b = nI (l b) ∧ l b ≤ 60) ∧ (∀ w, w < 8 → I (o + 3) w = nI (H w) ∧ H w ≤ 99) ∧ I o 5 = nI k
theorem cl_follow {I : Nat → Nat → Int32} {o a b k : Nat} {N0 N : bn_N} {l H : Nat → Nat} (hok0 : bn_ok N0) (hd : a + 25 ≤ o) (hN : bc_N I a N0) (hst : bn_sta N0 N) (hok : bn_ok N) (hR : sc_R I o N l H k) (hb : b < bn_nb N) (hcan : bn_can N b) (hlb : 0 < l b) (hk : k < 360) : ∃ I1, f_X6_followFiring o a (nI b) I L = some (I1, L) ∧ sc_R I1 o (bn_fire N b) (pd_d l b) (fun w => max (H w) (bn_q (bn_fire N b) w)) (k + 1) ∧ I1 (o + 2) k = nI b ∧ (∀ i, i ≠ k → I1 (o + 2) i = I (o + 2) i) ∧ (∀ q, q ≠ o → q ≠ o + 2 → q ≠ o + 3 → q ≠ o + 5 → q ≠ o + 7 → I1 q = I q) ∧ ∀ j, j ≠ 5 → I1 o j = I o j := by
  obtain ⟨r1, r2, r3, r4⟩ := hR
  have o1 := hok.1
  have b6 : b < 6 := by omega
  have hok2 := bn_fire_ok hok hb hcan
  have q2 : ∀ w, bn_q (bn_fire N b) w ≤ 99 := fun w => (hok2.2.2.2.1 w).2.1
  unfold f_X6_followFiring
  rw [if_pos (bp_ok b6 (by omega)), if_pos (bp_ok b6 (by omega)), bp_cl (by omega), (r2 b b6).1, show nI (l b) - 1 = nI (l b - 1) by
    obtain ⟨m, hm⟩ : ∃ m, l b = m + 1 := ⟨l b - 1, by omega⟩
    rw [hm, nI_pred]
    rfl]
  obtain ⟨I1, g1, g2, g3⟩ := cl_cfire (L := L) (c := o + 6) (q := bn_q N) (q2 := bn_q (bn_fire N b)) hok0 (show a + 25 ≤ o + 6 by omega) b6 (fun v hv => by
    obtain ⟨e1, e2⟩ := hst.ch v b
    rw [← e1, ← e2]
    exact (bn_fire_q hok hcan v hv).1) (I := bf_u I (o + 5) b (nI (l b - 1))) (hN.cg (fun q z1 z2 => by rw [bf_u_ne (by omega)]) hok0) (fun w hw => by rw [bf_u_ne (by omega)]; exact r1 w hw)
  rw [g1]
  simp only [Option.bind_some]
  have e5 : I1 o 5 = nI k := by rw [g3 o (by omega), bf_u_ne (by omega)]; exact r4
  rw [e5, if_pos (bp_ok hk (by omega)), bp_cl (by omega), bf_u_ne (by omega), e5, bp_p1]
  obtain ⟨I2, k1, k2, k3⟩ := cl_ff41 (L := L) (o := o) (H := H) (q := bn_q (bn_fire N b)) (fun w hw => ⟨(r3 w hw).2, q2 w⟩) (fun I10 L10 => (some (I10, L10))) 400 0 (bf_u (bf_u I1 (o + 2) k (nI b)) o 5 (nI (k + 1))) (by omega) (by omega) (fun w hw => by
    rw [bf_u_ne (by omega), bf_u_ne (by omega)]
    exact g2 w hw) (fun w hw => by
    rw [bf_u_ne (by omega), bf_u_ne (by omega), g3 _ (by omega), bf_u_ne (by omega), if_neg (by omega)]
    exact (r3 w hw).1)
  refine ⟨I2, k1, ⟨fun w hw => ?_, fun c hc => ?_, fun w hw => ⟨k2 w hw, ?_⟩, ?_⟩, ?_, fun i hi => ?_, fun q a0 a2 a3 a5 a7 => ?_, fun j hj => ?_⟩
  · rw [k3 _ (by omega), bf_u_ne (by omega), bf_u_ne (by omega)]
    exact g2 w hw
  · rw [k3 _ (by omega), bf_u_ne (by omega), bf_u_ne (by omega), g3 _ (by omega)]
    by_cases e : c = b
    · subst e
      rw [bf_u_at, pd_do]
      exact ⟨rfl, by have := (r2 c hc).2; omega⟩
    · rw [bf_u_ni e, pd_dn e]
      exact r2 c hc
  · have := (r3 w hw).2
    have := q2 w
    exact Nat.max_le.mpr ⟨by omega, by omega⟩
  · rw [k3 _ (by omega), bf_u_at]
  · rw [k3 _ (by omega), bf_u_ne (by omega), bf_u_at]
  · rw [k3 _ (by omega), bf_u_ne (by omega), bf_u_ni hi, g3 _ (by omega), bf_u_ne (by omega)]
  · rw [k3 q a3, bf_u_ne a0, bf_u_ne a2, g3 q (by omega), bf_u_ne a5]
  · rw [k3 o (by omega), bf_u_ni hj, bf_u_ne (by omega), g3 o (by omega), bf_u_ne (by omega)]
theorem cl_fp70 {o a : Nat} {N0 : bn_N} (hok0 : bn_ok N0) (hd : a + 25 ≤ o) (K : (Nat → Nat → Int32) → (Nat → Nat → Int64) → Option bf_St) : ∀ (m n k : Nat) (N : bn_N) (l H : Nat → Nat) (I : Nat → Nat → Int32), tm_p l 6 = m → m + 1 < n → k + m ≤ 360 → bc_N I a N0 → bn_sta N0 N → bn_ok N → pd_z N l → sc_R I o N l H k → I o 1 = 0 → I o 2 = nI (k + m) → ∃ I1, f_X6_findPeriod_70 o a K n (nI k) I L = K I1 L ∧ I1 o 1 = (if (pd_o m N l).length = m then 0 else 1) ∧ I1 o 5 = nI (k + (pd_o m N l).length) ∧ (∀ i, i < (pd_o m N l).length → I1 (o + 2) (k + i) = nI ((pd_o m N l).getD i 0)) ∧ (∀ i, i < k → I1 (o + 2) i = I (o + 2) i) ∧ (∀ w, w < 8 → I1 (o + 3) w = nI (pd_H (pd_o m N l) N H w) ∧ pd_H (pd_o m N l) N H w ≤ 99) ∧ (∀ q, q ≠ o → q ≠ o + 2 → q ≠ o + 3 → q ≠ o + 5 → q ≠ o + 7 → I1 q = I q) ∧ ∀ j, j ≠ 1 → j ≠ 5 → I1 o j = I o j
  | m, 0, k, N, l, H, I, h1, h2, h3, hN, hst, hok, hz, hR, h01, h02 => by omega
  | 0, n + 1, k, N, l, H, I, h1, h2, h3, hN, hst, hok, hz, hR, h01, h02 => by
    rw [f_X6_findPeriod_70, h02, if_pos (nI_le (by omega) (by omega))]
    exact ⟨I, rfl, h01.trans (if_pos rfl).symm, hR.2.2.2, fun i hi => absurd hi (by exact Nat.not_lt_zero _), fun _ _ => rfl, hR.2.2.1, fun _ _ _ _ _ _ => rfl, fun _ _ _ => rfl⟩
  | m + 1, n + 1, k, N, l, H, I, h1, h2, h3, hN, hst, hok, hz, hR, h01, h02 => by
    rw [f_X6_findPeriod_70, h02, if_neg (nI_ge (by omega) (by omega)), if_neg (show ¬ (360 : Int32) ≤ nI k from nI_ge (b := 360) (by omega) (by omega)), h01, if_pos rfl, cl_first (l := l) hok0 hN hst hok hR.1 hR.2.1]
    simp only [Option.bind_some]
    cases hn : pd_nx N l with
    | none =>
      show ∃ I1, (if pd_v none = (-1 : Int32) then _ else _) = K I1 L ∧ _
      rw [if_pos (show pd_v none = (-1 : Int32) from rfl), bp_p1, pd_oN hn]
      obtain ⟨n2, rfl⟩ : ∃ n2, n = n2 + 1 := ⟨n - 1, by omega⟩
      refine ⟨bf_u I o 1 1, ?_, ?_, ?_, fun i hi => absurd hi (Nat.not_lt_zero _), fun i hi => by rw [bf_u_ne (by omega)], fun w hw => by rw [bf_u_ne (by omega)]; exact hR.2.2.1 w hw, fun q q0 _ _ _ _ => by rw [bf_u_ne q0], fun j j1 _ => by rw [bf_u_ni j1]⟩
      · rw [f_X6_findPeriod_70]
        by_cases q1 : (bf_u I o 1 1 o 2) ≤ nI (k + 1)
        · rw [if_pos q1]
        · rw [if_neg q1]
          by_cases q2 : (360 : Int32) ≤ nI (k + 1)
          · rw [if_pos q2]
          · rw [if_neg q2, bf_u_at, if_neg bp_10]
      · rw [bf_u_at, if_neg (by rw [List.length_nil]; omega)]
      · rw [bf_u_ni (by omega)]
        exact hR.2.2.2
    | some b =>
      obtain ⟨b6, lb, hcan⟩ := pd_nxS hn
      have hb := hz.nx hn
      rw [if_neg (show ¬ pd_v (some b) = (-1 : Int32) from bp_nm1 (by omega)), pd_oS hn]
      obtain ⟨I1, g1, g2, g3, g4, g5, g6⟩ := cl_follow (L := L) hok0 hd hN hst hok hR hb hcan lb (by omega)
      show ∃ I1, ((f_X6_followFiring o a (nI b) I L).bind _) = K I1 L ∧ _
      rw [g1]
      simp only [Option.bind_some]
      rw [bp_p1]
      have hdl := pd_dS b6 lb
      obtain ⟨I2, k1, k2, k3, k4, k5, k6, k7, k8⟩ := cl_fp70 hok0 hd K m n (k + 1) (bn_fire N b) (pd_d l b) (fun w => max (H w) (bn_q (bn_fire N b) w)) I1 (by omega) (by omega) (by omega) (hN.cg (fun q z1 z2 => g5 q (by omega) (by omega) (by omega) (by omega) (by omega)) hok0) (hst.tr (bn_sta.fi N b)) (bn_fire_ok hok hb hcan) (hz.d b) g2 (by rw [g6 1 (by omega)]; exact h01) (by rw [g6 2 (by omega), h02, show k + 1 + m = k + (m + 1) by omega])
      refine ⟨I2, k1, ?_, ?_, fun i hi => ?_, fun i hi => ?_, k6, fun q q0 q2 q3 q5 q7 => (k7 q q0 q2 q3 q5 q7).trans (g5 q q0 q2 q3 q5 q7), fun j j1 j5 => (k8 j j1 j5).trans (g6 j j5)⟩
      · rw [k2, List.length_cons]
        by_cases e : (pd_o m (bn_fire N b) (pd_d l b)).length = m
        · rw [if_pos e, if_pos (by omega)]
        · rw [if_neg e, if_neg (by omega)]
      · rw [k3, List.length_cons, show k + 1 + (pd_o m (bn_fire N b) (pd_d l b)).length = k + ((pd_o m (bn_fire N b) (pd_d l b)).length + 1) by omega]
      · rw [List.length_cons] at hi
        cases i with
        | zero =>
          show I2 (o + 2) k = nI b
          rw [k5 k (by omega)]
          exact g3
        | succ i =>
          have := k4 i (by omega)
          rw [show k + (i + 1) = k + 1 + i by omega, this]
          rfl
      · rw [k5 i (by omega), g4 i (by omega)]
end PD2
