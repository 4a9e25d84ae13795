/-! the class's lots behind wires 0 .. w: lots, times, how far they grew -/
def lt_I (N : bn_N) (w : Nat) (l t e : Nat → Nat) : Prop := (∀ b, b < 6 → l b < 6) ∧ (∀ b, b < bn_nb N → 1 ≤ t b) ∧ (∀ b, bn_nb N ≤ b → t b = 0) ∧ (∀ v, v < w → bw_h (bn_wr N v) = true → l (bw_f (bn_wr N v)) = l (bw_t (bn_wr N v)) ∧ tm_s N t v) ∧ (∀ b, b < bn_nb N → ∀ d, (∀ c, c < bn_nb N → l c = l b → d ∣ t c) → d = 1) ∧ (∀ P : Nat → Prop, (∀ v, v < w → bw_h (bn_wr N v) = true → (P (bw_f (bn_wr N v)) ↔ P (bw_t (bn_wr N v)))) → ∀ b c, b < bn_nb N → c < bn_nb N → l b = l c → P b → P c) ∧ (∀ b, b < 6 → t b ≤ 4 ^ e (l b)) ∧ tm_sum e ≤ w
def lt_m (A x B y : Nat) : Nat → Nat := fun l => if l = A then x else if l = B then y else 1
def lt_l (l : Nat → Nat) (A B : Nat) : Nat → Nat := fun c => if l c = B then A else l c
abbrev lt_t (t l m : Nat → Nat) : Nat → Nat := fun c => t c * m (l c)
theorem lt_skip {N : bn_N} {w : Nat} {l t e : Nat → Nat} (h : lt_I N w l t e) (hw : bw_h (bn_wr N w) = true → l (bw_f (bn_wr N w)) = l (bw_t (bn_wr N w)) ∧ tm_s N t w) : lt_I N (w + 1) l t e := by
  obtain ⟨h1, h2, h3, h4, h5, h6, h7, h8⟩ := h
  refine ⟨h1, h2, h3, fun v hv hh => ?_, h5, fun P hP => h6 P (fun v hv => hP v (by omega)), h7, by omega⟩
  by_cases q : v = w
  · subst q; exact hw hh
  · exact h4 v (by omega) hh
theorem lt_no {N : bn_N} (hok : bn_ok N) {w : Nat} {l t e : Nat → Nat} (h : lt_I N w l t e) (hw : w < 8) (hh : bw_h (bn_wr N w) = true) (hl : l (bw_f (bn_wr N w)) = l (bw_t (bn_wr N w))) (hn : ¬ tm_s N t w) : ¬ ∃ t', tm_ev N t' := by
  rintro ⟨t', ht⟩
  have o1 := hok.1
  have hs : ∀ v, v < 8 → bw_h (bn_wr N v) = true → tm_s N t' v := fun v hv hq => ((ht.1 (bw_f (bn_wr N v)) ((hok.2.2.2.1 v).1 hq).1)).2.1 v hv hq (lo_in hok)
  obtain ⟨f1, t1, p1, p2, k1, k2⟩ := (hok.2.2.2.1 w).1 hh
  have key := h.2.2.2.2.2.1 (fun c => t' c * t (bw_f (bn_wr N w)) = t c * t' (bw_f (bn_wr N w))) (fun v hv hq => by
    obtain ⟨-, -, q1, q2, q3, q4⟩ := (hok.2.2.2.1 v).1 hq
    have s1 := hs v (by omega) hq
    have s2 := (h.2.2.2.1 v hv hq).2
    constructor
    · exact tm_cross (by omega) s1 s2
    · exact tm_cross (p := bw_k (bn_wr N v)) (k := bw_p (bn_wr N v)) (by omega) s1.symm s2.symm) _ _ f1 t1 hl (Nat.mul_comm _ _)
  refine hn ?_
  have u1 : 1 ≤ t' (bw_t (bn_wr N w)) := (ht.1 _ t1).1 _ (lo_in hok)
  have s1 := hs w hw hh
  refine Nat.eq_of_mul_eq_mul_right (m := t' (bw_t (bn_wr N w))) (by omega) ?_
  calc t (bw_f (bn_wr N w)) * bw_p (bn_wr N w) * t' (bw_t (bn_wr N w)) = (t' (bw_t (bn_wr N w)) * t (bw_f (bn_wr N w))) * bw_p (bn_wr N w) := by ac_rfl
    _ = (t (bw_t (bn_wr N w)) * t' (bw_f (bn_wr N w))) * bw_p (bn_wr N w) := by rw [key]
    _ = t (bw_t (bn_wr N w)) * (t' (bw_f (bn_wr N w)) * bw_p (bn_wr N w)) := by ac_rfl
    _ = t (bw_t (bn_wr N w)) * (t' (bw_t (bn_wr N w)) * bw_k (bn_wr N w)) := by rw [s1]
    _ = t (bw_t (bn_wr N w)) * bw_k (bn_wr N w) * t' (bw_t (bn_wr N w)) := by ac_rfl
theorem lt_mA {A x B y : Nat} : lt_m A x B y A = x := if_pos rfl
theorem lt_mB {A x B y : Nat} (h : A ≠ B) : lt_m A x B y B = y := by
  unfold lt_m
  rw [if_neg (fun z => h z.symm), if_pos rfl]
theorem lt_mo {A x B y c : Nat} (h1 : c ≠ A) (h2 : c ≠ B) : lt_m A x B y c = 1 := by
  unfold lt_m
  rw [if_neg h1, if_neg h2]
theorem lt_join {N : bn_N} (hok : bn_ok N) {w : Nat} {l t e : Nat → Nat} (h : lt_I N w l t e) (hh : bw_h (bn_wr N w) = true) {A B pu ta d : Nat} (hA : A = l (bw_f (bn_wr N w))) (hB : B = l (bw_t (bn_wr N w))) (hne : A ≠ B) (hpu : pu = t (bw_f (bn_wr N w)) * bw_p (bn_wr N w)) (hta : ta = t (bw_t (bn_wr N w)) * bw_k (bn_wr N w)) (hd : d = Nat.gcd pu ta) : lt_I N (w + 1) (lt_l l A B) (lt_t t l (lt_m A (ta / d) B (pu / d))) (tm_ue e A B) := by
  obtain ⟨h1, h2, h3, h4, h5, h6, h7, h8⟩ := h
  have o1 := hok.1
  obtain ⟨f1, t1, p1, p2, k1, k2⟩ := (hok.2.2.2.1 w).1 hh
  have A6 : A < 6 := by rw [hA]; exact h1 _ (by omega)
  have B6 : B < 6 := by rw [hB]; exact h1 _ (by omega)
  have pu0 : 0 < pu := by rw [hpu]; exact Nat.mul_pos (h2 _ f1) p1
  have ta0 : 0 < ta := by rw [hta]; exact Nat.mul_pos (h2 _ t1) k1
  have d0 : 0 < d := by rw [hd]; exact Nat.gcd_pos_of_pos_left _ pu0
  have dp : d ∣ pu := by rw [hd]; exact Nat.gcd_dvd_left _ _
  have dt : d ∣ ta := by rw [hd]; exact Nat.gcd_dvd_right _ _
  have x0 : 0 < ta / d := Nat.div_pos (Nat.le_of_dvd ta0 dt) d0
  have y0 : 0 < pu / d := Nat.div_pos (Nat.le_of_dvd pu0 dp) d0
  have hco : Nat.Coprime (pu / d) (ta / d) := by rw [hd]; exact Nat.coprime_div_gcd_div_gcd (by rw [← hd]; exact d0)
  have exy : pu * (ta / d) = ta * (pu / d) := by
    rw [← Nat.mul_div_assoc _ dt, ← Nat.mul_div_assoc _ dp, Nat.mul_comm]
  have m0 : ∀ c, 0 < lt_m A (ta / d) B (pu / d) c := fun c => by
    unfold lt_m
    by_cases q : c = A
    · rw [if_pos q]; exact x0
    · rw [if_neg q]
      by_cases r : c = B
      · rw [if_pos r]; exact y0
      · rw [if_neg r]; exact Nat.one_pos
  have lA : ∀ c, l c = A → lt_l l A B c = A := fun c q => by
    unfold lt_l
    rw [if_neg (fun z => hne (q.symm.trans z)), q]
  have lB : ∀ c, l c = B → lt_l l A B c = A := fun c q => by
    unfold lt_l
    rw [if_pos q]
  have lo : ∀ c, l c ≠ B → lt_l l A B c = l c := fun c q => by
    unfold lt_l
    rw [if_neg q]
  have eA : tm_ue e A B A = e A + e B + 1 := if_pos rfl
  refine ⟨fun b hb => ?_, fun b hb => Nat.mul_pos (h2 b hb) (m0 _), fun b hb => ?_, fun v hv hv2 => ?_, fun b hb z hz => ?_, fun P hP b c hb hc hbc hPb => ?_, fun b hb => ?_, ?_⟩
  · by_cases q : l b = B
    · rw [lB b q]; exact A6
    · rw [lo b q]; exact h1 b hb
  · show t b * _ = 0
    rw [h3 b hb, Nat.zero_mul]
  · by_cases q : v = w
    · subst q
      refine ⟨by rw [lA _ hA.symm, lB _ hB.symm], ?_⟩
      show t (bw_f (bn_wr N v)) * lt_m A (ta / d) B (pu / d) (l (bw_f (bn_wr N v))) * bw_p (bn_wr N v) = t (bw_t (bn_wr N v)) * lt_m A (ta / d) B (pu / d) (l (bw_t (bn_wr N v))) * bw_k (bn_wr N v)
      rw [← hA, ← hB, lt_mA, lt_mB hne, Nat.mul_right_comm, ← hpu, exy, hta, Nat.mul_right_comm]
    · obtain ⟨q1, q2⟩ := h4 v (by omega) hv2
      refine ⟨by unfold lt_l; rw [q1], ?_⟩
      show t (bw_f (bn_wr N v)) * lt_m A (ta / d) B (pu / d) (l (bw_f (bn_wr N v))) * bw_p (bn_wr N v) = t (bw_t (bn_wr N v)) * lt_m A (ta / d) B (pu / d) (l (bw_t (bn_wr N v))) * bw_k (bn_wr N v)
      rw [q1, Nat.mul_right_comm, q2, Nat.mul_right_comm]
  · by_cases q : l b = A ∨ l b = B
    · have lb : lt_l l A B b = A := q.elim (lA b) (lB b)
      have z1 : z ∣ ta / d := tm_pm (S := fun c => c < bn_nb N ∧ l c = A) (t := t) (fun y hy => h5 _ f1 y (fun c hc hl => hy c ⟨hc, hl.trans hA.symm⟩)) x0 (fun c hc => by
        have := hz c hc.1 (by rw [lA c hc.2, lb])
        rwa [show lt_t t l (lt_m A (ta / d) B (pu / d)) c = t c * (ta / d) by show t c * lt_m A (ta / d) B (pu / d) (l c) = _; rw [hc.2, lt_mA]] at this)
      have z2 : z ∣ pu / d := tm_pm (S := fun c => c < bn_nb N ∧ l c = B) (t := t) (fun y hy => h5 _ t1 y (fun c hc hl => hy c ⟨hc, hl.trans hB.symm⟩)) y0 (fun c hc => by
        have := hz c hc.1 (by rw [lB c hc.2, lb])
        rwa [show lt_t t l (lt_m A (ta / d) B (pu / d)) c = t c * (pu / d) by show t c * lt_m A (ta / d) B (pu / d) (l c) = _; rw [hc.2, lt_mB hne]] at this)
      have := Nat.dvd_gcd z2 z1
      rw [hco] at this
      exact Nat.dvd_one.mp this
    · have qA : l b ≠ A := fun y => q (Or.inl y)
      have qB : l b ≠ B := fun y => q (Or.inr y)
      refine h5 b hb z (fun c hc hl => ?_)
      have := hz c hc (by rw [lo c (by rw [hl]; exact qB), lo b qB, hl])
      rwa [show lt_t t l (lt_m A (ta / d) B (pu / d)) c = t c by show t c * lt_m A (ta / d) B (pu / d) (l c) = _; rw [hl, lt_mo qA qB, Nat.mul_one]] at this
  · have old := h6 P (fun v hv => hP v (by omega))
    have hwP := hP w (by omega) hh
    by_cases q : l b = l c
    · exact old b c hb hc q hPb
    · by_cases b1 : l b = B
      · have c1 : l c = A := by
          rw [lB b b1] at hbc
          by_cases c2 : l c = B
          · exact absurd (b1.trans c2.symm) q
          · rw [lo c c2] at hbc; exact hbc.symm
        exact old _ c f1 hc (hA.symm.trans c1.symm) (hwP.mpr (old b _ hb t1 (b1.trans hB) hPb))
      · rw [lo b b1] at hbc
        by_cases c2 : l c = B
        · rw [lB c c2] at hbc
          exact old _ c t1 hc (hB.symm.trans c2.symm) (hwP.mp (old b _ hb f1 (hbc.trans hA) hPb))
        · rw [lo c c2] at hbc
          exact absurd hbc q
  · have tx : ta / d ≤ 4 ^ e B * 4 := by
      refine Nat.le_trans (Nat.div_le_self _ _) ?_
      rw [hta, hB]
      exact Nat.mul_le_mul (h7 _ (by omega)) k2
    have ty : pu / d ≤ 4 ^ e A * 4 := by
      refine Nat.le_trans (Nat.div_le_self _ _) ?_
      rw [hpu, hA]
      exact Nat.mul_le_mul (h7 _ (by omega)) p2
    have e4 : 4 ^ (e A + e B + 1) = 4 ^ e A * (4 ^ e B * 4) := by rw [Nat.pow_succ, Nat.pow_add, Nat.mul_assoc]
    have e5 : 4 ^ (e A + e B + 1) = 4 ^ e B * (4 ^ e A * 4) := by rw [e4]; ac_rfl
    show t b * lt_m A (ta / d) B (pu / d) (l b) ≤ _
    have hb7 := h7 b hb
    by_cases q : l b = A
    · rw [lA b q, eA, q, lt_mA, e4]
      rw [q] at hb7
      exact Nat.mul_le_mul hb7 tx
    · by_cases r : l b = B
      · rw [lB b r, eA, r, lt_mB hne, e5]
        rw [r] at hb7
        exact Nat.mul_le_mul hb7 ty
      · rw [lo b r, lt_mo q r, Nat.mul_one]
        rw [show tm_ue e A B (l b) = e (l b) by unfold tm_ue; rw [if_neg q, if_neg r]]
        exact hb7
  · rw [tm_sue A6 B6 hne]
    omega
theorem lt_00 {N : bn_N} : lt_I N 0 (fun b => b) (fun b => if b < bn_nb N then 1 else 0) (fun _ => 0) := by
  refine ⟨fun b hb => hb, fun b hb => by
    show 1 ≤ (if b < bn_nb N then 1 else 0)
    rw [if_pos hb]
    omega, fun b hb => if_neg (by omega), fun v hv => absurd hv (by omega), fun b hb d hd => ?_, fun P _ b c _ _ hbc h => by
    have hbc : b = c := hbc
    rw [← hbc]; exact h, fun b hb => ?_, Nat.le_refl 0⟩
  · have := hd b hb rfl
    dsimp only at this
    rw [if_pos hb] at this
    exact Nat.dvd_one.mp this
  · show (if b < bn_nb N then 1 else 0) ≤ 4 ^ 0
    by_cases q : b < bn_nb N
    · rw [if_pos q]; omega
    · rw [if_neg q]; omega
theorem lt_end {N : bn_N} (hok : bn_ok N) {l t e : Nat → Nat} (h : lt_I N 8 l t e) : ∀ b, b < bn_nb N → tm_l N b t := fun b hb => by
  obtain ⟨h1, h2, h3, h4, h5, h6, h7, h8⟩ := h
  have o1 := hok.1
  have inb : ∀ c, (lo_L N b).testBit c = true → c < bn_nb N := lo_min hok (P := fun c => c < bn_nb N) (fun w hw hh => by
    obtain ⟨f1, t1, -⟩ := (hok.2.2.2.1 w).1 hh
    exact ⟨fun _ => t1, fun _ => f1⟩) hb
  refine ⟨fun c hc => h2 c (inb c hc), fun w hw hh _ => (h4 w hw hh).2, fun d hd => h5 b hb d (fun c hc hl => hd c ?_)⟩
  exact h6 (fun c => (lo_L N b).testBit c = true) (fun v hv hh => lo_cl hok (by omega) v hv hh) b c hb hc hl.symm (lo_in hok)
