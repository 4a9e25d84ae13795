/-! the reference's fractions -/
theorem lo_eq {N : bn_N} (hok : bn_ok N) {r c : Nat} (hr : r < 6) (hc : (lo_L N r).testBit c = true) : lo_L N c = lo_L N r := by
  have c6 : c < 6 := sb_lt6 (lo_Ll hok hr) hc
  refine sb_ext (fun j => ⟨fun h => lo_min hok (P := fun j => (lo_L N r).testBit j = true) (fun w hw hh => lo_cl hok hr w hw hh) hc j h, fun h => ?_⟩)
  have hrc : (lo_L N c).testBit r = true := by
    cases q : (lo_L N c).testBit r with
    | true => rfl
    | false =>
      have := lo_min hok (b := r) (P := fun j => ¬ (lo_L N c).testBit j = true) (fun w hw hh => not_congr (lo_cl hok c6 w hw hh)) (by rw [q]; decide) c hc
      exact absurd (lo_in hok) this
  exact lo_min hok (P := fun j => (lo_L N c).testBit j = true) (fun w hw hh => lo_cl hok c6 w hw hh) hrc j h
def sp_n (A : Nat → Nat) : Nat := tm_sum (fun b => if A b = 0 then 0 else 1)
theorem sp_n6 (A : Nat → Nat) : sp_n A ≤ 6 := by
  have h : ∀ b, (if A b = 0 then 0 else 1) ≤ 1 := fun b => by
    by_cases q : A b = 0
    · rw [if_pos q]; omega
    · rw [if_neg q]; omega
  have h0 := h 0
  have h1 := h 1
  have h2 := h 2
  have h3 := h 3
  have h4 := h 4
  have h5 := h 5
  show (if A 0 = 0 then 0 else 1) + (if A 1 = 0 then 0 else 1) + (if A 2 = 0 then 0 else 1) + (if A 3 = 0 then 0 else 1) + (if A 4 = 0 then 0 else 1) + (if A 5 = 0 then 0 else 1) ≤ 6
  omega
theorem sp_nu {A : Nat → Nat} {c x : Nat} (hc : c < 6) (h0 : A c = 0) (hx : 0 < x) : sp_n (va_up A c x) = sp_n A + 1 := by
  have hx0 : ¬ x = 0 := by omega
  have e : ∀ b, b ≠ c → (if va_up A c x b = 0 then 0 else 1) = (if A b = 0 then 0 else 1) := fun b hb => by rw [vu_n hb]
  have e1 : (if va_up A c x c = 0 then 0 else 1) = 1 := by rw [vu_o, if_neg hx0]
  have e2 : (if A c = 0 then 0 else 1) = 0 := by rw [if_pos h0]
  show (if va_up A c x 0 = 0 then 0 else 1) + (if va_up A c x 1 = 0 then 0 else 1) + (if va_up A c x 2 = 0 then 0 else 1) + (if va_up A c x 3 = 0 then 0 else 1) + (if va_up A c x 4 = 0 then 0 else 1) + (if va_up A c x 5 = 0 then 0 else 1) = (if A 0 = 0 then 0 else 1) + (if A 1 = 0 then 0 else 1) + (if A 2 = 0 then 0 else 1) + (if A 3 = 0 then 0 else 1) + (if A 4 = 0 then 0 else 1) + (if A 5 = 0 then 0 else 1) + 1
  rcases tm_h6 hc with rfl | rfl | rfl | rfl | rfl | rfl
  · rw [e1, e2, e 1 (by omega), e 2 (by omega), e 3 (by omega), e 4 (by omega), e 5 (by omega)]; omega
  · rw [e1, e2, e 0 (by omega), e 2 (by omega), e 3 (by omega), e 4 (by omega), e 5 (by omega)]; omega
  · rw [e1, e2, e 0 (by omega), e 1 (by omega), e 3 (by omega), e 4 (by omega), e 5 (by omega)]; omega
  · rw [e1, e2, e 0 (by omega), e 1 (by omega), e 2 (by omega), e 4 (by omega), e 5 (by omega)]; omega
  · rw [e1, e2, e 0 (by omega), e 1 (by omega), e 2 (by omega), e 3 (by omega), e 5 (by omega)]; omega
  · rw [e1, e2, e 0 (by omega), e 1 (by omega), e 2 (by omega), e 3 (by omega), e 4 (by omega)]
abbrev sp_sol (N : bn_N) (t : Nat → Nat) : Prop := ∀ w, w < 8 → bw_h (bn_wr N w) = true → tm_s N t w
abbrev sp_c (N : bn_N) (A B : Nat → Nat) (w : Nat) : Prop := A (bw_f (bn_wr N w)) * bw_p (bn_wr N w) * B (bw_t (bn_wr N w)) = A (bw_t (bn_wr N w)) * bw_k (bn_wr N w) * B (bw_f (bn_wr N w))
abbrev sp_Q (N : bn_N) (Q : Nat → Prop) : Prop := ∀ w, w < 8 → bw_h (bn_wr N w) = true → (Q (bw_f (bn_wr N w)) ↔ Q (bw_t (bn_wr N w)))
theorem tm_ev.sol {N : bn_N} (hok : bn_ok N) {t : Nat → Nat} (h : tm_ev N t) : sp_sol N t := fun v hv hq => ((h.1 (bw_f (bn_wr N v)) ((hok.2.2.2.1 v).1 hq).1)).2.1 v hv hq (lo_in hok)
/-- root r, what was set before (Q, there as A0, B0) -/
def sp_I (N : bn_N) (r : Nat) (Q : Nat → Prop) (A0 B0 A B : Nat → Nat) : Prop := (∀ b, 0 < A b → b < bn_nb N ∧ 0 < B b ∧ A b ∣ 12 ^ sp_n A ∧ B b ∣ 12 ^ sp_n A) ∧ (∀ b, Q b → 0 < A b ∧ A b = A0 b ∧ B b = B0 b) ∧ (∀ w, w < 8 → bw_h (bn_wr N w) = true → Q (bw_f (bn_wr N w)) → sp_c N A B w) ∧ (∀ b, 0 < A b → ¬ Q b → (lo_L N r).testBit b = true ∧ ∀ t, sp_sol N t → t b * B b = t r * A b) ∧ 0 < A r
theorem sp_12 {x : Nat} (h1 : 1 ≤ x) (h2 : x ≤ 4) : x ∣ 12 := by
  rcases (show x = 1 ∨ x = 2 ∨ x = 3 ∨ x = 4 by omega) with rfl | rfl | rfl | rfl <;> decide
theorem sp_set {N : bn_N} {r x y nu de : Nat} {Q : Nat → Prop} {A0 B0 A B : Nat → Nat} (h : sp_I N r Q A0 B0 A B) (hQ : Q x → Q y) (hy : y < bn_nb N) (hy6 : y < 6) (hl : (lo_L N r).testBit x = true → (lo_L N r).testBit y = true) (ht : ∀ t, sp_sol N t → t y * de = t x * nu) (hx0 : 0 < A x) (hy0 : A y = 0) (n1 : 1 ≤ nu) (n4 : nu ≤ 4) (d1 : 1 ≤ de) (d4 : de ≤ 4) (hQw : ∀ w, w < 8 → bw_h (bn_wr N w) = true → Q (bw_f (bn_wr N w)) → Q (bw_t (bn_wr N w))) : sp_I N r Q A0 B0 (va_up A y (A x * nu / Nat.gcd (A x * nu) (B x * de))) (va_up B y (B x * de / Nat.gcd (A x * nu) (B x * de))) ∧ sp_n A < sp_n (va_up A y (A x * nu / Nat.gcd (A x * nu) (B x * de))) := by
  obtain ⟨h1, h2, h3, h4, h5⟩ := h
  obtain ⟨xb, xB, xA12, xB12⟩ := h1 x hx0
  have nQy : ¬ Q y := fun z => by have := (h2 y z).1; omega
  have nQx : ¬ Q x := fun z => nQy (hQ z)
  have p0 : 0 < A x * nu := Nat.mul_pos hx0 n1
  have q0 : 0 < B x * de := Nat.mul_pos xB d1
  obtain ⟨g, hg⟩ : ∃ g, g = Nat.gcd (A x * nu) (B x * de) := ⟨_, rfl⟩
  rw [← hg]
  have g0 : 0 < g := by rw [hg]; exact Nat.gcd_pos_of_pos_left _ p0
  have gp : g ∣ A x * nu := by rw [hg]; exact Nat.gcd_dvd_left _ _
  have gq : g ∣ B x * de := by rw [hg]; exact Nat.gcd_dvd_right _ _
  have a0 : 0 < A x * nu / g := Nat.div_pos (Nat.le_of_dvd p0 gp) g0
  have b0 : 0 < B x * de / g := Nat.div_pos (Nat.le_of_dvd q0 gq) g0
  have hn := sp_nu (A := A) hy6 hy0 a0
  have e12 : 12 ^ (sp_n A + 1) = 12 ^ sp_n A * 12 := Nat.pow_succ _ _
  refine ⟨⟨fun b hb => ?_, fun b hb => ?_, fun w hw hh hq => ?_, fun b hb hq => ?_, ?_⟩, by rw [hn]; omega⟩
  · rw [hn, e12]
    by_cases e : b = y
    · subst e
      rw [vu_o, vu_o]
      exact ⟨hy, b0, Nat.dvd_trans (Nat.div_dvd_of_dvd gp) (Nat.mul_dvd_mul xA12 (sp_12 n1 n4)), Nat.dvd_trans (Nat.div_dvd_of_dvd gq) (Nat.mul_dvd_mul xB12 (sp_12 d1 d4))⟩
    · rw [vu_n e] at hb
      rw [vu_n e, vu_n e]
      obtain ⟨z1, z2, z3, z4⟩ := h1 b hb
      exact ⟨z1, z2, Nat.dvd_trans z3 (Nat.dvd_mul_right _ _), Nat.dvd_trans z4 (Nat.dvd_mul_right _ _)⟩
  · have e : b ≠ y := fun z => nQy (by rw [← z]; exact hb)
    rw [vu_n e, vu_n e]
    exact h2 b hb
  · have hq2 := hQw w hw hh hq
    have e1 : bw_f (bn_wr N w) ≠ y := fun z => nQy (by rw [← z]; exact hq)
    have e2 : bw_t (bn_wr N w) ≠ y := fun z => nQy (by rw [← z]; exact hq2)
    show va_up A y _ (bw_f (bn_wr N w)) * _ * va_up B y _ (bw_t (bn_wr N w)) = va_up A y _ (bw_t (bn_wr N w)) * _ * va_up B y _ (bw_f (bn_wr N w))
    rw [vu_n e1, vu_n e2, vu_n e2, vu_n e1]
    exact h3 w hw hh hq
  · by_cases e : b = y
    · subst e
      rw [vu_o, vu_o]
      refine ⟨hl (h4 x hx0 nQx).1, fun t hs => ?_⟩
      have s1 := (h4 x hx0 nQx).2 t hs
      have s2 := ht t hs
      refine Nat.eq_of_mul_eq_mul_left g0 ?_
      calc g * (t b * (B x * de / g)) = t b * (g * (B x * de / g)) := by ac_rfl
        _ = t b * (B x * de) := by rw [Nat.mul_div_cancel' gq]
        _ = (t b * de) * B x := by ac_rfl
        _ = (t x * nu) * B x := by rw [s2]
        _ = (t x * B x) * nu := by ac_rfl
        _ = (t r * A x) * nu := by rw [s1]
        _ = t r * (A x * nu) := by ac_rfl
        _ = t r * (g * (A x * nu / g)) := by rw [Nat.mul_div_cancel' gp]
        _ = g * (t r * (A x * nu / g)) := by ac_rfl
    · rw [vu_n e] at hb
      rw [vu_n e, vu_n e]
      exact h4 b hb hq
  · by_cases e : r = y
    · rw [e, vu_o]; exact a0
    · rw [vu_n e]; exact h5
theorem sp_no {N : bn_N} (hok : bn_ok N) {r w : Nat} {Q : Nat → Prop} {A0 B0 A B : Nat → Nat} (h : sp_I N r Q A0 B0 A B) (hQ : sp_Q N Q) (hw : w < 8) (hh : bw_h (bn_wr N w) = true) (hf : 0 < A (bw_f (bn_wr N w))) (ht : 0 < A (bw_t (bn_wr N w))) (hc : ¬ sp_c N A B w) : ¬ ∃ t, tm_ev N t := by
  rintro ⟨t, hev⟩
  have hs := hev.sol hok
  obtain ⟨h1, h2, h3, h4, h5⟩ := h
  have nQf : ¬ Q (bw_f (bn_wr N w)) := fun z => hc (h3 w hw hh z)
  have nQt : ¬ Q (bw_t (bn_wr N w)) := fun z => nQf ((hQ w hw hh).mpr z)
  have sf := (h4 _ hf nQf).2 t hs
  have st := (h4 _ ht nQt).2 t hs
  have sw := hs w hw hh
  have r1 : 1 ≤ t r := (hev.1 r (h1 r h5).1).1 r (lo_in hok)
  refine hc (Nat.eq_of_mul_eq_mul_left (show 0 < t r by omega) ?_)
  calc t r * (A (bw_f (bn_wr N w)) * bw_p (bn_wr N w) * B (bw_t (bn_wr N w))) = (t r * A (bw_f (bn_wr N w))) * (bw_p (bn_wr N w) * B (bw_t (bn_wr N w))) := by ac_rfl
    _ = (t (bw_f (bn_wr N w)) * B (bw_f (bn_wr N w))) * (bw_p (bn_wr N w) * B (bw_t (bn_wr N w))) := by rw [sf]
    _ = (t (bw_f (bn_wr N w)) * bw_p (bn_wr N w)) * (B (bw_f (bn_wr N w)) * B (bw_t (bn_wr N w))) := by ac_rfl
    _ = (t (bw_t (bn_wr N w)) * bw_k (bn_wr N w)) * (B (bw_f (bn_wr N w)) * B (bw_t (bn_wr N w))) := by rw [sw]
    _ = (t (bw_t (bn_wr N w)) * B (bw_t (bn_wr N w))) * (bw_k (bn_wr N w) * B (bw_f (bn_wr N w))) := by ac_rfl
    _ = (t r * A (bw_t (bn_wr N w))) * (bw_k (bn_wr N w) * B (bw_f (bn_wr N w))) := by rw [st]
    _ = t r * (A (bw_t (bn_wr N w)) * bw_k (bn_wr N w) * B (bw_f (bn_wr N w))) := by ac_rfl
/-! a lot made whole -/
abbrev wh_f (lot : Nat) (B : Nat → Nat) : Nat → Nat → Nat := fun b a => if lot.testBit b = true then a / Nat.gcd a (B b) * B b else a
def wh_a (lot : Nat) (B : Nat → Nat) (j : Nat) : Nat := bfold (wh_f lot B) j 0 1
abbrev wh_m (a : Nat) (A B : Nat → Nat) (c : Nat) : Nat := a / B c * A c
abbrev wh_h (lot : Nat) (m : Nat → Nat) : Nat → Nat → Nat := fun b g => if lot.testBit b = true then Nat.gcd (m b) g else g
def wh_g (lot : Nat) (m : Nat → Nat) (j : Nat) : Nat := bfold (wh_h lot m) j 0 0
theorem wh_lcm (a b : Nat) : a / Nat.gcd a b * b = Nat.lcm a b := by
  rw [Nat.mul_comm, ← Nat.mul_div_assoc _ (Nat.gcd_dvd_left _ _), Nat.mul_comm b a]
  rfl
theorem wh_as (lot : Nat) (B : Nat → Nat) (j : Nat) : wh_a lot B (j + 1) = wh_f lot B j (wh_a lot B j) := by
  unfold wh_a
  rw [bfold_sc, Nat.zero_add]
theorem wh_gs (lot : Nat) (m : Nat → Nat) (j : Nat) : wh_g lot m (j + 1) = wh_h lot m j (wh_g lot m j) := by
  unfold wh_g
  rw [bfold_sc, Nat.zero_add]
theorem wh_aI {lot M : Nat} {B : Nat → Nat} (hM : ∀ b, lot.testBit b = true → B b ∣ M) : ∀ j, wh_a lot B j ∣ M ∧ ∀ b, b < j → lot.testBit b = true → B b ∣ wh_a lot B j
  | 0 => ⟨Nat.one_dvd _, fun b hb => absurd hb (by omega)⟩
  | j + 1 => by
    obtain ⟨i1, i2⟩ := wh_aI hM j
    rw [wh_as]
    by_cases q : lot.testBit j = true
    · rw [show wh_f lot B j (wh_a lot B j) = Nat.lcm (wh_a lot B j) (B j) from (if_pos q).trans (wh_lcm _ _)]
      refine ⟨Nat.lcm_dvd i1 (hM j q), fun b hb hl => ?_⟩
      by_cases e : b = j
      · subst e; exact Nat.dvd_lcm_right _ _
      · exact Nat.dvd_trans (i2 b (by omega) hl) (Nat.dvd_lcm_left _ _)
    · rw [show wh_f lot B j (wh_a lot B j) = wh_a lot B j from if_neg q]
      refine ⟨i1, fun b hb hl => ?_⟩
      by_cases e : b = j
      · subst e; exact absurd hl q
      · exact i2 b (by omega) hl
theorem wh_gI {lot : Nat} {m : Nat → Nat} : ∀ j, (∀ b, b < j → lot.testBit b = true → wh_g lot m j ∣ m b) ∧ ∀ d, (∀ b, b < j → lot.testBit b = true → d ∣ m b) → d ∣ wh_g lot m j
  | 0 => ⟨fun b hb => absurd hb (by omega), fun d _ => Nat.dvd_zero d⟩
  | j + 1 => by
    obtain ⟨i1, i2⟩ := wh_gI (lot := lot) (m := m) j
    rw [wh_gs]
    by_cases q : lot.testBit j = true
    · rw [show wh_h lot m j (wh_g lot m j) = Nat.gcd (m j) (wh_g lot m j) from if_pos q]
      refine ⟨fun b hb hl => ?_, fun d hd => Nat.dvd_gcd (hd j (by omega) q) (i2 d (fun b hb hl => hd b (by omega) hl))⟩
      by_cases e : b = j
      · subst e; exact Nat.gcd_dvd_left _ _
      · exact Nat.dvd_trans (Nat.gcd_dvd_right _ _) (i1 b (by omega) hl)
    · rw [show wh_h lot m j (wh_g lot m j) = wh_g lot m j from if_neg q]
      refine ⟨fun b hb hl => ?_, fun d hd => i2 d (fun b hb hl => hd b (by omega) hl)⟩
      by_cases e : b = j
      · subst e; exact absurd hl q
      · exact i1 b (by omega) hl
theorem wh_sol {N : bn_N} (hok : bn_ok N) {r : Nat} {A B : Nat → Nat} (hr : r < 6) (h : ∀ c, (lo_L N r).testBit c = true → 0 < A c ∧ 0 < B c ∧ B c ∣ 12 ^ 6) (hc : ∀ w, w < 8 → bw_h (bn_wr N w) = true → (lo_L N r).testBit (bw_f (bn_wr N w)) = true → sp_c N A B w) : tm_l N r (fun c => wh_m (wh_a (lo_L N r) B 6) A B c / wh_g (lo_L N r) (wh_m (wh_a (lo_L N r) B 6) A B) 6) := by
  obtain ⟨a, ha⟩ : ∃ a, a = wh_a (lo_L N r) B 6 := ⟨_, rfl⟩
  obtain ⟨g, hg⟩ : ∃ g, g = wh_g (lo_L N r) (wh_m a A B) 6 := ⟨_, rfl⟩
  have lt6 : ∀ c, (lo_L N r).testBit c = true → c < 6 := fun c => sb_lt6 (lo_Ll hok hr)
  have aI := wh_aI (lot := lo_L N r) (M := 12 ^ 6) (B := B) (fun b hb => (h b hb).2.2) 6
  rw [← ha] at aI
  have a0 : 0 < a := Nat.pos_of_dvd_of_pos aI.1 (by decide)
  have gI := wh_gI (lot := lo_L N r) (m := wh_m a A B) 6
  rw [← hg] at gI
  rw [← ha, ← hg]
  have eB : ∀ c, (lo_L N r).testBit c = true → a / B c * B c = a := fun c hl => Nat.div_mul_cancel (aI.2 c (lt6 c hl) hl)
  have m0 : ∀ c, (lo_L N r).testBit c = true → 0 < wh_m a A B c := fun c hl => Nat.mul_pos (Nat.div_pos (Nat.le_of_dvd a0 (aI.2 c (lt6 c hl) hl)) (h c hl).2.1) (h c hl).1
  have gd : ∀ c, (lo_L N r).testBit c = true → g ∣ wh_m a A B c := fun c hl => gI.1 c (lt6 c hl) hl
  have g0 : 0 < g := Nat.pos_of_dvd_of_pos (gd r (lo_in hok)) (m0 r (lo_in hok))
  refine ⟨fun c hl => Nat.div_pos (Nat.le_of_dvd (m0 c hl) (gd c hl)) g0, fun w hw hh hl => ?_, fun d hd => ?_⟩
  · have hl2 := (lo_cl hok hr w hw hh).mp hl
    have e := hc w hw hh hl
    show wh_m a A B (bw_f (bn_wr N w)) / g * bw_p (bn_wr N w) = wh_m a A B (bw_t (bn_wr N w)) / g * bw_k (bn_wr N w)
    refine Nat.eq_of_mul_eq_mul_left g0 ?_
    rw [← Nat.mul_assoc, ← Nat.mul_assoc, Nat.mul_div_cancel' (gd _ hl), Nat.mul_div_cancel' (gd _ hl2)]
    refine Nat.eq_of_mul_eq_mul_left (Nat.mul_pos (h _ hl).2.1 (h _ hl2).2.1) ?_
    calc B (bw_f (bn_wr N w)) * B (bw_t (bn_wr N w)) * (a / B (bw_f (bn_wr N w)) * A (bw_f (bn_wr N w)) * bw_p (bn_wr N w)) = (a / B (bw_f (bn_wr N w)) * B (bw_f (bn_wr N w))) * (A (bw_f (bn_wr N w)) * bw_p (bn_wr N w) * B (bw_t (bn_wr N w))) := by ac_rfl
      _ = (a / B (bw_t (bn_wr N w)) * B (bw_t (bn_wr N w))) * (A (bw_t (bn_wr N w)) * bw_k (bn_wr N w) * B (bw_f (bn_wr N w))) := by rw [eB _ hl, eB _ hl2, e]
      _ = B (bw_f (bn_wr N w)) * B (bw_t (bn_wr N w)) * (a / B (bw_t (bn_wr N w)) * A (bw_t (bn_wr N w)) * bw_k (bn_wr N w)) := by ac_rfl
  · have : d * g ∣ g := gI.2 (d * g) (fun b _ hl => by
      have h1 : d ∣ wh_m a A B b / g := hd b hl
      have h2 := Nat.mul_dvd_mul_right h1 g
      rwa [Nat.div_mul_cancel (gd b hl)] at h2)
    have h3 : d * g ∣ 1 * g := by rw [Nat.one_mul]; exact this
    exact Nat.dvd_one.mp (Nat.dvd_of_mul_dvd_mul_right g0 h3)
