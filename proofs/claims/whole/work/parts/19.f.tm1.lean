/-! TIMES: numbers by which every wire of a lot is met, the least such -/
theorem tm_cross {a a' b b' p k x y : Nat} (hk : 0 < k) (h1 : a * p = b * k) (h2 : a' * p = b' * k) (h : a * x = a' * y) : b * x = b' * y := by
  refine Nat.eq_of_mul_eq_mul_left hk ?_
  calc k * (b * x) = (b * k) * x := by ac_rfl
    _ = (a * p) * x := by rw [h1]
    _ = p * (a * x) := by ac_rfl
    _ = p * (a' * y) := by rw [h]
    _ = (a' * p) * y := by ac_rfl
    _ = (b' * k) * y := by rw [h2]
    _ = k * (b' * y) := by ac_rfl
abbrev tm_s (N : bn_N) (t : Nat → Nat) (w : Nat) : Prop := t (bw_f (bn_wr N w)) * bw_p (bn_wr N w) = t (bw_t (bn_wr N w)) * bw_k (bn_wr N w)
/-- of one lot -/
def tm_l (N : bn_N) (b : Nat) (t : Nat → Nat) : Prop := (∀ c, (lo_L N b).testBit c = true → 1 ≤ t c) ∧ (∀ w, w < 8 → bw_h (bn_wr N w) = true → (lo_L N b).testBit (bw_f (bn_wr N w)) = true → tm_s N t w) ∧ ∀ d, (∀ c, (lo_L N b).testBit c = true → d ∣ t c) → d = 1
def tm_ev (N : bn_N) (t : Nat → Nat) : Prop := (∀ b, b < bn_nb N → tm_l N b t) ∧ ∀ b, b < bn_nb N → t b ≤ 60
theorem tm_pr {N : bn_N} (hok : bn_ok N) {b : Nat} (hb : b < 6) {t t' : Nat → Nat} (h : tm_l N b t) (h' : tm_l N b t') : ∀ c, (lo_L N b).testBit c = true → t c * t' b = t' c * t b := by
  intro c hc
  refine lo_min hok (b := b) (P := fun c => (lo_L N b).testBit c = true → t c * t' b = t' c * t b) (fun w hw hh => ?_) (fun _ => Nat.mul_comm _ _) c hc hc
  have hl := lo_cl hok hb w hw hh
  obtain ⟨-, -, p1, p2, k1, k2⟩ := (hok.2.2.2.1 w).1 hh
  constructor
  · intro q z
    have zf := hl.mpr z
    exact tm_cross (by omega) (h.2.1 w hw hh zf) (h'.2.1 w hw hh zf) (q zf)
  · intro q z
    have zt := hl.mp z
    exact tm_cross (p := bw_k (bn_wr N w)) (k := bw_p (bn_wr N w)) (by omega) (h.2.1 w hw hh z).symm (h'.2.1 w hw hh z).symm (q zt)
theorem tm_half {x y g : Nat} {S : Nat → Prop} {t t' : Nat → Nat} (hg : 0 < g) (hc : Nat.Coprime x y) (h : ∀ c, S c → t c * (g * y) = t' c * (g * x)) (hp : ∀ d, (∀ c, S c → d ∣ t c) → d = 1) : x = 1 := by
  refine hp x (fun c hS => ?_)
  refine hc.dvd_of_dvd_mul_right ⟨t' c, ?_⟩
  refine Nat.eq_of_mul_eq_mul_left hg ?_
  calc g * (t c * y) = t c * (g * y) := by ac_rfl
    _ = t' c * (g * x) := h c hS
    _ = g * (x * t' c) := by ac_rfl
theorem tm_un {N : bn_N} (hok : bn_ok N) {b : Nat} (hb : b < 6) {t t' : Nat → Nat} (h : tm_l N b t) (h' : tm_l N b t') : ∀ c, (lo_L N b).testBit c = true → t c = t' c := by
  have H := tm_pr hok hb h h'
  have b1 := h.1 b (lo_in hok)
  have b2 := h'.1 b (lo_in hok)
  have hg : 0 < Nat.gcd (t b) (t' b) := Nat.gcd_pos_of_pos_left _ b1
  obtain ⟨g, hgd⟩ : ∃ g, g = Nat.gcd (t b) (t' b) := ⟨_, rfl⟩
  rw [← hgd] at hg
  have hco := Nat.coprime_div_gcd_div_gcd (m := t b) (n := t' b) (by rw [← hgd]; exact hg)
  rw [← hgd] at hco
  have e1 : g * (t b / g) = t b := Nat.mul_div_cancel' (by rw [hgd]; exact Nat.gcd_dvd_left _ _)
  have e2 : g * (t' b / g) = t' b := Nat.mul_div_cancel' (by rw [hgd]; exact Nat.gcd_dvd_right _ _)
  have x1 : t b / g = 1 := tm_half (S := fun c => (lo_L N b).testBit c = true) (t := t) (t' := t') hg hco (fun c hc => by rw [e1, e2]; exact H c hc) h.2.2
  have x2 : t' b / g = 1 := tm_half (S := fun c => (lo_L N b).testBit c = true) (t := t') (t' := t) hg hco.symm (fun c hc => by rw [e1, e2]; exact (H c hc).symm) h'.2.2
  have eb : t b = t' b := by rw [← e1, ← e2, x1, x2]
  intro c hc
  have := H c hc
  rw [eb] at this
  exact Nat.eq_of_mul_eq_mul_right (by omega) this
theorem tm_evu {N : bn_N} (hok : bn_ok N) {t t' : Nat → Nat} (h : tm_ev N t) (h' : tm_ev N t') : ∀ b, b < bn_nb N → t b = t' b := fun b hb => tm_un hok (by have := hok.1; omega) (h.1 b hb) (h'.1 b hb) b (lo_in hok)
/-- a common divisor of all of these times x -/
theorem tm_pm {S : Nat → Prop} {t : Nat → Nat} (hp : ∀ d, (∀ c, S c → d ∣ t c) → d = 1) {x d : Nat} (hx : 0 < x) (hd : ∀ c, S c → d ∣ t c * x) : d ∣ x := by
  have hg : 0 < Nat.gcd d x := Nat.gcd_pos_of_pos_right _ hx
  have hco := Nat.coprime_div_gcd_div_gcd (m := d) (n := x) hg
  have e1 : Nat.gcd d x * (d / Nat.gcd d x) = d := Nat.mul_div_cancel' (Nat.gcd_dvd_left _ _)
  have e2 : Nat.gcd d x * (x / Nat.gcd d x) = x := Nat.mul_div_cancel' (Nat.gcd_dvd_right _ _)
  have h1 : d / Nat.gcd d x = 1 := by
    refine hp _ (fun c hc => ?_)
    refine hco.dvd_of_dvd_mul_right ?_
    have h2 := hd c hc
    refine Nat.dvd_of_mul_dvd_mul_left hg ?_
    rw [e1]
    have : Nat.gcd d x * (t c * (x / Nat.gcd d x)) = t c * x := by
      calc Nat.gcd d x * (t c * (x / Nat.gcd d x)) = t c * (Nat.gcd d x * (x / Nat.gcd d x)) := by ac_rfl
        _ = t c * x := by rw [e2]
    rw [this]
    exact h2
  rw [h1, Nat.mul_one] at e1
  rw [← e1]
  exact Nat.gcd_dvd_right _ _
theorem tm_h6 {a : Nat} (h : a < 6) : a = 0 ∨ a = 1 ∨ a = 2 ∨ a = 3 ∨ a = 4 ∨ a = 5 := by omega
def tm_sum (e : Nat → Nat) : Nat := e 0 + e 1 + e 2 + e 3 + e 4 + e 5
def tm_ue (e : Nat → Nat) (A B : Nat) : Nat → Nat := fun l => if l = A then e A + e B + 1 else if l = B then 0 else e l
theorem tm_sue {e : Nat → Nat} {A B : Nat} (hA : A < 6) (hB : B < 6) (hne : A ≠ B) : tm_sum (tm_ue e A B) = tm_sum e + 1 := by
  rcases tm_h6 hA with rfl | rfl | rfl | rfl | rfl | rfl <;> rcases tm_h6 hB with rfl | rfl | rfl | rfl | rfl | rfl <;> first | exact absurd rfl hne | (simp [tm_sum, tm_ue]; omega)
theorem tm_sle {e : Nat → Nat} {A : Nat} (hA : A < 6) : e A ≤ tm_sum e := by
  unfold tm_sum
  rcases tm_h6 hA with rfl | rfl | rfl | rfl | rfl | rfl <;> omega
