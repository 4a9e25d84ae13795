/-! graphs read from texts -/
def ps_d (x : List Nat) (p lo hi : Nat) : Option Nat := if p < x.length ∧ 48 + lo ≤ x.getD p 0 ∧ x.getD p 0 ≤ 48 + hi then some (x.getD p 0 - 48) else none
abbrev ps_s (x : List Nat) (p c : Nat) : Prop := p < x.length ∧ x.getD p 0 = c
def ps_n (x : List Nat) (p : Nat) : Option (Nat × Nat) :=
  match ps_d x p 0 9 with
  | none => none
  | some d =>
    match ps_d x (p + 1) 0 9 with
    | none => some (d, p + 1)
    | some e =>
      match ps_d x (p + 2) 0 9 with
      | none => some (d * 10 + e, p + 2)
      | some g => some ((d * 10 + e) * 10 + g, p + 3)
def ps_t (x : List Nat) : Nat → Nat → List Nat → Bool × Nat × List Nat
  | 0, p, a => (true, p, a)
  | n + 1, p, a =>
    match ps_n x p with
    | none => (false, p, a)
    | some v => if 6 ≤ a.length + 1 ∨ ¬ ps_s x v.2 44 then (true, v.2, a ++ [v.1]) else ps_t x n (v.2 + 1) (a ++ [v.1])
abbrev ps_C : Type := Nat × Nat × Nat × Nat × List Nat
def ps_c (x : List Nat) (p : Nat) : Bool × Nat × ps_C :=
  match ps_d x p 0 9 with
  | none => (false, p, (0, 0, 0, 0, []))
  | some f =>
    if ps_s x (p + 1) 58 then
      match ps_d x (p + 2) 1 4 with
      | none => (false, p + 2, (0, 0, 0, 0, []))
      | some u =>
        if ps_s x (p + 3) 62 then
          match ps_d x (p + 4) 0 9 with
          | none => (false, p + 4, (0, 0, 0, 0, []))
          | some t =>
            if ps_s x (p + 5) 58 then
              match ps_d x (p + 6) 1 4 with
              | none => (false, p + 6, (0, 0, 0, 0, []))
              | some k => if ps_s x (p + 7) 43 then ((ps_t x 6 (p + 8) []).1, (ps_t x 6 (p + 8) []).2.1, (f, t, u, k, (ps_t x 6 (p + 8) []).2.2)) else (true, p + 7, (f, t, u, k, []))
            else (false, p + 5, (0, 0, 0, 0, []))
        else (false, p + 3, (0, 0, 0, 0, []))
    else (false, p + 1, (0, 0, 0, 0, []))
theorem ps_dI {x : List Nat} {p lo hi d : Nat} (h : ps_d x p lo hi = some d) : p < x.length ∧ lo ≤ d ∧ d ≤ hi ∧ x.getD p 0 = d + 48 := by
  unfold ps_d at h
  by_cases q : p < x.length ∧ 48 + lo ≤ x.getD p 0 ∧ x.getD p 0 ≤ 48 + hi
  · rw [if_pos q] at h
    have := Option.some.inj h
    omega
  · rw [if_neg q] at h
    exact absurd h (by simp)
theorem ps_dN {x : List Nat} {p lo hi : Nat} (h : ps_d x p lo hi = none) : ¬ (p < x.length ∧ 48 + lo ≤ x.getD p 0 ∧ x.getD p 0 ≤ 48 + hi) := fun q => by
  unfold ps_d at h
  rw [if_pos q] at h
  exact absurd h (by simp)
/-- a text of the class's, and where the reading is -/
def tx_c (I : Nat → Nat → Int32) (x : List Nat) (p : Nat) : Prop := I 124 0 = nI x.length ∧ I 124 4 = nI p ∧ ∀ k, k < x.length → I 125 k = nI (x.getD k 0)
def tx_ok (x : List Nat) : Prop := x.length ≤ 100 ∧ ∀ k, k < x.length → x.getD k 0 ≤ 127
theorem tx_c.u1 {I : Nat → Nat → Int32} {x : List Nat} {p : Nat} (h : tx_c I x p) (q : Nat) : tx_c (bf_u I 124 4 (nI q)) x q := by
  obtain ⟨h1, h2, h3⟩ := h
  exact ⟨by rw [bf_u_ni (by omega)]; exact h1, bf_u_at, fun k hk => by rw [bf_u_ne (by omega)]; exact h3 k hk⟩
theorem tx_c.uo {I : Nat → Nat → Int32} {x : List Nat} {p : Nat} (h : tx_c I x p) {o j : Nat} {v : Int32} (h4 : o ≠ 124) (h5 : o ≠ 125) : tx_c (bf_u I o j v) x p := by
  unfold tx_c at h ⊢
  rw [bf_u_ne (Ne.symm h4), bf_u_ne (Ne.symm h5)]
  exact h
theorem tx_c.cg {I I2 : Nat → Nat → Int32} {x : List Nat} {p : Nat} (h : tx_c I x p) (h4 : I2 124 = I 124) (h5 : I2 125 = I 125) : tx_c I2 x p := by
  unfold tx_c at h ⊢
  rw [h4, h5]
  exact h
section GR1
variable {L : Nat → Nat → Int64} {I : Nat → Nat → Int32} {x : List Nat} {p lo hi : Nat}
theorem cl_digit_s {d : Nat} {a b : Int32} (ha : a = nI lo) (hb : b = nI hi) (hlo : lo ≤ 9) (hhi : hi ≤ 9) (hx : tx_ok x) (hT : tx_c I x p) (h : ps_d x p lo hi = some d) : f_X9_readDigit 124 a b I L = some (nI d, bf_u I 124 4 (nI (p + 1)), L) := by
  obtain ⟨q1, q2, q3, q4⟩ := ps_dI h
  obtain ⟨h1, h2, h3⟩ := hT
  have hl := hx.1
  unfold f_X9_readDigit
  simp only [Nat.reduceAdd]
  rw [h1, h2, if_neg (nI_ge q1 (by omega)), if_pos (show nI p < (100 : Int32) from nI_lt (b := 100) (by omega) (by omega)), if_pos (bp_ok (by omega) (by omega)), bp_cl (by omega), h3 p q1, q4, show (48 : Int32) = nI 48 from rfl, pk_sub (by omega), show d + 48 - 48 = d by omega, ha, hb, if_neg (nI_nlt q2 (by omega)), if_pos (nI_le q3 (by omega)), bp_p1]
theorem cl_digit_n {a b : Int32} (ha : a = nI lo) (hb : b = nI hi) (hlo : lo ≤ 9) (hhi : hi ≤ 9) (hx : tx_ok x) (hp : p ≤ x.length) (hT : tx_c I x p) (h : ps_d x p lo hi = none) : f_X9_readDigit 124 a b I L = some (-1, I, L) := by
  have q := ps_dN h
  obtain ⟨h1, h2, h3⟩ := hT
  have hl := hx.1
  unfold f_X9_readDigit
  simp only [Nat.reduceAdd]
  rw [h1, h2]
  by_cases q1 : p < x.length
  · have h127 := hx.2 p q1
    rw [if_neg (nI_ge q1 (by omega)), if_pos (show nI p < (100 : Int32) from nI_lt (b := 100) (by omega) (by omega)), if_pos (bp_ok (by omega) (by omega)), bp_cl (by omega), h3 p q1, ha, hb, show (48 : Int32) = nI 48 from rfl]
    by_cases q2 : 48 + lo ≤ x.getD p 0
    · rw [pk_sub (by omega), if_neg (nI_nlt (by omega) (by omega)), if_neg (nI_ge (by omega) (by omega))]
    · rw [if_pos]
      rw [bp_ltI, bp_subI (by omega) (by omega), bp_toI (by omega)]
      omega
  · rw [if_pos (nI_le (by omega) (by omega))]
theorem cl_skip_t {c : Nat} {a : Int32} (ha : a = nI c) (hx : tx_ok x) (hT : tx_c I x p) (h : ps_s x p c) : f_X9_skip 124 a I L = some (1, bf_u I 124 4 (nI (p + 1)), L) := by
  obtain ⟨h1, h2, h3⟩ := hT
  have hl := hx.1
  have q1 := h.1
  unfold f_X9_skip
  simp only [Nat.reduceAdd]
  rw [h1, h2, if_neg (nI_ge q1 (by omega)), if_neg (show ¬ (100 : Int32) ≤ nI p from nI_ge (b := 100) (by omega) (by omega)), if_pos (bp_ok (by omega) (by omega)), bp_cl (by omega), h3 p q1, h.2, ha, if_pos rfl, bp_p1]
theorem cl_skip_f {c : Nat} {a : Int32} (ha : a = nI c) (hc : c < 1000) (hx : tx_ok x) (hp : p ≤ x.length) (hT : tx_c I x p) (h : ¬ ps_s x p c) : f_X9_skip 124 a I L = some (0, I, L) := by
  obtain ⟨h1, h2, h3⟩ := hT
  have hl := hx.1
  unfold f_X9_skip
  simp only [Nat.reduceAdd]
  rw [h1, h2]
  by_cases q1 : p < x.length
  · have h127 := hx.2 p q1
    rw [if_neg (nI_ge q1 (by omega)), if_neg (show ¬ (100 : Int32) ≤ nI p from nI_ge (b := 100) (by omega) (by omega)), if_pos (bp_ok (by omega) (by omega)), bp_cl (by omega), h3 p q1, ha, if_neg (fun z => h ⟨q1, by rwa [bp_eq (by omega) (by omega)] at z⟩)]
  · rw [if_pos (nI_le (by omega) (by omega))]
theorem bp_nm1 {d : Nat} (h : d < 100000) : ¬ nI d = -1 := fun z => by
  have := congrArg Int32.toInt z
  rw [bp_toI h, show (-1 : Int32).toInt = -1 from rfl] at this
  omega
theorem cl_number_n (hx : tx_ok x) (hp : p ≤ x.length) (hT : tx_c I x p) (h : ps_n x p = none) : f_X9_readNumber 124 I L = some (-1, I, L) := by
  unfold ps_n at h
  cases h0 : ps_d x p 0 9 with
  | none =>
    unfold f_X9_readNumber
    rw [cl_digit_n (a := 0) (b := 9) (lo := 0) (hi := 9) rfl rfl (by omega) (by omega) hx hp hT h0]
    rfl
  | some d =>
    rw [h0] at h
    cases h1 : ps_d x (p + 1) 0 9 with
    | none =>
      rw [h1] at h
      exact absurd h (by simp)
    | some e =>
      rw [h1] at h
      cases h2 : ps_d x (p + 2) 0 9 with
      | none =>
        rw [h2] at h
        exact absurd h (by simp)
      | some g =>
        rw [h2] at h
        exact absurd h (by simp)
theorem ps_nI {v : Nat × Nat} (h : ps_n x p = some v) : v.1 ≤ 999 ∧ v.2 ≤ x.length ∧ p < v.2 := by
  unfold ps_n at h
  cases h0 : ps_d x p 0 9 with
  | none =>
    rw [h0] at h
    exact absurd h (by simp)
  | some d =>
    rw [h0] at h
    have i0 := ps_dI h0
    cases h1 : ps_d x (p + 1) 0 9 with
    | none =>
      rw [h1] at h
      have := Option.some.inj h
      subst this
      exact ⟨by show d ≤ 999; omega, by show p + 1 ≤ _; omega, by show p < p + 1; omega⟩
    | some e =>
      rw [h1] at h
      have i1 := ps_dI h1
      cases h2 : ps_d x (p + 2) 0 9 with
      | none =>
        rw [h2] at h
        have := Option.some.inj h
        subst this
        exact ⟨by show d * 10 + e ≤ 999; omega, by show p + 2 ≤ _; omega, by show p < p + 2; omega⟩
      | some g =>
        rw [h2] at h
        have i2 := ps_dI h2
        have := Option.some.inj h
        subst this
        exact ⟨by show (d * 10 + e) * 10 + g ≤ 999; omega, by show p + 3 ≤ _; omega, by show p < p + 3; omega⟩
theorem cl_number_s {v : Nat × Nat} (hx : tx_ok x) (hT : tx_c I x p) (h : ps_n x p = some v) : f_X9_readNumber 124 I L = some (nI v.1, bf_u I 124 4 (nI v.2), L) := by
  have huu : ∀ (J : Nat → Nat → Int32) (a b : Int32), bf_u (bf_u J 124 4 a) 124 4 b = bf_u J 124 4 b := fun J a b => by
    funext q j
    by_cases e : q = 124
    · subst e
      by_cases e2 : j = 4
      · subst e2; rw [bf_u_at, bf_u_at]
      · rw [bf_u_ni e2, bf_u_ni e2, bf_u_ni e2]
    · rw [bf_u_ne e, bf_u_ne e, bf_u_ne e]
  unfold ps_n at h
  unfold f_X9_readNumber
  cases h0 : ps_d x p 0 9 with
  | none =>
    rw [h0] at h
    exact absurd h (by simp)
  | some d =>
    rw [h0] at h
    have i0 := ps_dI h0
    rw [cl_digit_s (a := 0) (b := 9) (lo := 0) (hi := 9) rfl rfl (by omega) (by omega) hx hT h0]
    simp only [Option.bind_some]
    rw [f_X9_readNumber_10, if_neg (by decide), if_neg (bp_nm1 (by omega))]
    cases h1 : ps_d x (p + 1) 0 9 with
    | none =>
      rw [h1] at h
      have := Option.some.inj h
      subst this
      rw [cl_digit_n (a := 0) (b := 9) (lo := 0) (hi := 9) rfl rfl (by omega) (by omega) hx (by omega) (hT.u1 _) h1]
      rfl
    | some e =>
      rw [h1] at h
      have i1 := ps_dI h1
      rw [cl_digit_s (a := 0) (b := 9) (lo := 0) (hi := 9) rfl rfl (by omega) (by omega) hx (hT.u1 _) h1]
      simp only [Option.bind_some]
      rw [if_neg (bp_nm1 (by omega)), show (10 : Int32) = nI 10 from rfl, pk_mul, nI_add, show (1 : Int32) + 1 = 2 from rfl, f_X9_readNumber_10, if_neg (by decide), if_neg (bp_nm1 (by omega)), huu]
      cases h2 : ps_d x (p + 2) 0 9 with
      | none =>
        rw [h2] at h
        have := Option.some.inj h
        subst this
        rw [cl_digit_n (a := 0) (b := 9) (lo := 0) (hi := 9) rfl rfl (by omega) (by omega) hx (by omega) (hT.u1 _) h2]
        rfl
      | some g =>
        rw [h2] at h
        have i2 := ps_dI h2
        have := Option.some.inj h
        subst this
        rw [cl_digit_s (a := 0) (b := 9) (lo := 0) (hi := 9) rfl rfl (by omega) (by omega) hx (hT.u1 _) h2]
        simp only [Option.bind_some]
        rw [if_neg (bp_nm1 (by omega)), show (10 : Int32) = nI 10 from rfl, pk_mul, nI_add, show (2 : Int32) + 1 = 3 from rfl, f_X9_readNumber_10, if_pos (by decide), huu]
/-- a clause of the class's -/
def cl_T (I : Nat → Nat → Int32) (c : Nat) (a : List Nat) : Prop := I (127 + 2 * c) 4 = nI a.length ∧ ∀ i, i < a.length → I (128 + 2 * c) i = nI (a.getD i 0)
theorem cl_tokens {c : Nat} (hx : tx_ok x) (hc : c < 8) (K : (Nat → Nat → Int32) → (Nat → Nat → Int64) → Option (Int32 × bf_St)) : ∀ (n m p : Nat) (a : List Nat) (I : Nat → Nat → Int32), a.length + m = 6 → 1 ≤ m → m < n → p ≤ x.length → tx_c I x p → cl_T I c a → ∃ I1, f_X9_readTokens_2 124 (127 + 2 * c) K n (nI a.length) I L = some ((if (ps_t x m p a).1 = true then 1 else 0), I1, L) ∧ tx_c I1 x (ps_t x m p a).2.1 ∧ ((ps_t x m p a).1 = true → cl_T I1 c (ps_t x m p a).2.2) ∧ (∀ q, q ≠ 124 → q ≠ 127 + 2 * c → q ≠ 128 + 2 * c → I1 q = I q) ∧ (∀ j, j ≠ 4 → I1 124 j = I 124 j ∧ I1 (127 + 2 * c) j = I (127 + 2 * c) j) ∧ (ps_t x m p a).2.1 ≤ x.length ∧ (ps_t x m p a).2.2.length ≤ 6 ∧ (∀ v ∈ (ps_t x m p a).2.2, v ∈ a ∨ v ≤ 999)
  | 0, m, p, a, I, h1, h2, h3, hp, hT, hA => by omega
  | n + 1, 0, p, a, I, h1, h2, h3, hp, hT, hA => by omega
  | n + 1, m + 1, p, a, I, h1, h2, h3, hp, hT, hA => by
    rw [f_X9_readTokens_2, if_neg (show ¬ (6 : Int32) ≤ nI a.length from nI_ge (b := 6) (by omega) (by omega))]
    cases h0 : ps_n x p with
    | none =>
      rw [cl_number_n hx hp hT h0, show ps_t x (m + 1) p a = (false, p, a) by rw [ps_t, h0]]
      simp only [Option.bind_some]
      exact ⟨I, rfl, hT, fun z => absurd z Bool.false_ne_true, fun q _ _ _ => rfl, fun j _ => ⟨rfl, rfl⟩, hp, by show a.length ≤ 6; omega, fun v hv => Or.inl hv⟩
    | some v =>
      obtain ⟨v1, v2, v3⟩ := ps_nI h0
      rw [cl_number_s hx hT h0]
      simp only [Option.bind_some]
      rw [if_neg (bp_nm1 (by omega)), if_pos (bp_ok (by omega) (by omega)), bp_cl (by omega), bf_u_at, bp_p1]
      have e128 : 127 + 2 * c + 1 = 128 + 2 * c := by omega
      rw [e128]
      have hT1 : tx_c (bf_u (bf_u (bf_u I 124 4 (nI v.2)) (128 + 2 * c) a.length (nI v.1)) (127 + 2 * c) 4 (nI (a.length + 1))) x v.2 := ((hT.u1 v.2).uo (by omega) (by omega)).uo (by omega) (by omega)
      have hA1 : cl_T (bf_u (bf_u (bf_u I 124 4 (nI v.2)) (128 + 2 * c) a.length (nI v.1)) (127 + 2 * c) 4 (nI (a.length + 1))) c (a ++ [v.1]) := by
        refine ⟨by rw [bf_u_at, List.length_append]; rfl, fun i hi => ?_⟩
        rw [List.length_append, List.length_singleton] at hi
        rw [bf_u_ne (by omega)]
        by_cases e : i = a.length
        · subst e
          rw [bf_u_at, List.getD_eq_getElem?_getD, List.getElem?_append_right (Nat.le_refl _), Nat.sub_self]
          rfl
        · rw [bf_u_ni e, bf_u_ne (by omega), hA.2 i (by omega), List.getD_eq_getElem?_getD, List.getD_eq_getElem?_getD, List.getElem?_append_left (by omega)]
      have fr : (∀ q, q ≠ 124 → q ≠ 127 + 2 * c → q ≠ 128 + 2 * c → bf_u (bf_u (bf_u I 124 4 (nI v.2)) (128 + 2 * c) a.length (nI v.1)) (127 + 2 * c) 4 (nI (a.length + 1)) q = I q) ∧ (∀ j, j ≠ 4 → bf_u (bf_u (bf_u I 124 4 (nI v.2)) (128 + 2 * c) a.length (nI v.1)) (127 + 2 * c) 4 (nI (a.length + 1)) 124 j = I 124 j ∧ bf_u (bf_u (bf_u I 124 4 (nI v.2)) (128 + 2 * c) a.length (nI v.1)) (127 + 2 * c) 4 (nI (a.length + 1)) (127 + 2 * c) j = I (127 + 2 * c) j) := by
        refine ⟨fun q q1 q2 q3 => by rw [bf_u_ne q2, bf_u_ne q3, bf_u_ne q1], fun j hj => ⟨by rw [bf_u_ne (by omega), bf_u_ne (by omega), bf_u_ni hj], by rw [bf_u_ni hj, bf_u_ne (by omega), bf_u_ne (by omega)]⟩⟩
      have hmem : ∀ u ∈ a ++ [v.1], u ∈ a ∨ u ≤ 999 := fun u hu => (bl_mem hu).elim Or.inl (fun e => Or.inr (by omega))
      by_cases hs : 6 ≤ a.length + 1
      · rw [if_pos (show (6 : Int32) ≤ nI (a.length + 1) from nI_le (a := 6) hs (by omega)), show ps_t x (m + 1) p a = (true, v.2, a ++ [v.1]) by rw [ps_t, h0]; exact if_pos (Or.inl hs)]
        exact ⟨_, rfl, hT1, fun _ => hA1, fr.1, fr.2, v2, by show (a ++ [v.1]).length ≤ 6; rw [List.length_append, List.length_singleton]; omega, hmem⟩
      · rw [if_neg (show ¬ (6 : Int32) ≤ nI (a.length + 1) from nI_ge (b := 6) (by omega) (by omega))]
        by_cases hk : ps_s x v.2 44
        · have hv2 := hk.1
          rw [cl_skip_t (a := 44) (c := 44) rfl hx hT1 hk, show ps_t x (m + 1) p a = ps_t x m (v.2 + 1) (a ++ [v.1]) by rw [ps_t, h0]; exact if_neg (fun z => z.elim hs (fun y => y hk))]
          simp only [Option.bind_some]
          rw [if_neg bp_10]
          obtain ⟨I1, g1, g2, g3, g4, g5, g6, g7, g8⟩ := cl_tokens hx hc K n m (v.2 + 1) (a ++ [v.1]) (bf_u (bf_u (bf_u (bf_u I 124 4 (nI v.2)) (128 + 2 * c) a.length (nI v.1)) (127 + 2 * c) 4 (nI (a.length + 1))) 124 4 (nI (v.2 + 1))) (by rw [List.length_append, List.length_singleton]; omega) (by omega) (by omega) (by omega) (hT1.u1 _) ⟨by rw [bf_u_ne (by omega)]; exact hA1.1, fun i hi => by rw [bf_u_ne (by omega)]; exact hA1.2 i hi⟩
          rw [List.length_append, List.length_singleton] at g1
          refine ⟨I1, g1, g2, g3, fun q q1 q2 q3 => by rw [g4 q q1 q2 q3, bf_u_ne q1, fr.1 q q1 q2 q3], fun j hj => ⟨?_, ?_⟩, g6, g7, fun u hu => (g8 u hu).elim (hmem u) Or.inr⟩
          · rw [(g5 j hj).1, bf_u_ni hj]
            exact (fr.2 j hj).1
          · rw [(g5 j hj).2, bf_u_ne (by omega)]
            exact (fr.2 j hj).2
        · rw [cl_skip_f (a := 44) (c := 44) rfl (by omega) hx v2 hT1 hk, show ps_t x (m + 1) p a = (true, v.2, a ++ [v.1]) by rw [ps_t, h0]; exact if_pos (Or.inr hk)]
          simp only [Option.bind_some]
          exact ⟨_, rfl, hT1, fun _ => hA1, fr.1, fr.2, v2, by show (a ++ [v.1]).length ≤ 6; rw [List.length_append, List.length_singleton]; omega, hmem⟩
end GR1
