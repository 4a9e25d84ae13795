/-- a clause read, on the class's side -/
def cl_K (I : Nat → Nat → Int32) (c : Nat) (y : ps_C) : Prop := (I (127 + 2 * c) 0 = nI y.1 ∧ I (127 + 2 * c) 2 = nI y.2.1 ∧ I (127 + 2 * c) 1 = nI y.2.2.1 ∧ I (127 + 2 * c) 3 = nI y.2.2.2.1) ∧ cl_T I c y.2.2.2.2
/-- the numbers of a clause -/
def ps_ok (y : ps_C) : Prop := y.1 ≤ 9 ∧ y.2.1 ≤ 9 ∧ (1 ≤ y.2.2.1 ∧ y.2.2.1 ≤ 4) ∧ (1 ≤ y.2.2.2.1 ∧ y.2.2.2.1 ≤ 4) ∧ y.2.2.2.2.length ≤ 6
section GR2
variable {L : Nat → Nat → Int64} {x : List Nat}
theorem cl_clause {I : Nat → Nat → Int32} {c p : Nat} (hx : tx_ok x) (hc : c < 8) (hp : p ≤ x.length) (hT : tx_c I x p) : ∃ I1, f_X9_readClause 124 (127 + 2 * c) I L = some ((if (ps_c x p).1 = true then 1 else 0), I1, L) ∧ tx_c I1 x (ps_c x p).2.1 ∧ ((ps_c x p).1 = true → cl_K I1 c (ps_c x p).2.2 ∧ ps_ok (ps_c x p).2.2) ∧ (∀ q, q ≠ 124 → q ≠ 127 + 2 * c → q ≠ 128 + 2 * c → I1 q = I q) ∧ (∀ j, j ≠ 4 → I1 124 j = I 124 j) ∧ (ps_c x p).2.1 ≤ x.length := by
  unfold f_X9_readClause
  have hT0 : tx_c (bf_u I (127 + 2 * c) 4 0) x p := hT.uo (by omega) (by omega)
  cases h0 : ps_d x p 0 9 with
  | none =>
    have e : ps_c x p = (false, p, (0, 0, 0, 0, [])) := by simp only [ps_c, h0]
    rw [cl_digit_n (a := 0) (b := 9) (lo := 0) (hi := 9) rfl rfl (by omega) (by omega) hx (by omega) hT0 h0, e]
    simp only [Option.bind_some]
    rw [if_pos bf_u_at]
    exact ⟨_, rfl, hT0.uo (by omega) (by omega), fun z => absurd z Bool.false_ne_true, fun q q1 q2 q3 => by simp only [bf_u_ne q1, bf_u_ne q2], fun j hj => by simp (disch := omega) only [bf_u_ne, bf_u_ni], by show p ≤ _; omega⟩
  | some f =>
    have i0 := ps_dI h0
    rw [cl_digit_s (a := 0) (b := 9) (lo := 0) (hi := 9) rfl rfl (by omega) (by omega) hx hT0 h0]
    simp only [Option.bind_some]
    rw [if_neg (by rw [bf_u_at]; exact bp_nm1 (by omega))]
    have T0 : tx_c (bf_u (bf_u (bf_u I (127 + 2 * c) 4 0) 124 4 (nI (p + 1))) (127 + 2 * c) 0 (nI f)) x (p + 1) := (hT0.u1 _).uo (by omega) (by omega)
    by_cases h1 : ps_s x (p + 1) 58
    case neg =>
      have e : ps_c x p = (false, p + 1, (0, 0, 0, 0, [])) := by simp only [ps_c, h0, if_neg h1]
      rw [cl_skip_f (a := 58) (c := 58) rfl (by omega) hx (by omega) T0 h1, e]
      simp only [Option.bind_some]
      exact ⟨_, rfl, T0, fun z => absurd z Bool.false_ne_true, fun q q1 q2 q3 => by simp only [bf_u_ne q1, bf_u_ne q2], fun j hj => by simp (disch := omega) only [bf_u_ne, bf_u_ni], by show p + 1 ≤ _; omega⟩
    have i1 := h1.1
    rw [cl_skip_t (a := 58) (c := 58) rfl hx T0 h1]
    simp only [Option.bind_some]
    rw [if_neg bp_10]
    have T1 : tx_c (bf_u (bf_u (bf_u (bf_u I (127 + 2 * c) 4 0) 124 4 (nI (p + 1))) (127 + 2 * c) 0 (nI f)) 124 4 (nI (p + 2))) x (p + 2) := T0.u1 _
    cases h2 : ps_d x (p + 2) 1 4 with
    | none =>
      have e : ps_c x p = (false, p + 2, (0, 0, 0, 0, [])) := by simp only [ps_c, h0, if_pos h1, h2]
      rw [cl_digit_n (a := 1) (b := 4) (lo := 1) (hi := 4) rfl rfl (by omega) (by omega) hx (by omega) T1 h2, e]
      simp only [Option.bind_some]
      rw [if_pos bf_u_at]
      exact ⟨_, rfl, T1.uo (by omega) (by omega), fun z => absurd z Bool.false_ne_true, fun q q1 q2 q3 => by simp only [bf_u_ne q1, bf_u_ne q2], fun j hj => by simp (disch := omega) only [bf_u_ne, bf_u_ni], by show p + 2 ≤ _; omega⟩
    | some u =>
      have i2 := ps_dI h2
      rw [cl_digit_s (a := 1) (b := 4) (lo := 1) (hi := 4) rfl rfl (by omega) (by omega) hx T1 h2]
      simp only [Option.bind_some]
      rw [if_neg (by rw [bf_u_at]; exact bp_nm1 (by omega))]
      have T2 : tx_c (bf_u (bf_u (bf_u (bf_u (bf_u (bf_u I (127 + 2 * c) 4 0) 124 4 (nI (p + 1))) (127 + 2 * c) 0 (nI f)) 124 4 (nI (p + 2))) 124 4 (nI (p + 3))) (127 + 2 * c) 1 (nI u)) x (p + 3) := (T1.u1 _).uo (by omega) (by omega)
      by_cases h3 : ps_s x (p + 3) 62
      case neg =>
        have e : ps_c x p = (false, p + 3, (0, 0, 0, 0, [])) := by simp only [ps_c, h0, if_pos h1, h2, if_neg h3]
        rw [cl_skip_f (a := 62) (c := 62) rfl (by omega) hx (by omega) T2 h3, e]
        simp only [Option.bind_some]
        exact ⟨_, rfl, T2, fun z => absurd z Bool.false_ne_true, fun q q1 q2 q3 => by simp only [bf_u_ne q1, bf_u_ne q2], fun j hj => by simp (disch := omega) only [bf_u_ne, bf_u_ni], by show p + 3 ≤ _; omega⟩
      have i3 := h3.1
      rw [cl_skip_t (a := 62) (c := 62) rfl hx T2 h3]
      simp only [Option.bind_some]
      rw [if_neg bp_10]
      have T3 : tx_c (bf_u (bf_u (bf_u (bf_u (bf_u (bf_u (bf_u I (127 + 2 * c) 4 0) 124 4 (nI (p + 1))) (127 + 2 * c) 0 (nI f)) 124 4 (nI (p + 2))) 124 4 (nI (p + 3))) (127 + 2 * c) 1 (nI u)) 124 4 (nI (p + 4))) x (p + 4) := T2.u1 _
      cases h4 : ps_d x (p + 4) 0 9 with
      | none =>
        have e : ps_c x p = (false, p + 4, (0, 0, 0, 0, [])) := by simp only [ps_c, h0, if_pos h1, h2, if_pos h3, h4]
        rw [cl_digit_n (a := 0) (b := 9) (lo := 0) (hi := 9) rfl rfl (by omega) (by omega) hx (by omega) T3 h4, e]
        simp only [Option.bind_some]
        rw [if_pos bf_u_at]
        exact ⟨_, rfl, T3.uo (by omega) (by omega), fun z => absurd z Bool.false_ne_true, fun q q1 q2 q3 => by simp only [bf_u_ne q1, bf_u_ne q2], fun j hj => by simp (disch := omega) only [bf_u_ne, bf_u_ni], by show p + 4 ≤ _; omega⟩
      | some t =>
        have i4 := ps_dI h4
        rw [cl_digit_s (a := 0) (b := 9) (lo := 0) (hi := 9) rfl rfl (by omega) (by omega) hx T3 h4]
        simp only [Option.bind_some]
        rw [if_neg (by rw [bf_u_at]; exact bp_nm1 (by omega))]
        have T4 : tx_c (bf_u (bf_u (bf_u (bf_u (bf_u (bf_u (bf_u (bf_u (bf_u I (127 + 2 * c) 4 0) 124 4 (nI (p + 1))) (127 + 2 * c) 0 (nI f)) 124 4 (nI (p + 2))) 124 4 (nI (p + 3))) (127 + 2 * c) 1 (nI u)) 124 4 (nI (p + 4))) 124 4 (nI (p + 5))) (127 + 2 * c) 2 (nI t)) x (p + 5) := (T3.u1 _).uo (by omega) (by omega)
        by_cases h5 : ps_s x (p + 5) 58
        case neg =>
          have e : ps_c x p = (false, p + 5, (0, 0, 0, 0, [])) := by simp only [ps_c, h0, if_pos h1, h2, if_pos h3, h4, if_neg h5]
          rw [cl_skip_f (a := 58) (c := 58) rfl (by omega) hx (by omega) T4 h5, e]
          simp only [Option.bind_some]
          exact ⟨_, rfl, T4, fun z => absurd z Bool.false_ne_true, fun q q1 q2 q3 => by simp only [bf_u_ne q1, bf_u_ne q2], fun j hj => by simp (disch := omega) only [bf_u_ne, bf_u_ni], by show p + 5 ≤ _; omega⟩
        have i5 := h5.1
        rw [cl_skip_t (a := 58) (c := 58) rfl hx T4 h5]
        simp only [Option.bind_some]
        rw [if_neg bp_10]
        have T5 : tx_c (bf_u (bf_u (bf_u (bf_u (bf_u (bf_u (bf_u (bf_u (bf_u (bf_u I (127 + 2 * c) 4 0) 124 4 (nI (p + 1))) (127 + 2 * c) 0 (nI f)) 124 4 (nI (p + 2))) 124 4 (nI (p + 3))) (127 + 2 * c) 1 (nI u)) 124 4 (nI (p + 4))) 124 4 (nI (p + 5))) (127 + 2 * c) 2 (nI t)) 124 4 (nI (p + 6))) x (p + 6) := T4.u1 _
        cases h6 : ps_d x (p + 6) 1 4 with
        | none =>
          have e : ps_c x p = (false, p + 6, (0, 0, 0, 0, [])) := by simp only [ps_c, h0, if_pos h1, h2, if_pos h3, h4, if_pos h5, h6]
          rw [cl_digit_n (a := 1) (b := 4) (lo := 1) (hi := 4) rfl rfl (by omega) (by omega) hx (by omega) T5 h6, e]
          simp only [Option.bind_some]
          rw [if_pos bf_u_at]
          exact ⟨_, rfl, T5.uo (by omega) (by omega), fun z => absurd z Bool.false_ne_true, fun q q1 q2 q3 => by simp only [bf_u_ne q1, bf_u_ne q2], fun j hj => by simp (disch := omega) only [bf_u_ne, bf_u_ni], by show p + 6 ≤ _; omega⟩
        | some k =>
          have i6 := ps_dI h6
          rw [cl_digit_s (a := 1) (b := 4) (lo := 1) (hi := 4) rfl rfl (by omega) (by omega) hx T5 h6]
          simp only [Option.bind_some]
          rw [if_neg (by rw [bf_u_at]; exact bp_nm1 (by omega))]
          have T6 : tx_c (bf_u (bf_u (bf_u (bf_u (bf_u (bf_u (bf_u (bf_u (bf_u (bf_u (bf_u (bf_u I (127 + 2 * c) 4 0) 124 4 (nI (p + 1))) (127 + 2 * c) 0 (nI f)) 124 4 (nI (p + 2))) 124 4 (nI (p + 3))) (127 + 2 * c) 1 (nI u)) 124 4 (nI (p + 4))) 124 4 (nI (p + 5))) (127 + 2 * c) 2 (nI t)) 124 4 (nI (p + 6))) 124 4 (nI (p + 7))) (127 + 2 * c) 3 (nI k)) x (p + 7) := (T5.u1 _).uo (by omega) (by omega)
          by_cases h7 : ps_s x (p + 7) 43
          case neg =>
            have e : ps_c x p = (true, p + 7, (f, t, u, k, [])) := by simp only [ps_c, h0, if_pos h1, h2, if_pos h3, h4, if_pos h5, h6, if_neg h7]
            rw [cl_skip_f (a := 43) (c := 43) rfl (by omega) hx (by omega) T6 h7, e]
            simp only [Option.bind_some]
            refine ⟨_, rfl, T6, fun _ => ⟨⟨⟨?_, ?_, ?_, ?_⟩, ?_, fun i hi => absurd hi (Nat.not_lt_zero _)⟩, ?_⟩, fun q q1 q2 q3 => by simp only [bf_u_ne q1, bf_u_ne q2], fun j hj => by simp (disch := omega) only [bf_u_ne, bf_u_ni], by show p + 7 ≤ _; omega⟩
            · simp (disch := omega) only [bf_u_ne, bf_u_ni, bf_u_at]
            · simp (disch := omega) only [bf_u_ne, bf_u_ni, bf_u_at]
            · simp (disch := omega) only [bf_u_ne, bf_u_ni, bf_u_at]
            · simp (disch := omega) only [bf_u_ne, bf_u_ni, bf_u_at]
            · simp (disch := omega) only [bf_u_ne, bf_u_ni, bf_u_at]
              rfl
            · exact ⟨by show f ≤ 9; omega, by show t ≤ 9; omega, by show 1 ≤ u ∧ u ≤ 4; omega, by show 1 ≤ k ∧ k ≤ 4; omega, Nat.zero_le _⟩
          have i7 := h7.1
          rw [cl_skip_t (a := 43) (c := 43) rfl hx T6 h7]
          simp only [Option.bind_some]
          rw [if_neg bp_10]
          have T7 : tx_c (bf_u (bf_u (bf_u (bf_u (bf_u (bf_u (bf_u (bf_u (bf_u (bf_u (bf_u (bf_u (bf_u I (127 + 2 * c) 4 0) 124 4 (nI (p + 1))) (127 + 2 * c) 0 (nI f)) 124 4 (nI (p + 2))) 124 4 (nI (p + 3))) (127 + 2 * c) 1 (nI u)) 124 4 (nI (p + 4))) 124 4 (nI (p + 5))) (127 + 2 * c) 2 (nI t)) 124 4 (nI (p + 6))) 124 4 (nI (p + 7))) (127 + 2 * c) 3 (nI k)) 124 4 (nI (p + 8))) x (p + 8) := T6.u1 _
          have e : ps_c x p = ((ps_t x 6 (p + 8) []).1, (ps_t x 6 (p + 8) []).2.1, (f, t, u, k, (ps_t x 6 (p + 8) []).2.2)) := by simp only [ps_c, h0, if_pos h1, h2, if_pos h3, h4, if_pos h5, h6, if_pos h7]
          obtain ⟨I1, g1, g2, g3, g4, g5, g6, g7, g8⟩ := cl_tokens (L := L) hx hc (fun I10 L10 => some (1, I10, L10)) 400 6 (p + 8) [] (bf_u (bf_u (bf_u (bf_u (bf_u (bf_u (bf_u (bf_u (bf_u (bf_u (bf_u (bf_u (bf_u I (127 + 2 * c) 4 0) 124 4 (nI (p + 1))) (127 + 2 * c) 0 (nI f)) 124 4 (nI (p + 2))) 124 4 (nI (p + 3))) (127 + 2 * c) 1 (nI u)) 124 4 (nI (p + 4))) 124 4 (nI (p + 5))) (127 + 2 * c) 2 (nI t)) 124 4 (nI (p + 6))) 124 4 (nI (p + 7))) (127 + 2 * c) 3 (nI k)) 124 4 (nI (p + 8))) rfl (by omega) (by omega) (by omega) T7 ⟨by simp (disch := omega) only [bf_u_ne, bf_u_ni, bf_u_at]; rfl, fun i hi => absurd hi (Nat.not_lt_zero _)⟩
          rw [show f_X9_readTokens 124 (127 + 2 * c) (bf_u (bf_u (bf_u (bf_u (bf_u (bf_u (bf_u (bf_u (bf_u (bf_u (bf_u (bf_u (bf_u I (127 + 2 * c) 4 0) 124 4 (nI (p + 1))) (127 + 2 * c) 0 (nI f)) 124 4 (nI (p + 2))) 124 4 (nI (p + 3))) (127 + 2 * c) 1 (nI u)) 124 4 (nI (p + 4))) 124 4 (nI (p + 5))) (127 + 2 * c) 2 (nI t)) 124 4 (nI (p + 6))) 124 4 (nI (p + 7))) (127 + 2 * c) 3 (nI k)) 124 4 (nI (p + 8))) L = _ from g1, e]
          simp only [Option.bind_some]
          refine ⟨I1, ?_, g2, fun z => ⟨⟨⟨?_, ?_, ?_, ?_⟩, g3 z⟩, ?_⟩, fun q q1 q2 q3 => by rw [g4 q q1 q2 q3]; simp only [bf_u_ne q1, bf_u_ne q2], fun j hj => by rw [(g5 j hj).1]; simp (disch := omega) only [bf_u_ne, bf_u_ni], g6⟩
          · by_cases z : (ps_t x 6 (p + 8) []).1 = true
            · rw [if_pos z, if_neg bp_10]
            · rw [if_neg z, if_pos rfl]
          · rw [(g5 0 (by omega)).2]
            simp (disch := omega) only [bf_u_ne, bf_u_ni, bf_u_at]
          · rw [(g5 2 (by omega)).2]
            simp (disch := omega) only [bf_u_ne, bf_u_ni, bf_u_at]
          · rw [(g5 1 (by omega)).2]
            simp (disch := omega) only [bf_u_ne, bf_u_ni, bf_u_at]
          · rw [(g5 3 (by omega)).2]
            simp (disch := omega) only [bf_u_ne, bf_u_ni, bf_u_at]
          · exact ⟨by show f ≤ 9; omega, by show t ≤ 9; omega, by show 1 ≤ u ∧ u ≤ 4; omega, by show 1 ≤ k ∧ k ≤ 4; omega, g7⟩
/-- all clauses -/
def ps_g (x : List Nat) : Nat → Nat → List ps_C → Option Nat × List ps_C
  | 0, p, a => (some p, a)
  | n + 1, p, a => if (ps_c x p).1 = true then (if x.length ≤ (ps_c x p).2.1 then (none, a ++ [(ps_c x p).2.2]) else if 8 ≤ a.length + 1 ∨ ¬ ps_s x (ps_c x p).2.1 59 then (some (ps_c x p).2.1, a ++ [(ps_c x p).2.2]) else ps_g x n ((ps_c x p).2.1 + 1) (a ++ [(ps_c x p).2.2])) else (some (ps_c x p).2.1, a)
/-- what the fault answers -/
def ps_f (r : Option Nat) : Int32 := match r with | none => -1 | some p => nI p
def cl_L (I : Nat → Nat → Int32) (a : List ps_C) : Prop := ∀ c y, a[c]? = some y → cl_K I c y
theorem cl_K.cg {I I2 : Nat → Nat → Int32} {c : Nat} {y : ps_C} (h : cl_K I c y) (h1 : I2 (127 + 2 * c) = I (127 + 2 * c)) (h2 : I2 (128 + 2 * c) = I (128 + 2 * c)) : cl_K I2 c y := by
  unfold cl_K cl_T at h ⊢
  rw [h1, h2]
  exact h
theorem cl_fault {L : Nat → Nat → Int64} (hx : tx_ok x) (K : (Nat → Nat → Int32) → (Nat → Nat → Int64) → Option (Int32 × bf_St)) : ∀ (n m p : Nat) (a : List ps_C) (I : Nat → Nat → Int32), a.length + m = 8 → 1 ≤ m → m < n → p ≤ x.length → tx_c I x p → I 124 1 = nI a.length → cl_L I a → (∀ y ∈ a, ps_ok y) → ∃ I1, f_X9_findFault_12 124 K n (nI a.length) I L = some (ps_f (ps_g x m p a).1, I1, L) ∧ ((ps_g x m p a).1 = none → I1 124 1 = nI (ps_g x m p a).2.length ∧ cl_L I1 (ps_g x m p a).2) ∧ (ps_g x m p a).2.length ≤ 8 ∧ (∀ y ∈ (ps_g x m p a).2, ps_ok y) ∧ (∀ q, q < 124 ∨ q = 125 ∨ 143 ≤ q → I1 q = I q) ∧ (∀ v, (ps_g x m p a).1 = some v → v ≤ 100)
  | 0, m, p, a, I, h1, h2, h3, hp, hT, hC, hL, hA => by omega
  | n + 1, 0, p, a, I, h1, h2, h3, hp, hT, hC, hL, hA => by omega
  | n + 1, m + 1, p, a, I, h1, h2, h3, hp, hT, hC, hL, hA => by
    have hl := hx.1
    obtain ⟨I1, e1, e2, e3, e4, e5, e6⟩ := cl_clause (L := L) hx (show a.length < 8 by omega) hp hT
    have hC1 : I1 124 1 = nI a.length := by rw [e5 1 (by omega)]; exact hC
    rw [f_X9_findFault_12, if_neg (show ¬ (8 : Int32) ≤ nI a.length from nI_ge (b := 8) (by omega) (by omega)), if_pos (bp_ok (by omega) (by omega)), bp_cl (by omega)]
    simp only [Nat.reduceAdd]
    rw [e1]
    simp only [Option.bind_some]
    by_cases z : (ps_c x p).1 = true
    · have fr : ∀ q, q < 124 ∨ q = 125 ∨ 143 ≤ q → bf_u I1 124 1 (nI (a.length + 1)) q = I q := fun q hq => by rw [bf_u_ne (by omega), e4 q (by omega) (by omega) (by omega)]
      have hT2 : tx_c (bf_u I1 124 1 (nI (a.length + 1))) x (ps_c x p).2.1 := by
        obtain ⟨k1, k2, k3⟩ := e2
        exact ⟨by rw [bf_u_ni (by omega)]; exact k1, by rw [bf_u_ni (by omega)]; exact k2, fun k hk => by rw [bf_u_ne (by omega)]; exact k3 k hk⟩
      have hL2 : cl_L (bf_u I1 124 1 (nI (a.length + 1))) (a ++ [(ps_c x p).2.2]) := fun c y hy => by
        rcases bl_app hy with ⟨q, hk⟩ | ⟨q, e⟩
        · exact (hL c y hk).cg (by rw [bf_u_ne (by omega), e4 _ (by omega) (by omega) (by omega)]) (by rw [bf_u_ne (by omega), e4 _ (by omega) (by omega) (by omega)])
        · subst e q
          exact (e3 z).1.cg (by rw [bf_u_ne (by omega)]) (by rw [bf_u_ne (by omega)])
      have hA2 : ∀ y ∈ a ++ [(ps_c x p).2.2], ps_ok y := fun y hy => (bl_mem hy).elim (hA y) (fun e => by rw [e]; exact (e3 z).2)
      have hlen : (a ++ [(ps_c x p).2.2]).length = a.length + 1 := bl_len
      rw [if_pos z, if_neg bp_10, hC1, bp_p1]
      rw [show bf_u I1 124 1 (nI (a.length + 1)) 124 4 = _ from hT2.2.1, show bf_u I1 124 1 (nI (a.length + 1)) 124 0 = _ from hT2.1]
      by_cases q1 : x.length ≤ (ps_c x p).2.1
      · rw [if_neg (nI_nlt q1 (by omega)), show ps_g x (m + 1) p a = (none, a ++ [(ps_c x p).2.2]) by rw [ps_g, if_pos z, if_pos q1]]
        exact ⟨_, rfl, fun _ => ⟨by rw [bf_u_at, hlen], hL2⟩, by show (a ++ [(ps_c x p).2.2]).length ≤ 8; omega, hA2, fr, fun v hv => absurd hv (by simp)⟩
      · rw [if_pos (nI_lt (by omega) (by omega)), bf_u_at]
        by_cases q2 : 8 ≤ a.length + 1
        · rw [if_pos (show (8 : Int32) ≤ nI (a.length + 1) from nI_le (a := 8) q2 (by omega)), show ps_g x (m + 1) p a = (some (ps_c x p).2.1, a ++ [(ps_c x p).2.2]) by rw [ps_g, if_pos z, if_neg q1, if_pos (Or.inl q2)]]
          exact ⟨_, rfl, fun w => absurd w (by simp), by show (a ++ [(ps_c x p).2.2]).length ≤ 8; omega, hA2, fr, fun v hv => by have := Option.some.inj hv; omega⟩
        · rw [if_neg (show ¬ (8 : Int32) ≤ nI (a.length + 1) from nI_ge (b := 8) (by omega) (by omega))]
          by_cases q3 : ps_s x (ps_c x p).2.1 59
          · rw [cl_skip_t (a := 59) (c := 59) rfl hx hT2 q3]
            simp only [Option.bind_some]
            rw [if_neg bp_10, show ps_g x (m + 1) p a = ps_g x m ((ps_c x p).2.1 + 1) (a ++ [(ps_c x p).2.2]) by rw [ps_g, if_pos z, if_neg q1, if_neg (fun w => w.elim q2 (fun y => y q3))]]
            obtain ⟨I2, g1, g2, g3, g4, g5, g6⟩ := cl_fault hx K n m ((ps_c x p).2.1 + 1) (a ++ [(ps_c x p).2.2]) (bf_u (bf_u I1 124 1 (nI (a.length + 1))) 124 4 (nI ((ps_c x p).2.1 + 1))) (by omega) (by omega) (by omega) q3.1 (hT2.u1 _) (by rw [bf_u_ni (by omega), bf_u_at, hlen]) (fun c y hy => (hL2 c y hy).cg (by rw [bf_u_ne (by omega)]) (by rw [bf_u_ne (by omega)])) hA2
            rw [hlen] at g1
            exact ⟨I2, g1, g2, g3, g4, fun q hq => by rw [g5 q hq, bf_u_ne (by omega), fr q hq], g6⟩
          · rw [cl_skip_f (a := 59) (c := 59) rfl (by omega) hx e6 hT2 q3, show ps_g x (m + 1) p a = (some (ps_c x p).2.1, a ++ [(ps_c x p).2.2]) by rw [ps_g, if_pos z, if_neg q1, if_pos (Or.inr q3)]]
            simp only [Option.bind_some]
            refine ⟨bf_u I1 124 1 (nI (a.length + 1)), ?_, fun w => absurd w (by simp), by show (a ++ [(ps_c x p).2.2]).length ≤ 8; omega, hA2, fr, fun v hv => by have := Option.some.inj hv; omega⟩
            rw [if_pos trivial, hT2.2.1]
            rfl
    · rw [if_neg z, if_pos rfl, e2.2.1, show ps_g x (m + 1) p a = (some (ps_c x p).2.1, a) by rw [ps_g, if_neg z]]
      exact ⟨I1, rfl, fun w => absurd w (by simp), by show a.length ≤ 8; omega, hA, fun q hq => e4 q (by omega) (by omega) (by omega), fun v hv => by have := Option.some.inj hv; omega⟩
end GR2
