/-- a clause read, on the reference's side -/
def ml_K (I : Nat → Nat → Int32) (c : Nat) (y : ps_C) : Prop := (I 161 (11 * c) = nI y.1 ∧ I 161 (11 * c + 1) = nI y.2.1 ∧ I 161 (11 * c + 2) = nI y.2.2.1 ∧ I 161 (11 * c + 3) = nI y.2.2.2.1) ∧ ml_T I c y.2.2.2.2
section GR4
variable {L : Nat → Nat → Int64} {x : List Nat}
theorem ml_p96 {I : Nat → Nat → Int32} (a : Int32) : f_X12_isClause_p96 156 a I L = some (0, I, L) := rfl
theorem ml_clause {I : Nat → Nat → Int32} {c p : Nat} (hx : tx_ok x) (hc : c < 8) (hp : p ≤ x.length) (hT : tx_m I x p) (h8 : I 156 8 = nI c) : ∃ I1, f_X12_isClause 156 I L = some ((if (ps_c x p).1 = true then 1 else 0), I1, L) ∧ tx_m I1 x (ps_c x p).2.1 ∧ ((ps_c x p).1 = true → ml_K I1 c (ps_c x p).2.2) ∧ (∀ q, q ≠ 156 → q ≠ 161 → I1 q = I q) ∧ (∀ j, j ≠ 6 → I1 156 j = I 156 j) ∧ (∀ j, j < 11 * c → I1 161 j = I 161 j) := by
  unfold f_X12_isClause
  rw [h8, show (11 : Int32) = nI 11 from rfl, pk_mul, bp_p1, bp_p2, bp_p3, bp_p4, if_pos (bp_ok (by omega) (by omega)), bp_cl (by omega)]
  simp only [Nat.reduceAdd]
  have hT0 : tx_m (bf_u I 161 (11 * c + 4) 0) x p := hT.uo (by omega) (by omega)
  cases h0 : ps_d x p 0 9 with
  | none =>
    have e : ps_c x p = (false, p, (0, 0, 0, 0, [])) := by simp only [ps_c, h0]
    rw [ml_digit_n (a := 0) (b := 9) (lo := 0) (hi := 9) rfl rfl (by omega) (by omega) hx (by omega) hT0 h0, e]
    simp only [Option.bind_some]
    exact ⟨_, rfl, hT0, fun z => absurd z Bool.false_ne_true, fun q q1 q2 => by simp only [bf_u_ne q1, bf_u_ne q2], fun j hj => by simp (disch := omega) only [bf_u_ne, bf_u_ni], fun j hj => by simp (disch := omega) only [bf_u_ne, bf_u_ni]⟩
  | some f =>
    have i0 := ps_dI h0
    rw [ml_digit_s (a := 0) (b := 9) (lo := 0) (hi := 9) (at1 := 11 * c) rfl (by omega) rfl rfl (by omega) (by omega) hx hT0 h0]
    simp only [Option.bind_some]
    rw [if_neg bp_10]
    have T0 : tx_m (bf_u (bf_u (bf_u I 161 (11 * c + 4) 0) 161 (11 * c) (nI f)) 156 6 (nI (p + 1))) x (p + 1) := (hT0.uo (by omega) (by omega)).u1 _
    by_cases h1 : ps_s x (p + 1) 58
    case neg =>
      have e : ps_c x p = (false, p + 1, (0, 0, 0, 0, [])) := by simp only [ps_c, h0, if_neg h1]
      rw [ml_sign_f (a := 58) (c := 58) rfl (by omega) hx (by omega) T0 h1, e]
      simp only [Option.bind_some]
      exact ⟨_, rfl, T0, fun z => absurd z Bool.false_ne_true, fun q q1 q2 => by simp only [bf_u_ne q1, bf_u_ne q2], fun j hj => by simp (disch := omega) only [bf_u_ne, bf_u_ni], fun j hj => by simp (disch := omega) only [bf_u_ne, bf_u_ni]⟩
    have i1 := h1.1
    rw [ml_sign_t (a := 58) (c := 58) rfl hx T0 h1]
    simp only [Option.bind_some]
    rw [if_neg bp_10]
    have T1 : tx_m (bf_u (bf_u (bf_u (bf_u I 161 (11 * c + 4) 0) 161 (11 * c) (nI f)) 156 6 (nI (p + 1))) 156 6 (nI (p + 2))) x (p + 2) := T0.u1 _
    cases h2 : ps_d x (p + 2) 1 4 with
    | none =>
      have e : ps_c x p = (false, p + 2, (0, 0, 0, 0, [])) := by simp only [ps_c, h0, if_pos h1, h2]
      rw [ml_digit_n (a := 1) (b := 4) (lo := 1) (hi := 4) rfl rfl (by omega) (by omega) hx (by omega) T1 h2, e]
      simp only [Option.bind_some]
      exact ⟨_, rfl, T1, fun z => absurd z Bool.false_ne_true, fun q q1 q2 => by simp only [bf_u_ne q1, bf_u_ne q2], fun j hj => by simp (disch := omega) only [bf_u_ne, bf_u_ni], fun j hj => by simp (disch := omega) only [bf_u_ne, bf_u_ni]⟩
    | some u =>
      have i2 := ps_dI h2
      rw [ml_digit_s (a := 1) (b := 4) (lo := 1) (hi := 4) (at1 := 11 * c + 2) rfl (by omega) rfl rfl (by omega) (by omega) hx T1 h2]
      simp only [Option.bind_some]
      rw [if_neg bp_10]
      have T2 : tx_m (bf_u (bf_u (bf_u (bf_u (bf_u (bf_u I 161 (11 * c + 4) 0) 161 (11 * c) (nI f)) 156 6 (nI (p + 1))) 156 6 (nI (p + 2))) 161 (11 * c + 2) (nI u)) 156 6 (nI (p + 3))) x (p + 3) := (T1.uo (by omega) (by omega)).u1 _
      by_cases h3 : ps_s x (p + 3) 62
      case neg =>
        have e : ps_c x p = (false, p + 3, (0, 0, 0, 0, [])) := by simp only [ps_c, h0, if_pos h1, h2, if_neg h3]
        rw [ml_sign_f (a := 62) (c := 62) rfl (by omega) hx (by omega) T2 h3, e]
        simp only [Option.bind_some]
        exact ⟨_, rfl, T2, fun z => absurd z Bool.false_ne_true, fun q q1 q2 => by simp only [bf_u_ne q1, bf_u_ne q2], fun j hj => by simp (disch := omega) only [bf_u_ne, bf_u_ni], fun j hj => by simp (disch := omega) only [bf_u_ne, bf_u_ni]⟩
      have i3 := h3.1
      rw [ml_sign_t (a := 62) (c := 62) rfl hx T2 h3]
      simp only [Option.bind_some]
      rw [if_neg bp_10]
      have T3 : tx_m (bf_u (bf_u (bf_u (bf_u (bf_u (bf_u (bf_u I 161 (11 * c + 4) 0) 161 (11 * c) (nI f)) 156 6 (nI (p + 1))) 156 6 (nI (p + 2))) 161 (11 * c + 2) (nI u)) 156 6 (nI (p + 3))) 156 6 (nI (p + 4))) x (p + 4) := T2.u1 _
      cases h4 : ps_d x (p + 4) 0 9 with
      | none =>
        have e : ps_c x p = (false, p + 4, (0, 0, 0, 0, [])) := by simp only [ps_c, h0, if_pos h1, h2, if_pos h3, h4]
        rw [ml_digit_n (a := 0) (b := 9) (lo := 0) (hi := 9) rfl rfl (by omega) (by omega) hx (by omega) T3 h4, e]
        simp only [Option.bind_some]
        exact ⟨_, rfl, T3, fun z => absurd z Bool.false_ne_true, fun q q1 q2 => by simp only [bf_u_ne q1, bf_u_ne q2], fun j hj => by simp (disch := omega) only [bf_u_ne, bf_u_ni], fun j hj => by simp (disch := omega) only [bf_u_ne, bf_u_ni]⟩
      | some t =>
        have i4 := ps_dI h4
        rw [ml_digit_s (a := 0) (b := 9) (lo := 0) (hi := 9) (at1 := 11 * c + 1) rfl (by omega) rfl rfl (by omega) (by omega) hx T3 h4]
        simp only [Option.bind_some]
        rw [if_neg bp_10]
        have T4 : tx_m (bf_u (bf_u (bf_u (bf_u (bf_u (bf_u (bf_u (bf_u (bf_u I 161 (11 * c + 4) 0) 161 (11 * c) (nI f)) 156 6 (nI (p + 1))) 156 6 (nI (p + 2))) 161 (11 * c + 2) (nI u)) 156 6 (nI (p + 3))) 156 6 (nI (p + 4))) 161 (11 * c + 1) (nI t)) 156 6 (nI (p + 5))) x (p + 5) := (T3.uo (by omega) (by omega)).u1 _
        by_cases h5 : ps_s x (p + 5) 58
        case neg =>
          have e : ps_c x p = (false, p + 5, (0, 0, 0, 0, [])) := by simp only [ps_c, h0, if_pos h1, h2, if_pos h3, h4, if_neg h5]
          rw [ml_sign_f (a := 58) (c := 58) rfl (by omega) hx (by omega) T4 h5, e]
          simp only [Option.bind_some]
          exact ⟨_, rfl, T4, fun z => absurd z Bool.false_ne_true, fun q q1 q2 => by simp only [bf_u_ne q1, bf_u_ne q2], fun j hj => by simp (disch := omega) only [bf_u_ne, bf_u_ni], fun j hj => by simp (disch := omega) only [bf_u_ne, bf_u_ni]⟩
        have i5 := h5.1
        rw [ml_sign_t (a := 58) (c := 58) rfl hx T4 h5]
        simp only [Option.bind_some]
        rw [if_neg bp_10]
        have T5 : tx_m (bf_u (bf_u (bf_u (bf_u (bf_u (bf_u (bf_u (bf_u (bf_u (bf_u I 161 (11 * c + 4) 0) 161 (11 * c) (nI f)) 156 6 (nI (p + 1))) 156 6 (nI (p + 2))) 161 (11 * c + 2) (nI u)) 156 6 (nI (p + 3))) 156 6 (nI (p + 4))) 161 (11 * c + 1) (nI t)) 156 6 (nI (p + 5))) 156 6 (nI (p + 6))) x (p + 6) := T4.u1 _
        cases h6 : ps_d x (p + 6) 1 4 with
        | none =>
          have e : ps_c x p = (false, p + 6, (0, 0, 0, 0, [])) := by simp only [ps_c, h0, if_pos h1, h2, if_pos h3, h4, if_pos h5, h6]
          rw [ml_digit_n (a := 1) (b := 4) (lo := 1) (hi := 4) rfl rfl (by omega) (by omega) hx (by omega) T5 h6, e]
          simp only [Option.bind_some]
          exact ⟨_, rfl, T5, fun z => absurd z Bool.false_ne_true, fun q q1 q2 => by simp only [bf_u_ne q1, bf_u_ne q2], fun j hj => by simp (disch := omega) only [bf_u_ne, bf_u_ni], fun j hj => by simp (disch := omega) only [bf_u_ne, bf_u_ni]⟩
        | some k =>
          have i6 := ps_dI h6
          rw [ml_digit_s (a := 1) (b := 4) (lo := 1) (hi := 4) (at1 := 11 * c + 3) rfl (by omega) rfl rfl (by omega) (by omega) hx T5 h6]
          simp only [Option.bind_some]
          rw [if_neg bp_10]
          have T6 : tx_m (bf_u (bf_u (bf_u (bf_u (bf_u (bf_u (bf_u (bf_u (bf_u (bf_u (bf_u (bf_u I 161 (11 * c + 4) 0) 161 (11 * c) (nI f)) 156 6 (nI (p + 1))) 156 6 (nI (p + 2))) 161 (11 * c + 2) (nI u)) 156 6 (nI (p + 3))) 156 6 (nI (p + 4))) 161 (11 * c + 1) (nI t)) 156 6 (nI (p + 5))) 156 6 (nI (p + 6))) 161 (11 * c + 3) (nI k)) 156 6 (nI (p + 7))) x (p + 7) := (T5.uo (by omega) (by omega)).u1 _
          unfold f_X12_isClause_p97
          rw [if_neg bp_10, T6.2.1, ml_byte hx (by omega) T6]
          simp only [Option.bind_some]
          by_cases h7 : ps_s x (p + 7) 43
          case neg =>
            have e : ps_c x p = (true, p + 7, (f, t, u, k, [])) := by simp only [ps_c, h0, if_pos h1, h2, if_pos h3, h4, if_pos h5, h6, if_neg h7]
            rw [if_neg (show ¬ (if p + 7 < x.length then nI (x.getD (p + 7) 0) else (-1 : Int32)) = (43 : Int32) from ml_ne (c := 43) (by omega) hx h7), if_pos (Or.inr trivial), e]
            refine ⟨_, rfl, T6, fun _ => ⟨⟨?_, ?_, ?_, ?_⟩, ?_, fun i hi => absurd hi (Nat.not_lt_zero _)⟩, fun q q1 q2 => by simp only [bf_u_ne q1, bf_u_ne q2], fun j hj => by simp (disch := omega) only [bf_u_ne, bf_u_ni], fun j hj => by simp (disch := omega) only [bf_u_ne, bf_u_ni]⟩
            · simp (disch := omega) only [bf_u_ne, bf_u_ni, bf_u_at]
            · simp (disch := omega) only [bf_u_ne, bf_u_ni, bf_u_at]
            · simp (disch := omega) only [bf_u_ne, bf_u_ni, bf_u_at]
            · simp (disch := omega) only [bf_u_ne, bf_u_ni, bf_u_at]
            · simp (disch := omega) only [bf_u_ne, bf_u_ni, bf_u_at]
              rfl
          have i7 := h7.1
          rw [if_pos h7.1, h7.2, if_pos (show nI 43 = (43 : Int32) from rfl)]
          have e : ps_c x p = ((ps_t x 6 (p + 8) []).1, (ps_t x 6 (p + 8) []).2.1, (f, t, u, k, (ps_t x 6 (p + 8) []).2.2)) := by simp only [ps_c, h0, if_pos h1, h2, if_pos h3, h4, if_pos h5, h6, if_pos h7]
          obtain ⟨I1, g1, g2, g3, g4, g5, g6⟩ := ml_tokens (L := L) hx hc 400 6 (p + 7) [] (bf_u (bf_u (bf_u (bf_u (bf_u (bf_u (bf_u (bf_u (bf_u (bf_u (bf_u (bf_u I 161 (11 * c + 4) 0) 161 (11 * c) (nI f)) 156 6 (nI (p + 1))) 156 6 (nI (p + 2))) 161 (11 * c + 2) (nI u)) 156 6 (nI (p + 3))) 156 6 (nI (p + 4))) 161 (11 * c + 1) (nI t)) 156 6 (nI (p + 5))) 156 6 (nI (p + 6))) 161 (11 * c + 3) (nI k)) 156 6 (nI (p + 7))) rfl (by omega) (by omega) (by omega) T6 ⟨by simp (disch := omega) only [bf_u_ne, bf_u_ni, bf_u_at]; rfl, fun i hi => absurd hi (Nat.not_lt_zero _)⟩
          rw [e]
          refine ⟨I1, g1, g2, fun z => ⟨⟨?_, ?_, ?_, ?_⟩, g3 z⟩, fun q q1 q2 => by rw [g4 q q1 q2]; simp only [bf_u_ne q1, bf_u_ne q2], fun j hj => by rw [g5 j hj]; simp (disch := omega) only [bf_u_ne, bf_u_ni], fun j hj => by rw [g6 j (by omega)]; simp (disch := omega) only [bf_u_ne, bf_u_ni]⟩
          · rw [g6 _ (by omega)]
            simp (disch := omega) only [bf_u_ne, bf_u_ni, bf_u_at]
          · rw [g6 _ (by omega)]
            simp (disch := omega) only [bf_u_ne, bf_u_ni, bf_u_at]
          · rw [g6 _ (by omega)]
            simp (disch := omega) only [bf_u_ne, bf_u_ni, bf_u_at]
          · rw [g6 _ (by omega)]
            simp (disch := omega) only [bf_u_ne, bf_u_ni, bf_u_at]
def ml_L (I : Nat → Nat → Int32) (a : List ps_C) : Prop := ∀ c y, a[c]? = some y → ml_K I c y
theorem ml_K.cg {I I2 : Nat → Nat → Int32} {c : Nat} {y : ps_C} (h : ml_K I c y) (hy : ps_ok y) (h1 : ∀ j, 11 * c ≤ j → j < 11 * c + 11 → I2 161 j = I 161 j) : ml_K I2 c y := by
  obtain ⟨⟨k1, k2, k3, k4⟩, k5, k6⟩ := h
  have hl := hy.2.2.2.2
  refine ⟨⟨by rw [h1 _ (by omega) (by omega)]; exact k1, by rw [h1 _ (by omega) (by omega)]; exact k2, by rw [h1 _ (by omega) (by omega)]; exact k3, by rw [h1 _ (by omega) (by omega)]; exact k4⟩, by rw [h1 _ (by omega) (by omega)]; exact k5, fun i hi => by rw [h1 _ (by omega) (by omega)]; exact k6 i hi⟩
/-- what the reading of all clauses leaves -/
def ml_R (I : Nat → Nat → Int32) (x : List Nat) (g : Int32) (r : Option Nat × List ps_C) : Prop := match r.1 with
  | none => g = 1 ∧ I 156 6 = nI x.length ∧ I 156 8 = nI r.2.length ∧ ml_L I r.2
  | some v => I 156 6 = nI v ∧ v ≤ x.length ∧ (g = 0 ∨ (g = 1 ∧ v < x.length))
theorem ml_fault (hx : tx_ok x) (K : Int32 → (Nat → Nat → Int32) → (Nat → Nat → Int64) → Option (Int32 × bf_St)) : ∀ (m n p : Nat) (a : List ps_C) (I : Nat → Nat → Int32), a.length + m = 8 → 1 ≤ m → m + 1 < n → p ≤ x.length → tx_m I x p → I 156 8 = nI a.length → ml_L I a → (∀ y ∈ a, ps_ok y) → ∃ g I1, ((f_X12_isClause 156 I L).bind (fun r => if r.1 = 0 then f_X12_graph_12 156 K n r.1 (bf_u r.2.1 156 8 (r.2.1 156 8 + 0)) r.2.2 else f_X12_graph_12 156 K n r.1 (bf_u r.2.1 156 8 (r.2.1 156 8 + 1)) r.2.2)) = K g I1 L ∧ ml_R I1 x g (ps_g x m p a) ∧ (∀ q, q ≠ 156 → q ≠ 161 → I1 q = I q) ∧ (∀ j, j ≠ 6 → j ≠ 8 → I1 156 j = I 156 j)
  | 0, n, p, a, I, h1, h2, h3, hp, hT, hC, hL, hA => by omega
  | m + 1, 0, p, a, I, h1, h2, h3, hp, hT, hC, hL, hA => by omega
  | m + 1, n + 1, p, a, I, h1, h2, h3, hp, hT, hC, hL, hA => by
    have hl := hx.1
    obtain ⟨I1, e1, e2, e3, e4, e5, e6⟩ := ml_clause (L := L) hx (show a.length < 8 by omega) hp hT hC
    obtain ⟨-, -, d3, -, -, d6⟩ := (cl_clause (L := L) (I := fun o j => if o = 124 then (if j = 0 then nI x.length else nI p) else nI (x.getD j 0)) hx (show a.length < 8 by omega) hp ⟨rfl, rfl, fun k hk => rfl⟩).choose_spec
    have hC1 : I1 156 8 = nI a.length := by rw [e5 8 (by omega)]; exact hC
    rw [e1]
    simp only [Option.bind_some]
    by_cases z : (ps_c x p).1 = true
    · have hyok := (d3 z).2
      obtain ⟨J, hJ⟩ : ∃ J, J = bf_u I1 156 8 (nI (a.length + 1)) := ⟨_, rfl⟩
      have fr : (∀ q, q ≠ 156 → q ≠ 161 → J q = I q) ∧ (∀ j, j ≠ 6 → j ≠ 8 → J 156 j = I 156 j) := by
        rw [hJ]
        exact ⟨fun q q1 q2 => by rw [bf_u_ne q1, e4 q q1 q2], fun j j1 j2 => by rw [bf_u_ni j2, e5 j j1]⟩
      have hT2 : tx_m J x (ps_c x p).2.1 := by
        obtain ⟨k1, k2, k3⟩ := e2
        rw [hJ]
        exact ⟨by rw [bf_u_ni (by omega)]; exact k1, by rw [bf_u_ni (by omega)]; exact k2, fun k hk => by rw [bf_u_ne (by omega)]; exact k3 k hk⟩
      have hL2 : ml_L J (a ++ [(ps_c x p).2.2]) := fun c y hy => by
        rcases bl_app hy with ⟨q, hk⟩ | ⟨q, e⟩
        · exact (hL c y hk).cg (hA y (List.mem_of_getElem? hk)) (fun j j1 j2 => by rw [hJ, bf_u_ne (by omega), e6 _ (by omega)])
        · subst e q
          exact (e3 z).cg hyok (fun j j1 j2 => by rw [hJ, bf_u_ne (by omega)])
      have hA2 : ∀ y ∈ a ++ [(ps_c x p).2.2], ps_ok y := fun y hy => (bl_mem hy).elim (hA y) (fun e => by rw [e]; exact hyok)
      have hlen : (a ++ [(ps_c x p).2.2]).length = a.length + 1 := bl_len
      have hJ8 : J 156 8 = nI (a.length + 1) := by rw [hJ, bf_u_at]
      rw [if_pos z, if_neg bp_10, hC1, bp_p1, ← hJ, f_X12_graph_12, if_neg bp_10, hJ8, if_neg (nI_ne0 (by omega) (by omega))]
      by_cases q2 : 8 ≤ a.length + 1
      · rw [if_pos (show (8 : Int32) ≤ nI (a.length + 1) from nI_le (a := 8) q2 (by omega))]
        refine ⟨1, J, rfl, ?_, fr⟩
        by_cases q1 : x.length ≤ (ps_c x p).2.1
        · rw [show ps_g x (m + 1) p a = (none, a ++ [(ps_c x p).2.2]) by rw [ps_g, if_pos z, if_pos q1]]
          refine ⟨rfl, by rw [hT2.2.1, show (ps_c x p).2.1 = x.length by omega], by show J 156 8 = nI (a ++ [(ps_c x p).2.2]).length; rw [hlen]; exact hJ8, hL2⟩
        · rw [show ps_g x (m + 1) p a = (some (ps_c x p).2.1, a ++ [(ps_c x p).2.2]) by rw [ps_g, if_pos z, if_neg q1, if_pos (Or.inl q2)]]
          exact ⟨hT2.2.1, d6, Or.inr ⟨rfl, by omega⟩⟩
      · rw [if_neg (show ¬ (8 : Int32) ≤ nI (a.length + 1) from nI_ge (b := 8) (by omega) (by omega))]
        by_cases q3 : ps_s x (ps_c x p).2.1 59
        · have hlt := q3.1
          rw [ml_sign_t (a := 59) (c := 59) rfl hx hT2 q3]
          simp only [Option.bind_some]
          rw [if_neg bp_10, show ps_g x (m + 1) p a = ps_g x m ((ps_c x p).2.1 + 1) (a ++ [(ps_c x p).2.2]) by rw [ps_g, if_pos z, if_neg (by omega), if_neg (fun w => w.elim q2 (fun y => y q3))]]
          obtain ⟨g, I2, g1, g2, g3, g4⟩ := ml_fault hx K m n ((ps_c x p).2.1 + 1) (a ++ [(ps_c x p).2.2]) (bf_u J 156 6 (nI ((ps_c x p).2.1 + 1))) (by omega) (by omega) (by omega) hlt (hT2.u1 _) (by rw [bf_u_ni (by omega), hJ8, hlen]) (fun c y hy => (hL2 c y hy).cg (hA2 y (List.mem_of_getElem? hy)) (fun j j1 j2 => by rw [bf_u_ne (by omega)])) hA2
          exact ⟨g, I2, g1, g2, fun q q1 q2 => by rw [g3 q q1 q2, bf_u_ne q1, fr.1 q q1 q2], fun j j1 j2 => by rw [g4 j j1 j2, bf_u_ni j1, fr.2 j j1 j2]⟩
        · rw [ml_sign_f (a := 59) (c := 59) rfl (by omega) hx d6 hT2 q3]
          simp only [Option.bind_some]
          refine ⟨1, J, by rw [if_pos trivial], ?_, fr⟩
          by_cases q1 : x.length ≤ (ps_c x p).2.1
          · rw [show ps_g x (m + 1) p a = (none, a ++ [(ps_c x p).2.2]) by rw [ps_g, if_pos z, if_pos q1]]
            refine ⟨rfl, by rw [hT2.2.1, show (ps_c x p).2.1 = x.length by omega], by show J 156 8 = nI (a ++ [(ps_c x p).2.2]).length; rw [hlen]; exact hJ8, hL2⟩
          · rw [show ps_g x (m + 1) p a = (some (ps_c x p).2.1, a ++ [(ps_c x p).2.2]) by rw [ps_g, if_pos z, if_neg q1, if_pos (Or.inr q3)]]
            exact ⟨hT2.2.1, d6, Or.inr ⟨rfl, by omega⟩⟩
    · rw [if_neg z, if_pos rfl, show ps_g x (m + 1) p a = (some (ps_c x p).2.1, a) by rw [ps_g, if_neg z], f_X12_graph_12, if_pos rfl]
      exact ⟨0, _, rfl, ⟨by rw [bf_u_ni (by omega)]; exact e2.2.1, d6, Or.inl rfl⟩, fun q q1 q2 => by rw [bf_u_ne q1, e4 q q1 q2], fun j j1 j2 => by rw [bf_u_ni j2, e5 j j1]⟩
end GR4
