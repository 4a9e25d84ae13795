/-! the reference's reading -/
def tx_m (I : Nat → Nat → Int32) (x : List Nat) (p : Nat) : Prop := I 156 5 = nI x.length ∧ I 156 6 = nI p ∧ ∀ k, k < x.length → I 160 k = nI (x.getD k 0)
theorem tx_m.u1 {I : Nat → Nat → Int32} {x : List Nat} {p : Nat} (h : tx_m I x p) (q : Nat) : tx_m (bf_u I 156 6 (nI q)) x q := by
  obtain ⟨h1, h2, h3⟩ := h
  exact ⟨by rw [bf_u_ni (by omega)]; exact h1, bf_u_at, fun k hk => by rw [bf_u_ne (by omega)]; exact h3 k hk⟩
theorem tx_m.uo {I : Nat → Nat → Int32} {x : List Nat} {p : Nat} (h : tx_m I x p) {o j : Nat} {v : Int32} (h4 : o ≠ 156) (h5 : o ≠ 160) : tx_m (bf_u I o j v) x p := by
  unfold tx_m at h ⊢
  rw [bf_u_ne (Ne.symm h4), bf_u_ne (Ne.symm h5)]
  exact h
theorem bf_uu {J : Nat → Nat → Int32} {o j : Nat} {a b : Int32} : bf_u (bf_u J o j a) o j b = bf_u J o j b := by
  funext q i
  by_cases e : q = o
  · subst e
    by_cases e2 : i = j
    · subst e2; rw [bf_u_at, bf_u_at]
    · rw [bf_u_ni e2, bf_u_ni e2, bf_u_ni e2]
  · rw [bf_u_ne e, bf_u_ne e, bf_u_ne e]
section GR3
variable {L : Nat → Nat → Int64} {I : Nat → Nat → Int32} {x : List Nat} {p lo hi : Nat}
theorem ml_byte (hx : tx_ok x) (hp : p ≤ x.length) (hT : tx_m I x p) : f_X12_byteAt 156 (nI p) I L = some ((if p < x.length then nI (x.getD p 0) else -1), I, L) := by
  have hl := hx.1
  unfold f_X12_byteAt
  simp only [Nat.reduceAdd]
  rw [hT.1]
  by_cases q : p < x.length
  · rw [if_neg (nI_ge q (by omega)), if_pos (bp_ok (by omega) (by omega)), bp_cl (by omega), hT.2.2 p q, if_pos q]
  · rw [if_pos (nI_le (by omega) (by omega)), if_neg q]
theorem ml_inD (hx : tx_ok x) (hlo : lo ≤ 9) (hhi : hi ≤ 9) {a b : Int64} (ha : a.toInt = 48 + (lo : Int)) (hb : b.toInt = 48 + (hi : Int)) : f_X12_in (if p < x.length then nI (x.getD p 0) else (-1 : Int32)).toInt64 a b I L = some ((if p < x.length ∧ 48 + lo ≤ x.getD p 0 ∧ x.getD p 0 ≤ 48 + hi then 1 else 0), I, L) := by
  by_cases q : p < x.length
  · have h127 := hx.2 p q
    rw [if_pos q, bp_in]
    have e : (a ≤ (nI (x.getD p 0)).toInt64 ∧ (nI (x.getD p 0)).toInt64 ≤ b) ↔ (p < x.length ∧ 48 + lo ≤ x.getD p 0 ∧ x.getD p 0 ≤ 48 + hi) := by
      rw [bp_inI, ha, hb, bp_toI (by omega)]
      omega
    by_cases z : p < x.length ∧ 48 + lo ≤ x.getD p 0 ∧ x.getD p 0 ≤ 48 + hi
    · rw [if_pos (e.mpr z), if_pos z]
    · rw [if_neg (fun y => z (e.mp y)), if_neg z]
  · rw [if_neg q, if_neg (fun z => q z.1), bp_in, if_neg]
    rw [bp_inI, ha, show (-1 : Int32).toInt = -1 from rfl]
    omega
theorem ml_48 {c : Nat} {a : Int32} (ha : a = nI c) (hc : c ≤ 9) : ((48 : Int32) + a).toInt64.toInt = 48 + (c : Int) := by
  rw [ha, show (48 : Int32) = nI 48 from rfl, nI_add, Int32.toInt_toInt64, bp_toI (by omega)]
  omega
theorem ml_digit_s {d at1 : Nat} {c a b : Int32} (hc : c = nI at1) (hat : at1 < 88) (ha : a = nI lo) (hb : b = nI hi) (hlo : lo ≤ 9) (hhi : hi ≤ 9) (hx : tx_ok x) (hT : tx_m I x p) (h : ps_d x p lo hi = some d) : f_X12_digit 156 c a b I L = some (1, bf_u (bf_u I 161 at1 (nI d)) 156 6 (nI (p + 1)), L) := by
  obtain ⟨q1, q2, q3, q4⟩ := ps_dI h
  unfold f_X12_digit
  rw [hT.2.1, ml_byte hx (by omega) hT]
  simp only [Option.bind_some, Nat.reduceAdd]
  rw [ml_inD hx hlo hhi (ml_48 ha hlo) (ml_48 hb hhi), if_pos ⟨q1, by omega, by omega⟩]
  simp only [Option.bind_some]
  rw [if_neg bp_10, hc, if_pos (bp_ok hat (by omega)), bp_cl (by omega), if_pos q1, q4, show (48 : Int32) = nI 48 from rfl, pk_sub (by omega), show d + 48 - 48 = d by omega, bf_u_ne (by omega), hT.2.1, bp_p1]
theorem ml_digit_n {c a b : Int32} (ha : a = nI lo) (hb : b = nI hi) (hlo : lo ≤ 9) (hhi : hi ≤ 9) (hx : tx_ok x) (hp : p ≤ x.length) (hT : tx_m I x p) (h : ps_d x p lo hi = none) : f_X12_digit 156 c a b I L = some (0, I, L) := by
  have q := ps_dN h
  unfold f_X12_digit
  rw [hT.2.1, ml_byte hx hp hT]
  simp only [Option.bind_some]
  rw [ml_inD hx hlo hhi (ml_48 ha hlo) (ml_48 hb hhi), if_neg q]
  rfl
theorem ml_sign_t {c : Nat} {a : Int32} (ha : a = nI c) (hx : tx_ok x) (hT : tx_m I x p) (h : ps_s x p c) : f_X12_sign 156 a I L = some (1, bf_u I 156 6 (nI (p + 1)), L) := by
  have := h.1
  unfold f_X12_sign
  rw [hT.2.1, ml_byte hx (by omega) hT]
  simp only [Option.bind_some]
  rw [if_pos h.1, h.2, ha, if_pos rfl, hT.2.1, bp_p1]
theorem ml_ne {c : Nat} (hc : c < 1000) (hx : tx_ok x) (h : ¬ ps_s x p c) : ¬ (if p < x.length then nI (x.getD p 0) else (-1 : Int32)) = nI c := fun z => by
  by_cases q : p < x.length
  · have := hx.2 p q
    rw [if_pos q, bp_eq (by omega) (by omega)] at z
    exact h ⟨q, z⟩
  · rw [if_neg q] at z
    exact bp_nm1 (by omega) z.symm
theorem ml_sign_f {c : Nat} {a : Int32} (ha : a = nI c) (hc : c < 1000) (hx : tx_ok x) (hp : p ≤ x.length) (hT : tx_m I x p) (h : ¬ ps_s x p c) : f_X12_sign 156 a I L = some (0, I, L) := by
  unfold f_X12_sign
  rw [hT.2.1, ml_byte hx hp hT]
  simp only [Option.bind_some]
  rw [ha, if_neg (ml_ne hc hx h)]
theorem ml_n4_s {m c v d : Nat} {a1 : Int32} (hx : tx_ok x) (hT : tx_m I x p) (h : ps_d x p 0 9 = some d) (hc : c < 3) (hv : v ≤ 99) (K : Int32 → Int32 → (Nat → Nat → Int32) → (Nat → Nat → Int64) → Option (Int32 × bf_St)) : f_X12_number_4 156 a1 K (m + 1) (nI c) (nI v) I L = f_X12_number_4 156 a1 K m (nI (c + 1)) (nI (10 * v + d)) (bf_u I 156 6 (nI (p + 1))) L := by
  obtain ⟨q1, q2, q3, q4⟩ := ps_dI h
  rw [f_X12_number_4, if_neg (show ¬ (3 : Int32) ≤ nI c from nI_ge (b := 3) hc (by omega)), hT.2.1, ml_byte hx (by omega) hT]
  simp only [Option.bind_some]
  rw [ml_inD (lo := 0) (hi := 9) hx (by omega) (by omega) rfl rfl, if_pos ⟨q1, by omega, by omega⟩]
  simp only [Option.bind_some]
  rw [if_neg bp_10, hT.2.1, ml_byte hx (by omega) hT]
  simp only [Option.bind_some]
  rw [if_pos q1, q4, hT.2.1, bp_p1, bp_p1, show (10 : Int32) = nI 10 from rfl, show (48 : Int32) = nI 48 from rfl, pk_mul, nI_add, pk_sub (by omega), show 10 * v + (d + 48) - 48 = 10 * v + d by omega]
theorem ml_n4_n {m c v : Nat} {a1 : Int32} (hx : tx_ok x) (hp : p ≤ x.length) (hT : tx_m I x p) (h : ps_d x p 0 9 = none) (K : Int32 → Int32 → (Nat → Nat → Int32) → (Nat → Nat → Int64) → Option (Int32 × bf_St)) (hc : c ≤ 3) : f_X12_number_4 156 a1 K (m + 1) (nI c) (nI v) I L = K (nI c) (nI v) I L := by
  rw [f_X12_number_4]
  by_cases hc3 : c = 3
  · rw [if_pos (show (3 : Int32) ≤ nI c from nI_le (a := 3) (by omega) (by omega))]
  · rw [if_neg (show ¬ (3 : Int32) ≤ nI c from nI_ge (b := 3) (by omega) (by omega)), hT.2.1, ml_byte hx hp hT]
    simp only [Option.bind_some]
    rw [ml_inD (lo := 0) (hi := 9) hx (by omega) (by omega) rfl rfl, if_neg (ps_dN h)]
    rfl
theorem ml_p63 {at1 c v : Nat} {a1 : Int32} (ha : a1 = nI at1) (hat : at1 < 88) (hc : c ≤ 3) : f_X12_number_p63 156 a1 (nI c) (nI v) I L = some ((if c = 0 then 0 else 1), bf_u I 161 at1 (nI v), L) := by
  unfold f_X12_number_p63
  simp only [Nat.reduceAdd]
  rw [ha, if_pos (bp_ok hat (by omega)), bp_cl (by omega)]
  by_cases e : c = 0
  · subst e
    rw [if_pos (by decide), if_pos rfl]
  · rw [if_neg (nI_nle (by omega) (by omega)), if_neg e]
theorem ml_number_n {at1 : Nat} {a1 : Int32} (ha : a1 = nI at1) (hat : at1 < 88) (hx : tx_ok x) (hp : p ≤ x.length) (hT : tx_m I x p) (h : ps_n x p = none) : f_X12_number 156 a1 I L = some (0, bf_u I 161 at1 0, L) := by
  have h0 : ps_d x p 0 9 = none := by
    unfold ps_n at h
    cases h0 : ps_d x p 0 9 with
    | none => rfl
    | some d =>
      rw [h0] at h
      cases h1 : ps_d x (p + 1) 0 9 with
      | none => rw [h1] at h; exact absurd h (by simp)
      | some e =>
        rw [h1] at h
        cases h2 : ps_d x (p + 2) 0 9 with
        | none => rw [h2] at h; exact absurd h (by simp)
        | some g => rw [h2] at h; exact absurd h (by simp)
  unfold f_X12_number
  rw [show f_X12_number_4 156 a1 _ 400 (0 : Int32) (0 : Int32) I L = _ from ml_n4_n (m := 399) (c := 0) (v := 0) hx hp hT h0 _ (by omega), ml_p63 ha hat (by omega)]
  rfl
theorem ml_number_s {at1 : Nat} {a1 : Int32} {v : Nat × Nat} (ha : a1 = nI at1) (hat : at1 < 88) (hx : tx_ok x) (hT : tx_m I x p) (h : ps_n x p = some v) : f_X12_number 156 a1 I L = some (1, bf_u (bf_u I 156 6 (nI v.2)) 161 at1 (nI v.1), L) := by
  unfold ps_n at h
  unfold f_X12_number
  cases h0 : ps_d x p 0 9 with
  | none => rw [h0] at h; exact absurd h (by simp)
  | some d =>
    rw [h0] at h
    have i0 := ps_dI h0
    rw [show f_X12_number_4 156 a1 _ 400 (0 : Int32) (0 : Int32) I L = _ from ml_n4_s (m := 399) (c := 0) (v := 0) hx hT h0 (by omega) (by omega) _]
    cases h1 : ps_d x (p + 1) 0 9 with
    | none =>
      rw [h1] at h
      have := Option.some.inj h
      subst this
      rw [ml_n4_n (m := 398) hx (by omega) (hT.u1 _) h1 _ (by omega), ml_p63 ha hat (by omega), if_neg (by omega), show 10 * 0 + d = d by omega]
    | some e =>
      rw [h1] at h
      have i1 := ps_dI h1
      rw [ml_n4_s (m := 398) hx (hT.u1 _) h1 (by omega) (by omega) _, bf_uu]
      cases h2 : ps_d x (p + 2) 0 9 with
      | none =>
        rw [h2] at h
        have := Option.some.inj h
        subst this
        rw [ml_n4_n (m := 397) hx (by omega) (hT.u1 _) h2 _ (by omega), ml_p63 ha hat (by omega), if_neg (by omega), show 10 * (10 * 0 + d) + e = d * 10 + e by omega]
      | some g =>
        rw [h2] at h
        have i2 := ps_dI h2
        have := Option.some.inj h
        subst this
        rw [ml_n4_s (m := 397) hx (hT.u1 _) h2 (by omega) (by omega) _, bf_uu, f_X12_number_4, if_pos (by decide), ml_p63 ha hat (by omega), if_neg (by omega), show 10 * (10 * (10 * 0 + d) + e) + g = (d * 10 + e) * 10 + g by omega]
/-- a clause of the reference's -/
def ml_T (I : Nat → Nat → Int32) (c : Nat) (a : List Nat) : Prop := I 161 (11 * c + 4) = nI a.length ∧ ∀ i, i < a.length → I 161 (11 * c + 5 + i) = nI (a.getD i 0)
theorem ml_tokens {c : Nat} (hx : tx_ok x) (hc : c < 8) : ∀ (n m p : Nat) (a : List Nat) (I : Nat → Nat → Int32), a.length + m = 6 → 1 ≤ m → m < n → p < x.length → tx_m I x p → ml_T I c a → ∃ I1, f_X12_isClause_117 156 (nI (11 * c)) (fun I21 L21 => some (1, I21, L21)) n I L = some ((if (ps_t x m (p + 1) a).1 = true then 1 else 0), I1, L) ∧ tx_m I1 x (ps_t x m (p + 1) a).2.1 ∧ ((ps_t x m (p + 1) a).1 = true → ml_T I1 c (ps_t x m (p + 1) a).2.2) ∧ (∀ q, q ≠ 156 → q ≠ 161 → I1 q = I q) ∧ (∀ j, j ≠ 6 → I1 156 j = I 156 j) ∧ (∀ j, j < 11 * c + 4 → I1 161 j = I 161 j)
  | 0, m, p, a, I, h1, h2, h3, hp, hT, hA => by omega
  | n + 1, 0, p, a, I, h1, h2, h3, hp, hT, hA => by omega
  | n + 1, m + 1, p, a, I, h1, h2, h3, hp, hT, hA => by
    have hT1 := hT.u1 (p + 1)
    rw [f_X12_isClause_117, bp_p4, bp_p5]
    simp only [Nat.reduceAdd]
    rw [if_pos (bp_ok (by omega) (by omega))]
    simp only [bp_cl (show 11 * c + 4 < 100000 by omega)]
    rw [bf_u_ne (by omega), hA.1, nI_add, hT.2.1, bp_p1]
    cases h0 : ps_n x (p + 1) with
    | none =>
      rw [ml_number_n rfl (by omega) hx (by omega) hT1 h0, show ps_t x (m + 1) (p + 1) a = (false, p + 1, a) by rw [ps_t, h0]]
      simp only [Option.bind_some]
      exact ⟨_, rfl, hT1.uo (by omega) (by omega), fun z => absurd z Bool.false_ne_true, fun q q1 q2 => by simp only [bf_u_ne q1, bf_u_ne q2], fun j hj => by simp (disch := omega) only [bf_u_ne, bf_u_ni], fun j hj => by simp (disch := omega) only [bf_u_ne, bf_u_ni]⟩
    | some v =>
      obtain ⟨v1, v2, v3⟩ := ps_nI h0
      rw [ml_number_s rfl (by omega) hx hT1 h0, bf_uu]
      simp only [Option.bind_some]
      have hcnt : bf_u (bf_u I 156 6 (nI v.2)) 161 (11 * c + 5 + a.length) (nI v.1) 161 (11 * c + 4) = nI a.length := by
        rw [bf_u_ni (by omega), bf_u_ne (by omega)]
        exact hA.1
      rw [if_neg bp_10, if_pos (bp_ok (by omega) (by omega)), if_pos (bp_ok (by omega) (by omega)), if_pos (bp_ok (by omega) (by omega)), hcnt, bp_p1, bf_u_at]
      obtain ⟨J, hJ⟩ : ∃ J, J = bf_u (bf_u (bf_u I 156 6 (nI v.2)) 161 (11 * c + 5 + a.length) (nI v.1)) 161 (11 * c + 4) (nI (a.length + 1)) := ⟨_, rfl⟩
      rw [← hJ]
      have hT2 : tx_m J x v.2 := by rw [hJ]; exact ((hT.u1 v.2).uo (by omega) (by omega)).uo (by omega) (by omega)
      have hA1 : ml_T J c (a ++ [v.1]) := by
        rw [hJ]
        refine ⟨by rw [bf_u_at, List.length_append]; rfl, fun i hi => ?_⟩
        rw [List.length_append, List.length_singleton] at hi
        rw [bf_u_ni (by omega)]
        by_cases e : i = a.length
        · subst e
          rw [bf_u_at, List.getD_eq_getElem?_getD, List.getElem?_append_right (Nat.le_refl _), Nat.sub_self]
          rfl
        · rw [bf_u_ni (by omega), bf_u_ne (by omega), hA.2 i (by omega), List.getD_eq_getElem?_getD, List.getD_eq_getElem?_getD, List.getElem?_append_left (by omega)]
      have fr : (∀ q, q ≠ 156 → q ≠ 161 → J q = I q) ∧ (∀ j, j ≠ 6 → J 156 j = I 156 j) ∧ (∀ j, j < 11 * c + 4 → J 161 j = I 161 j) := by
        rw [hJ]
        exact ⟨fun q q1 q2 => by simp only [bf_u_ne q1, bf_u_ne q2], fun j hj => by simp (disch := omega) only [bf_u_ne, bf_u_ni], fun j hj => by simp (disch := omega) only [bf_u_ne, bf_u_ni]⟩
      by_cases hs : 6 ≤ a.length + 1
      · rw [if_pos (show (6 : Int32) ≤ nI (a.length + 1) from nI_le (a := 6) hs (by omega)), show ps_t x (m + 1) (p + 1) a = (true, v.2, a ++ [v.1]) by rw [ps_t, h0]; exact if_pos (Or.inl hs)]
        exact ⟨J, rfl, hT2, fun _ => hA1, fr⟩
      · rw [if_neg (show ¬ (6 : Int32) ≤ nI (a.length + 1) from nI_ge (b := 6) (by omega) (by omega)), hT2.2.1, ml_byte hx v2 hT2]
        simp only [Option.bind_some]
        by_cases hk : ps_s x v.2 44
        · rw [if_pos hk.1, hk.2, if_pos (show nI 44 = (44 : Int32) from rfl), show ps_t x (m + 1) (p + 1) a = ps_t x m (v.2 + 1) (a ++ [v.1]) by rw [ps_t, h0]; exact if_neg (fun z => z.elim hs (fun y => y hk))]
          obtain ⟨I1, g1, g2, g3, g4, g5, g6⟩ := ml_tokens hx hc n m v.2 (a ++ [v.1]) J (by rw [List.length_append, List.length_singleton]; omega) (by omega) (by omega) hk.1 hT2 hA1
          exact ⟨I1, g1, g2, g3, fun q q1 q2 => by rw [g4 q q1 q2, fr.1 q q1 q2], fun j hj => by rw [g5 j hj, fr.2.1 j hj], fun j hj => by rw [g6 j hj, fr.2.2 j hj]⟩
        · rw [if_neg (show ¬ (if v.2 < x.length then nI (x.getD v.2 0) else (-1 : Int32)) = (44 : Int32) from ml_ne (c := 44) (by omega) hx hk), show ps_t x (m + 1) (p + 1) a = (true, v.2, a ++ [v.1]) by rw [ps_t, h0]; exact if_pos (Or.inr hk)]
          exact ⟨J, rfl, hT2, fun _ => hA1, fr⟩
end GR3
