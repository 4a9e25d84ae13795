/-! copies -/
section OPS165
variable {L : Nat → Nat → Int64}
theorem cp_box1 {p q : Nat} (h : q ≠ p) (I : Nat → Nat → Int32) : ∃ I1, f_X0_copyFrom p q I L = some (I1, L) ∧ (I1 p 0 = I q 0 ∧ I1 p 1 = I q 1 ∧ I1 p 2 = I q 2) ∧ ∀ r, r ≠ p → I1 r = I r := by
  unfold f_X0_copyFrom
  refine ⟨_, rfl, ?_, fun r hr => by simp only [bf_u_ne hr]⟩
  simp (disch := omega) only [bf_u_ne h, bf_u_at, bf_u_ni]
  exact ⟨trivial, trivial, trivial⟩
theorem cp_boxes {o a : Nat} (hd : o + 25 ≤ a ∨ a + 25 ≤ o) (K : (Nat → Nat → Int32) → (Nat → Nat → Int64) → Option bf_St) : ∀ (n j : Nat) (I : Nat → Nat → Int32), j ≤ 6 → 6 < j + n → ∃ I1, f_X3_copyFrom_2 o a K n (nI j) I L = K I1 L ∧ (∀ b, j ≤ b → b < 6 → I1 (o + 1 + 1 + b) 0 = I (a + 1 + 1 + b) 0 ∧ I1 (o + 1 + 1 + b) 1 = I (a + 1 + 1 + b) 1 ∧ I1 (o + 1 + 1 + b) 2 = I (a + 1 + 1 + b) 2) ∧ ∀ r, (r < o + 1 + 1 + j ∨ o + 1 + 1 + 6 ≤ r) → I1 r = I r
  | 0, j, I, h1, h2 => by omega
  | n + 1, j, I, h1, h2 => by
    rw [f_X3_copyFrom_2]
    by_cases hj : j = 6
    · subst hj
      exact ⟨I, if_pos (by decide), fun b q1 q2 => by omega, fun r _ => rfl⟩
    · rw [if_neg (show ¬ (6 : Int32) ≤ nI j from nI_ge (b := 6) (by omega) (by omega)), if_pos (bp_ok (by omega) (by omega)), if_pos (bp_ok (by omega) (by omega)), bp_cl (by omega), bp_p1]
      obtain ⟨I1, e1, e2, e3⟩ := cp_box1 (L := L) (p := o + 1 + 1 + j) (q := a + 1 + 1 + j) (by omega) I
      rw [e1]
      simp only [Option.bind_some]
      obtain ⟨I2, g1, g2, g3⟩ := cp_boxes hd K n (j + 1) I1 (by omega) (by omega)
      refine ⟨I2, g1, fun b q1 q2 => ?_, fun r hr => by rw [g3 r (by omega), e3 r (by omega)]⟩
      by_cases hb : b = j
      · subst hb
        rw [g3 _ (by omega)]
        exact e2
      · have := g2 b (by omega) q2
        rw [e3 (a + 1 + 1 + b) (by omega)] at this
        exact this
theorem cp_wire1 {p q : Nat} (h1 : q ≠ p) (h2 : q + 1 ≠ p) (h3 : q ≠ p + 1) (h5 : bf_le (p + 1) = 99) (h6 : bf_le (q + 1) = 99) (I : Nat → Nat → Int32) (h4 : I q 4 = 0 ∨ I q 4 = 1) : ∃ I1, f_X10_copyFrom p q I L = some (I1, L) ∧ (I1 p 0 = I q 0 ∧ I1 p 1 = I q 1 ∧ I1 p 2 = I q 2 ∧ I1 p 3 = I q 3 ∧ I1 p 4 = I q 4 ∧ I1 p 5 = I q 5 ∧ I1 p 6 = I q 6) ∧ (¬ I q 5 ≤ 0 → ∀ k, k < 99 → I1 (p + 1) k = I (q + 1) k) ∧ ∀ r, r ≠ p → r ≠ p + 1 → I1 r = I r := by
  unfold f_X10_copyFrom
  simp (disch := omega) only [bf_u_ne h1, bf_u_at, bf_u_ni]
  rw [if_pos h4]
  by_cases hz : I q 5 ≤ 0
  · rw [if_pos hz]
    refine ⟨_, rfl, ?_, fun z => absurd hz z, fun r r1 r2 => by simp only [bf_u_ne r1]⟩
    simp (disch := omega) only [bf_u_at, bf_u_ni]
    exact ⟨trivial, trivial, trivial, trivial, trivial, trivial, trivial⟩
  · rw [if_neg hz, if_pos (show bf_cpOK 0 0 99 (q + 1) (p + 1) from ⟨by decide, by decide, by decide, by rw [h6]; decide, by rw [h5]; decide⟩)]
    refine ⟨_, rfl, ?_, fun _ k hk => ?_, fun r r1 r2 => by simp only [bf_w_ne r2, bf_u_ne r1]⟩
    · simp (disch := omega) only [bf_w_ne, bf_u_at, bf_u_ni]
      exact ⟨trivial, trivial, trivial, trivial, trivial, trivial, trivial⟩
    · rw [bf_w_o]
      simp (disch := omega) only [bf_u_ne h2, bf_u_ne]
      have e0 : (0 : Int32).toNatClampNeg = 0 := by decide
      have e99 : (99 : Int32).toNatClampNeg = 99 := by decide
      rw [e0, e99, pk_cpy_in (by omega) (by omega), Nat.sub_zero, Nat.zero_add]
theorem cp_bcW {I I1 : Nat → Nat → Int32} {p q : Nat} {x : bn_W} (h : bc_W I q x) (hl : (bw_q x).length ≤ 99) (h1 : I1 p 0 = I q 0 ∧ I1 p 1 = I q 1 ∧ I1 p 2 = I q 2 ∧ I1 p 3 = I q 3 ∧ I1 p 4 = I q 4 ∧ I1 p 5 = I q 5 ∧ I1 p 6 = I q 6) (h2 : ¬ I q 5 ≤ 0 → ∀ k, k < 99 → I1 (p + 1) k = I (q + 1) k) : bc_W I1 p x := by
  obtain ⟨e0, e1, e2, e3, e4, e5, e6⟩ := h1
  obtain ⟨k1, k2, k3, s, hs, k6, k7⟩ := h
  unfold bc_W
  rw [e0, e1, e2, e3, e4, e5]
  refine ⟨k1, k2, k3, s, hs, by rw [e6]; exact k6, fun i hi => ?_⟩
  rw [h2 (by rw [k3]; exact nI_nle (by omega) (by omega)) _ (by omega)]
  exact k7 i hi
theorem cp_wires {o a : Nat} {N : bn_N} (hok : bn_ok N) (hd : o + 25 ≤ a ∨ a + 25 ≤ o) (lo : ∀ w : Fin 8, bf_le (o + 8 + 1 + 2 * w.1 + 1) = 99) (la : ∀ w : Fin 8, bf_le (a + 8 + 1 + 2 * w.1 + 1) = 99) (K : (Nat → Nat → Int32) → (Nat → Nat → Int64) → Option bf_St) : ∀ (n j : Nat) (I : Nat → Nat → Int32), j ≤ 8 → 8 < j + n → (∀ w, w < 8 → bc_W I (a + 8 + 1 + 2 * w) (bn_wr N w)) → ∃ I1, f_X3_copyFrom_31 o a K n (nI j) I L = K I1 L ∧ (∀ w, j ≤ w → w < 8 → bc_W I1 (o + 8 + 1 + 2 * w) (bn_wr N w)) ∧ ∀ r, (r < o + 8 + 1 + 2 * j ∨ o + 8 + 1 + 16 ≤ r) → I1 r = I r
  | 0, j, I, h1, h2, hN => by omega
  | n + 1, j, I, h1, h2, hN => by
    rw [f_X3_copyFrom_31]
    by_cases hj : j = 8
    · subst hj
      exact ⟨I, if_pos (by decide), fun b q1 q2 => by omega, fun r _ => rfl⟩
    · rw [if_neg (show ¬ (8 : Int32) ≤ nI j from nI_ge (b := 8) (by omega) (by omega)), if_pos (bp_ok (by omega) (by omega)), if_pos (bp_ok (by omega) (by omega)), bp_cl (by omega), bp_p1]
      obtain ⟨I1, e1, e2, e2b, e3⟩ := cp_wire1 (L := L) (p := o + 8 + 1 + 2 * j) (q := a + 8 + 1 + 2 * j) (by omega) (by omega) (by omega) (lo ⟨j, by omega⟩) (la ⟨j, by omega⟩) I (by rw [(hN j (by omega)).2.1]; by_cases z : bw_h (bn_wr N j) = true; exact Or.inr (if_pos z); exact Or.inl (if_neg z))
      rw [e1]
      simp only [Option.bind_some]
      obtain ⟨I2, g1, g2, g3⟩ := cp_wires hok hd lo la K n (j + 1) I1 (by omega) (by omega) (fun w hw => (hN w hw).cg (e3 _ (by omega) (by omega)) (e3 _ (by omega) (by omega)))
      refine ⟨I2, g1, fun w q1 q2 => ?_, fun r hr => by rw [g3 r (by omega), e3 r (by omega) (by omega)]⟩
      by_cases hb : w = j
      · subst hb
        exact (cp_bcW (hN w q2) (hok.2.2.2.1 w).2.1 e2 e2b).cg (g3 _ (by omega)) (g3 _ (by omega))
      · exact g2 w (by omega) q2
theorem cp_net {o a : Nat} {N : bn_N} (hok : bn_ok N) (hd : o + 25 ≤ a ∨ a + 25 ≤ o) (lo : ∀ w : Fin 8, bf_le (o + 8 + 1 + 2 * w.1 + 1) = 99) (la : ∀ w : Fin 8, bf_le (a + 8 + 1 + 2 * w.1 + 1) = 99) (I : Nat → Nat → Int32) (hN : bc_N I a N) : ∃ I1, f_X3_copyFrom o a I L = some (I1, L) ∧ bc_N I1 o N ∧ ∀ r, r < o ∨ o + 25 ≤ r → I1 r = I r := by
  have o1 := hok.1
  obtain ⟨h1, h2, h3, h4⟩ := hN
  obtain ⟨I1, e1, e2, e3⟩ := cp_boxes (L := L) hd (fun I6 L6 => f_X3_copyFrom_p29 o a I6 L6) 400 0 I (by omega) (by omega)
  obtain ⟨I2, g1, g2, g3⟩ := cp_wires (L := L) hok hd lo la (fun I12 L12 => (some ((bf_u (bf_u I12 o 2 (I12 a 2)) o 3 ((bf_u I12 o 2 (I12 a 2)) a 3)), L12))) 400 0 I1 (by omega) (by omega) (fun w hw => (h4 w hw).cg (e3 _ (by omega)) (e3 _ (by omega)))
  refine ⟨_, e1.trans g1, ⟨?_, ?_, fun b hb => ?_, fun w hw => (g2 w (by omega) hw).cg (by simp (disch := omega) only [bf_u_ne]) (by simp (disch := omega) only [bf_u_ne])⟩, fun r hr => ?_⟩
  · simp (disch := omega) only [bf_u_ni, bf_u_at]
    rw [g3 a (by omega), e3 a (by omega)]
    exact h1
  · simp (disch := omega) only [bf_u_ne, bf_u_at]
    rw [g3 a (by omega), e3 a (by omega)]
    exact h2
  · simp (disch := omega) only [bf_u_ne]
    rw [g3 _ (by omega)]
    obtain ⟨k1, k2, k3⟩ := e2 b (by omega) (by omega)
    rw [k1, k2, k3]
    exact h3 b hb
  · simp (disch := omega) only [bf_u_ne]
    rw [g3 r (by omega), e3 r (by omega)]
theorem cp_rows7 {o a len N : Nat} (hd : o + 4 ≤ a ∨ a + 4 ≤ o) (o1 : bf_le (o + 1) = N) (o2 : bf_le (o + 2) = N) (o3 : bf_le (o + 3) = N) (a1 : bf_le (a + 1) = N) (a2 : bf_le (a + 2) = N) (a3 : bf_le (a + 3) = N) (hl : len ≤ N) (hN : N ≤ 100) (K : (Nat → Nat → Int32) → (Nat → Nat → Int64) → Option bf_St) : ∀ (n r : Nat) (I : Nat → Nat → Int32), r ≤ len → len < r + n → I a 0 = nI len → I o 0 = nI r → ∃ I1, f_X5_copyFrom_7 o a K n (nI r) I L = K I1 L ∧ I1 o 0 = nI len ∧ (∀ k, r ≤ k → k < len → I1 (o + 1) k = I (a + 1) k ∧ I1 (o + 2) k = I (a + 2) k ∧ I1 (o + 3) k = I (a + 3) k) ∧ (∀ k, k < r → I1 (o + 1) k = I (o + 1) k ∧ I1 (o + 2) k = I (o + 2) k ∧ I1 (o + 3) k = I (o + 3) k) ∧ ∀ q, (q < o ∨ o + 4 ≤ q) → I1 q = I q
  | 0, r, I, h1, h2, ha, h0 => by omega
  | n + 1, r, I, h1, h2, ha, h0 => by
    rw [f_X5_copyFrom_7, ha]
    by_cases hr : r = len
    · subst hr
      exact ⟨I, if_pos (Int32.le_refl _), h0, fun k q1 q2 => by omega, fun k _ => ⟨rfl, rfl, rfl⟩, fun q _ => rfl⟩
    · rw [if_neg (nI_ge (by omega) (by omega)), a1, a2, a3, if_pos (bp_ok (by omega) (by omega)), if_pos (bp_ok (by omega) (by omega)), if_pos (bp_ok (by omega) (by omega)), bp_cl (by omega), bp_p1, rw_append (o := o) _ _ _ h0 o1 o2 o3 (by omega) hN]
      simp only [Option.bind_some]
      obtain ⟨I2, g1, g2, g3, g4, g5⟩ := cp_rows7 hd o1 o2 o3 a1 a2 a3 hl hN K n (r + 1) (bf_u (bf_u (bf_u (bf_u I (o + 1) r (I (a + 1) r)) (o + 2) r (I (a + 2) r)) (o + 3) r (I (a + 3) r)) o 0 (nI (r + 1))) (by omega) (by omega) (by simp (disch := omega) only [bf_u_ne]; exact ha) (by rw [bf_u_at])
      refine ⟨I2, g1, g2, fun k q1 q2 => ?_, fun k q1 => ?_, fun q hq => by rw [g5 q hq]; simp (disch := omega) only [bf_u_ne]⟩
      · by_cases hk : k = r
        · subst hk
          obtain ⟨z1, z2, z3⟩ := g4 k (by omega)
          rw [z1, z2, z3]
          simp (disch := omega) only [bf_u_ne, bf_u_at]
          exact ⟨trivial, trivial, trivial⟩
        · obtain ⟨z1, z2, z3⟩ := g3 k (by omega) q2
          rw [z1, z2, z3]
          simp (disch := omega) only [bf_u_ne]
          exact ⟨trivial, trivial, trivial⟩
      · obtain ⟨z1, z2, z3⟩ := g4 k (by omega)
        rw [z1, z2, z3]
        simp (disch := omega) only [bf_u_ne, bf_u_ni]
        exact ⟨trivial, trivial, trivial⟩
theorem cp_rows {o a len N : Nat} (hd : o + 4 ≤ a ∨ a + 4 ≤ o) (o1 : bf_le (o + 1) = N) (o2 : bf_le (o + 2) = N) (o3 : bf_le (o + 3) = N) (a1 : bf_le (a + 1) = N) (a2 : bf_le (a + 2) = N) (a3 : bf_le (a + 3) = N) (hl : len ≤ N) (hN : N ≤ 100) (I : Nat → Nat → Int32) (ha : I a 0 = nI len) : ∃ I1, f_X5_copyFrom o a I L = some (I1, L) ∧ I1 o 0 = nI len ∧ (∀ k, k < len → I1 (o + 1) k = I (a + 1) k ∧ I1 (o + 2) k = I (a + 2) k ∧ I1 (o + 3) k = I (a + 3) k) ∧ ∀ q, (q < o ∨ o + 4 ≤ q) → I1 q = I q := by
  obtain ⟨I1, g1, g2, g3, g4, g5⟩ := cp_rows7 (L := L) hd o1 o2 o3 a1 a2 a3 hl hN (fun I9 L9 => some (I9, L9)) 400 0 (bf_u I o 0 0) (by omega) (by omega) (by simp (disch := omega) only [bf_u_ne]; exact ha) (by rw [bf_u_at]; rfl)
  refine ⟨I1, ?_, g2, fun k hk => ?_, fun q hq => by rw [g5 q hq]; simp (disch := omega) only [bf_u_ne]⟩
  · unfold f_X5_copyFrom f_X5_clear
    simp only [Option.bind_some]
    exact g1
  · obtain ⟨z1, z2, z3⟩ := g3 k (by omega) hk
    rw [z1, z2, z3]
    simp (disch := omega) only [bf_u_ne]
    exact ⟨trivial, trivial, trivial⟩
/-- the lengths of a sheet's rows -/
def cp_le (o : Nat) : Prop := (∀ w : Fin 8, bf_le (o + 1 + 8 + 1 + 2 * w.1 + 1) = 99) ∧ (bf_le (o + 26 + 1) = 5 ∧ bf_le (o + 26 + 2) = 5 ∧ bf_le (o + 26 + 3) = 5) ∧ (bf_le (o + 30 + 1) = 10 ∧ bf_le (o + 30 + 2) = 10 ∧ bf_le (o + 30 + 3) = 10) ∧ (bf_le (o + 34 + 1) = 8 ∧ bf_le (o + 34 + 2) = 8 ∧ bf_le (o + 34 + 3) = 8)
theorem cp_le1 : cp_le 1 := by unfold cp_le; decide +kernel
theorem cp_le39 : cp_le 39 := by unfold cp_le; decide +kernel
theorem cp_sheet {o a : Nat} {S : bn_S} (hok : bs_ok S) (hd : o + 38 ≤ a ∨ a + 38 ≤ o) (lo : cp_le o) (la : cp_le a) (I : Nat → Nat → Int32) (hS : bc_S I a S) : ∃ I1, f_X7_copyFrom o a I L = some (I1, L) ∧ bc_S I1 o S ∧ ∀ r, r < o + 1 ∨ o + 38 ≤ r → I1 r = I r := by
  obtain ⟨h1, h2, h3, h4, h5, h6, h7⟩ := hS
  obtain ⟨k1, k2, k3, k4, -⟩ := hok
  obtain ⟨lo1, lo2, lo3, lo4⟩ := lo
  obtain ⟨la1, la2, la3, la4⟩ := la
  obtain ⟨I1, e1, e2, e3⟩ := cp_net (L := L) (o := o + 1) (a := a + 1) k1 (by omega) lo1 la1 I h1
  obtain ⟨I2, f1, f2, f3, f4⟩ := cp_rows (L := L) (o := o + 26) (a := a + 26) (by omega) lo2.1 lo2.2.1 lo2.2.2 la2.1 la2.2.1 la2.2.2 k2 (by omega) I1 (by rw [e3 _ (by omega)]; exact h2)
  obtain ⟨I3, g1, g2, g3, g4⟩ := cp_rows (L := L) (o := o + 30) (a := a + 30) (by omega) lo3.1 lo3.2.1 lo3.2.2 la3.1 la3.2.1 la3.2.2 k3 (by omega) I2 (by rw [f4 _ (by omega), e3 _ (by omega)]; exact h3)
  obtain ⟨I4, j1, j2, j3, j4⟩ := cp_rows (L := L) (o := o + 34) (a := a + 34) (by omega) lo4.1 lo4.2.1 lo4.2.2 la4.1 la4.2.1 la4.2.2 k4 (by omega) I3 (by rw [g4 _ (by omega), f4 _ (by omega), e3 _ (by omega)]; exact h4)
  refine ⟨I4, ?_, ⟨e2.cg (fun q q1 q2 => by rw [j4 q (by omega), g4 q (by omega), f4 q (by omega)]) k1, by rw [j4 _ (by omega), g4 _ (by omega)]; exact f2, by rw [j4 _ (by omega)]; exact g2, j2, fun k x hk => ?_, fun k x hk => ?_, fun k x hk => ?_⟩, fun r hr => by rw [j4 r (by omega), g4 r (by omega), f4 r (by omega), e3 r (by omega)]⟩
  · unfold f_X7_copyFrom
    rw [e1]
    simp only [Option.bind_some]
    rw [f1]
    simp only [Option.bind_some]
    rw [g1]
    simp only [Option.bind_some]
    rw [j1]
    rfl
  · obtain ⟨z1, z2, z3⟩ := f3 k (bs_get hk)
    rw [e3 _ (by omega)] at z1 z2 z3
    rw [j4 _ (by omega), g4 _ (by omega), j4 _ (by omega), g4 _ (by omega), j4 _ (by omega), g4 _ (by omega), z1, z2, z3]
    exact h5 k x hk
  · obtain ⟨z1, z2, z3⟩ := g3 k (bs_get hk)
    rw [f4 _ (by omega), e3 _ (by omega)] at z1 z2
    rw [j4 _ (by omega), j4 _ (by omega), z1, z2]
    exact h6 k x hk
  · obtain ⟨z1, z2, z3⟩ := j3 k (bs_get hk)
    rw [g4 _ (by omega), f4 _ (by omega), e3 _ (by omega)] at z1 z2
    rw [z1, z2]
    exact h7 k x hk
theorem ml_copies2 {a b : Nat} (hab : a ≠ b) (la : bf_le a = 914) (lb : bf_le b = 914) (K : (Nat → Nat → Int32) → (Nat → Nat → Int64) → Option bf_St) : ∀ (n j : Nat) (I : Nat → Nat → Int32), j ≤ 914 → 914 < j + n → ∃ I1, f_X12_copies_2 a b K n (nI j) I L = K I1 L ∧ (∀ k, j ≤ k → k < 914 → I1 b k = I a k) ∧ (∀ k, k < j → I1 b k = I b k) ∧ ∀ q, q ≠ b → I1 q = I q
  | 0, j, I, h1, h2 => by omega
  | n + 1, j, I, h1, h2 => by
    rw [f_X12_copies_2]
    by_cases hj : j = 914
    · subst hj
      exact ⟨I, if_pos (by decide), fun k q1 q2 => by omega, fun k _ => rfl, fun q _ => rfl⟩
    · rw [if_neg (show ¬ (914 : Int32) ≤ nI j from nI_ge (b := 914) (by omega) (by omega)), la, lb, if_pos (bp_ok (by omega) (by omega)), if_pos (bp_ok (by omega) (by omega)), bp_cl (by omega), bp_p1]
      obtain ⟨I1, e1, e2, e3, e4⟩ := ml_copies2 hab la lb K n (j + 1) (bf_u I b j (I a j)) (by omega) (by omega)
      refine ⟨I1, e1, fun k q1 q2 => ?_, fun k q1 => ?_, fun q hq => by rw [e4 q hq, bf_u_ne hq]⟩
      · by_cases hk : k = j
        · subst hk
          rw [e3 k (by omega), bf_u_at]
        · rw [e2 k (by omega) q2, bf_u_ne hab]
      · rw [e3 k (by omega), bf_u_ni (by omega)]
theorem ml_copies {a b : Nat} (hab : a ≠ b) (la : bf_le a = 914) (lb : bf_le b = 914) (I : Nat → Nat → Int32) : ∃ I1, f_X12_copies a b I L = some (I1, L) ∧ (∀ k, k < 914 → I1 b k = I a k) ∧ ∀ q, q ≠ b → I1 q = I q := by
  obtain ⟨I1, e1, e2, e3, e4⟩ := ml_copies2 (L := L) hab la lb (fun I4 L4 => some (I4, L4)) 1000 0 I (by omega) (by omega)
  exact ⟨I1, e1, fun k hk => e2 k (by omega) hk, e4⟩
theorem lk157 : bf_le 157 = 914 := by decide +kernel
theorem lk158 : bf_le 158 = 914 := by decide +kernel
theorem lk159 : bf_le 159 = 914 := by decide +kernel
theorem lk167 : bf_le 167 = 914 := by decide +kernel
theorem lk169 : bf_le 169 = 914 := by decide +kernel
variable {I : Nat → Nat → Int32}
theorem op_image (h : bo_St I L) : bo_OK (f_X11_image 0 I L) (f_X12_image 156) := by
  obtain ⟨A, hok, hC, hM⟩ := id h
  obtain ⟨I1, e1, e2, e3⟩ := cp_sheet (L := L) (o := 39) (a := 1) hok.1 (by omega) cp_le39 cp_le1 I hC.1
  have hM1 : bm_A (bf_u I1 0 2 1) L A := hM.fc (fun q hq => ⟨by rw [bf_u_ne (by omega)]; exact e3 q (by omega), rfl⟩)
  obtain ⟨I2, g1, g2, g3⟩ := ml_copies (L := L) (a := 157) (b := 159) (by omega) lk157 lk159 (bf_u I1 0 2 1)
  obtain ⟨k1, k2, k3, k4, k5, k6⟩ := hC
  obtain ⟨n1, n2, n3, n4, n5, n6⟩ := hM1
  refine bo_mk (A := (A.1, some A.1, A.2.2)) (x := nI (bn_nb A.1.1)) (I1 := bf_u I1 0 2 1) (L1 := L) (I2 := bf_u I2 156 3 1) (L2 := L) ?_ ?_ (fun q hq => ⟨by rw [bf_u_ne (by omega)]; exact g3 q (by omega), rfl⟩) ?_ ?_ ?_
  · unfold f_X11_image
    simp only [Nat.reduceAdd, Nat.zero_add]
    rw [e1]
    simp only [Option.bind_some]
    rw [bf_u_ne (by omega), e3 2 (by omega), show I 2 2 = _ from k1.1.1]
  · unfold f_X12_image
    simp only [Nat.reduceAdd]
    rw [g1]
    simp only [Option.bind_some]
    rw [bf_u_ne (by omega), g3 157 (by omega), bp_0, n1.1.1]
  · exact ⟨hok.1, fun S hS => by rw [← Option.some.inj hS]; exact hok.1, hok.2.2⟩
  · refine ⟨k1.cg hok.1 (fun q q1 q2 => by rw [bf_u_ne (by omega)]; exact e3 q (by omega)), bf_u_at, fun S hS => ?_, by rw [bf_u_ne (by omega), e3 124 (by omega)]; exact k4, by rw [bf_u_ne (by omega), e3 125 (by omega)]; exact k5, fun t ht => by rw [bf_u_ne (by omega), e3 _ (by omega)]; exact k6 t ht⟩
    rw [← Option.some.inj hS]
    exact e2.cg hok.1 (fun q q1 q2 => by rw [bf_u_ne (by omega)])
  · refine ⟨?_, bf_u_at, fun S hS => ?_, ?_, ?_, ?_⟩
    · rw [bf_u_ne (by omega), g3 157 (by omega)]; exact n1
    · rw [← Option.some.inj hS, bf_u_ne (by omega)]
      exact n1.cg hok.1 (fun k hk => g2 k hk)
    · rw [bf_u_ni (by omega), g3 156 (by omega)]; exact n4
    · rw [bf_u_ne (by omega), g3 160 (by omega)]; exact n5
    · rw [bf_u_ne (by omega), bf_u_ne (by omega), g3 170 (by omega), g3 171 (by omega)]; exact n6
theorem op_undo (h : bo_St I L) : bo_OK (f_X11_undo 0 I L) (f_X12_undo 156) := by
  obtain ⟨A, hok, hC, hM⟩ := id h
  obtain ⟨k1, k2, k3, k4, k5, k6⟩ := id hC
  obtain ⟨w1, w2, -⟩ := id hM
  cases hA : ba_k A with
  | none =>
    rw [hA] at k2 w2
    refine bo_same h (x := -3) ?_ ?_
    · unfold f_X11_undo
      rw [k2, if_pos rfl]
    · unfold f_X12_undo
      rw [w2, if_pos rfl]
  | some S =>
    have hSok := hok.2.1 S hA
    rw [hA] at k2 w2
    obtain ⟨I1, e1, e2, e3⟩ := cp_sheet (L := L) (o := 1) (a := 39) hSok (by omega) cp_le1 cp_le39 I (k3 S hA)
    have hM1 : bm_A I1 L A := hM.fc (fun q hq => ⟨e3 q (by omega), rfl⟩)
    obtain ⟨I2, g1, g2, g3⟩ := ml_copies (L := L) (a := 159) (b := 157) (by omega) lk159 lk157 I1
    obtain ⟨n1, n2, n3, n4, n5, n6⟩ := hM1
    refine bo_mk (A := (S, A.2)) (x := nI (bn_nb S.1)) (I1 := I1) (L1 := L) (I2 := I2) (L2 := L) ?_ ?_ (fun q hq => ⟨g3 q (by omega), rfl⟩) ?_ ?_ ?_
    · unfold f_X11_undo
      simp only [Nat.reduceAdd, Nat.zero_add]
      rw [k2, if_neg bp_10, e1]
      simp only [Option.bind_some]
      rw [show I1 2 2 = _ from e2.1.1]
    · unfold f_X12_undo
      simp only [Nat.reduceAdd]
      rw [n2]
      simp only [hA]
      rw [if_neg bp_10, g1]
      simp only [Option.bind_some]
      rw [bp_0, g2 0 (by omega), (n3 S hA).1.1]
    · exact ⟨hSok, hok.2⟩
    · refine ⟨e2, by rw [e3 0 (by omega), k2]; show (1 : Int32) = (match ba_k A with | none => 0 | some _ => 1); rw [hA], fun T hT => ?_, by rw [e3 124 (by omega)]; exact k4, by rw [e3 125 (by omega)]; exact k5, fun t ht => by rw [e3 _ (by omega)]; exact k6 t ht⟩
      exact (k3 T hT).cg (hok.2.1 T hT) (fun q q1 q2 => e3 q (by omega))
    · refine ⟨(n3 S hA).cg hSok (fun k hk => g2 k hk), by rw [g3 156 (by omega)]; exact n2, by rw [g3 159 (by omega)]; exact n3, by rw [g3 156 (by omega)]; exact n4, by rw [g3 160 (by omega)]; exact n5, by rw [g3 170 (by omega), g3 171 (by omega)]; exact n6⟩
end OPS165
