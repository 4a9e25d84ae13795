/-! the class finds TIMES -/
def lt_R (I : Nat → Nat → Int32) (o : Nat) (l t : Nat → Nat) : Prop := ∀ b, b < 6 → I (o + 1) b = nI (t b) ∧ I (o + 4) b = nI (l b)
theorem lt_R.cg {I : Nat → Nat → Int32} {o : Nat} {l t l2 t2 : Nat → Nat} (h : lt_R I o l t) (hl : ∀ b, b < 6 → l2 b = l b) (ht : ∀ b, b < 6 → t2 b = t b) : lt_R I o l2 t2 := fun b hb => by
  rw [hl b hb, ht b hb]
  exact h b hb
section TM3
variable {L : Nat → Nat → Int64}
theorem cl_grow3 {o A x B : Nat} {l t : Nat → Nat} (hl : ∀ b, b < 6 → l b < 6) (hA : A < 6) (K : (Nat → Nat → Int32) → (Nat → Nat → Int64) → Option bf_St) : ∀ (n j : Nat) (I : Nat → Nat → Int32), j ≤ 6 → 6 < j + n → lt_R I o (fun c => if c < j ∧ l c = A then B else l c) (fun c => if c < j ∧ l c = A then t c * x else t c) → ∃ I1, f_X6_growLot_3 o (nI A) (nI x) (nI B) K n (nI j) I L = K I1 L ∧ lt_R I1 o (fun c => if l c = A then B else l c) (fun c => if l c = A then t c * x else t c) ∧ ∀ q, q ≠ o + 1 → q ≠ o + 4 → I1 q = I q
  | 0, j, I, h1, h2, hR => by omega
  | n + 1, j, I, h1, h2, hR => by
    rw [f_X6_growLot_3]
    by_cases h6 : j = 6
    · subst h6
      rw [if_pos (by decide)]
      refine ⟨I, rfl, hR.cg (fun b hb => ?_) (fun b hb => ?_), fun _ _ _ => rfl⟩
      · by_cases q : l b = A
        · rw [if_pos q, if_pos ⟨hb, q⟩]
        · rw [if_neg q, if_neg (fun z => q z.2)]
      · by_cases q : l b = A
        · rw [if_pos q, if_pos ⟨hb, q⟩]
        · rw [if_neg q, if_neg (fun z => q z.2)]
    · have hj := hR j (by omega)
      dsimp only at hj
      rw [if_neg (fun z => Nat.lt_irrefl _ z.1), if_neg (fun z => Nat.lt_irrefl _ z.1)] at hj
      have l6 := hl j (by omega)
      rw [if_neg (show ¬ (6 : Int32) ≤ nI j from nI_ge (b := 6) (by omega) (by omega)), bp_p1]
      simp only [if_pos (bp_ok (show j < 6 by omega) (show 6 ≤ 100000 by omega)), bp_cl (show j < 100000 by omega), hj.2, bp_eq (show l j < 100000 by omega) (show A < 100000 by omega)]
      by_cases e : l j = A
      · rw [if_pos e, hj.1, pk_mul]
        obtain ⟨I1, g1, g2, g3⟩ := cl_grow3 (o := o) (x := x) (B := B) (t := t) hl hA K n (j + 1) (bf_u (bf_u I (o + 1) j (nI (t j * x))) (o + 4) j (nI B)) (by omega) (by omega) (fun b hb => by
          have hb2 := hR b hb
          dsimp only at hb2 ⊢
          by_cases q : b = j
          · subst q
            rw [bf_u_ne (by omega), bf_u_at, bf_u_at, if_pos ⟨Nat.lt_succ_self _, e⟩, if_pos ⟨Nat.lt_succ_self _, e⟩]
            exact ⟨rfl, rfl⟩
          · rw [bf_u_ne (by omega), bf_u_ni q, bf_u_ni q, bf_u_ne (by omega), hb2.1, hb2.2]
            by_cases z : b < j ∧ l b = A
            · rw [if_pos z, if_pos z, if_pos ⟨by omega, z.2⟩, if_pos ⟨by omega, z.2⟩]
              exact ⟨rfl, rfl⟩
            · rw [if_neg z, if_neg z, if_neg (fun y => z ⟨by omega, y.2⟩), if_neg (fun y => z ⟨by omega, y.2⟩)]
              exact ⟨rfl, rfl⟩)
        exact ⟨I1, g1, g2, fun q q1 q2 => by rw [g3 q q1 q2, bf_u_ne q2, bf_u_ne q1]⟩
      · rw [if_neg e]
        exact cl_grow3 hl hA K n (j + 1) I (by omega) (by omega) (hR.cg (fun b hb => by
          by_cases z : b < j ∧ l b = A
          · rw [if_pos z, if_pos ⟨by omega, z.2⟩]
          · rw [if_neg z, if_neg (fun y => z ⟨by
              have : b ≠ j := fun w => e (by rw [← w]; exact y.2)
              omega, y.2⟩)]) (fun b hb => by
          by_cases z : b < j ∧ l b = A
          · rw [if_pos z, if_pos ⟨by omega, z.2⟩]
          · rw [if_neg z, if_neg (fun y => z ⟨by
              have : b ≠ j := fun w => e (by rw [← w]; exact y.2)
              omega, y.2⟩)]))
theorem cl_grow {I : Nat → Nat → Int32} {o A x B : Nat} {l t : Nat → Nat} (hl : ∀ b, b < 6 → l b < 6) (hA : A < 6) (hR : lt_R I o l t) : ∃ I1, f_X6_growLot o (nI A) (nI x) (nI B) I L = some (I1, L) ∧ lt_R I1 o (fun c => if l c = A then B else l c) (fun c => if l c = A then t c * x else t c) ∧ ∀ q, q ≠ o + 1 → q ≠ o + 4 → I1 q = I q := by
  unfold f_X6_growLot
  exact cl_grow3 hl hA _ 400 0 I (by omega) (by omega) (hR.cg (fun b hb => if_neg (fun z => by omega)) (fun b hb => if_neg (fun z => by omega)))
theorem lt_b {N : bn_N} {w : Nat} {l t e : Nat → Nat} (h : lt_I N w l t e) (hw : w ≤ 8) {b : Nat} (hb : b < 6) : t b ≤ 65536 := by
  have h7 := h.2.2.2.2.2.2.1 b hb
  have h8 := h.2.2.2.2.2.2.2
  have := tm_sle (e := e) (h.1 b hb)
  refine Nat.le_trans h7 ?_
  exact Nat.pow_le_pow_right (n := 4) (j := 8) (by omega) (by omega)
theorem cl_join {I : Nat → Nat → Int32} {o a w : Nat} {N : bn_N} {l t e : Nat → Nat} (hok : bn_ok N) (hw : w < 8) (hx : bc_W I a (bn_wr N w)) (hh : bw_h (bn_wr N w) = true) (hR : lt_R I o l t) (hI : lt_I N w l t e) : ((¬ ∃ t', tm_ev N t') ∧ f_X6_joinLots o a I L = some (0, I, L)) ∨ ∃ I1 l1 t1 e1, f_X6_joinLots o a I L = some (1, I1, L) ∧ lt_R I1 o l1 t1 ∧ lt_I N (w + 1) l1 t1 e1 ∧ ∀ q, q ≠ o + 1 → q ≠ o + 4 → I1 q = I q := by
  have o1 := hok.1
  obtain ⟨f1, t1, p1, p2, k1, k2⟩ := (hok.2.2.2.1 w).1 hh
  obtain ⟨x1, x2, x3, x4⟩ := hx.1 hh
  have rf := hR (bw_f (bn_wr N w)) (by omega)
  have rt := hR (bw_t (bn_wr N w)) (by omega)
  have lf := hI.1 (bw_f (bn_wr N w)) (by omega)
  have lt := hI.1 (bw_t (bn_wr N w)) (by omega)
  have tf := lt_b hI (by omega) (show bw_f (bn_wr N w) < 6 by omega)
  have tt := lt_b hI (by omega) (show bw_t (bn_wr N w) < 6 by omega)
  have bp : t (bw_f (bn_wr N w)) * bw_p (bn_wr N w) ≤ 65536 * 4 := Nat.mul_le_mul tf p2
  have bt : t (bw_t (bn_wr N w)) * bw_k (bn_wr N w) ≤ 65536 * 4 := Nat.mul_le_mul tt k2
  unfold f_X6_joinLots
  rw [x1, x2, x3, x4, if_pos (bp_ok (by omega) (by omega)), if_pos (bp_ok (by omega) (by omega)), if_pos (bp_ok (by omega) (by omega)), if_pos (bp_ok (by omega) (by omega)), bp_cl (by omega), bp_cl (by omega), rf.1, rf.2, rt.1, rt.2, pk_mul, pk_mul]
  simp only [bp_eq (show l (bw_f (bn_wr N w)) < 100000 by omega) (show l (bw_t (bn_wr N w)) < 100000 by omega)]
  by_cases hl : l (bw_f (bn_wr N w)) = l (bw_t (bn_wr N w))
  · rw [if_pos hl]
    by_cases hs : tm_s N t w
    · rw [if_pos (congrArg nI hs)]
      exact Or.inr ⟨I, l, t, e, rfl, hR, lt_skip hI (fun _ => ⟨hl, hs⟩), fun _ _ _ => rfl⟩
    · rw [if_neg (fun z => hs ((nI_eq (by omega) (by omega)).mp z))]
      exact Or.inl ⟨lt_no hok hI hw hh hl hs, rfl⟩
  · rw [if_neg hl, nI_l (by omega), nI_l (by omega), cl_gcd (by omega) (by omega)]
    obtain ⟨pu, hpu⟩ : ∃ pu, pu = t (bw_f (bn_wr N w)) * bw_p (bn_wr N w) := ⟨_, rfl⟩
    obtain ⟨ta, hta⟩ : ∃ ta, ta = t (bw_t (bn_wr N w)) * bw_k (bn_wr N w) := ⟨_, rfl⟩
    obtain ⟨d, hd⟩ : ∃ d, d = Nat.gcd pu ta := ⟨_, rfl⟩
    rw [← hpu, ← hta, ← hd]
    rw [← hpu] at bp
    rw [← hta] at bt
    have pu0 : 0 < pu := by rw [hpu]; exact Nat.mul_pos (hI.2.1 _ f1) p1
    have d0 : 0 < d := by rw [hd]; exact Nat.gcd_pos_of_pos_left _ pu0
    have dle : d ≤ pu := by rw [hd]; exact Nat.le_of_dvd pu0 (Nat.gcd_dvd_left _ _)
    simp only [Option.bind_some]
    rw [lN_i, if_pos (show (0 : Int32) < nI d from nI_lt (a := 0) d0 (by omega)), if_neg (nI_ne0 d0 (by omega)), pk_div (by omega) d0 (by omega), pk_div (by omega) d0 (by omega)]
    obtain ⟨I1, g1, g2, g3⟩ := cl_grow (L := L) (x := ta / d) (B := l (bw_f (bn_wr N w))) hI.1 lf hR
    rw [g1]
    simp only [Option.bind_some]
    rw [if_neg (nI_ne0 d0 (by omega))]
    obtain ⟨I2, k1', k2', k3'⟩ := cl_grow (L := L) (A := l (bw_t (bn_wr N w))) (x := pu / d) (B := l (bw_f (bn_wr N w))) (fun b hb => by
      by_cases q : l b = l (bw_f (bn_wr N w))
      · rw [if_pos q]; exact lf
      · rw [if_neg q]; exact hI.1 b hb) lt g2
    rw [k1']
    simp only [Option.bind_some]
    refine Or.inr ⟨I2, _, _, _, rfl, k2'.cg (fun b hb => ?_) (fun b hb => ?_), lt_join hok hI hh rfl rfl hl hpu hta hd, fun q q1 q2 => (k3' q q1 q2).trans (g3 q q1 q2)⟩
    · show lt_l l _ _ b = _
      unfold lt_l
      by_cases q : l b = l (bw_f (bn_wr N w))
      · rw [if_pos q, if_neg (show ¬ l (bw_f (bn_wr N w)) = l (bw_t (bn_wr N w)) from hl), if_neg (by rw [q]; exact hl), q]
      · rw [if_neg q]
    · show t b * lt_m _ _ _ _ (l b) = _
      unfold lt_m
      by_cases q : l b = l (bw_f (bn_wr N w))
      · rw [if_pos q, if_pos q, if_pos q, if_neg (show ¬ l (bw_f (bn_wr N w)) = l (bw_t (bn_wr N w)) from hl)]
      · rw [if_neg q, if_neg q, if_neg q]
        by_cases r : l b = l (bw_t (bn_wr N w))
        · rw [if_pos r, if_pos r]
        · rw [if_neg r, if_neg r, Nat.mul_one]
theorem cl_ft42 {o a : Nat} {N : bn_N} (hok : bn_ok N) (hd : a + 25 ≤ o) (K : (Nat → Nat → Int32) → (Nat → Nat → Int64) → Option (Int32 × bf_St)) : ∀ (n w : Nat) (I : Nat → Nat → Int32) (l t e : Nat → Nat), w ≤ 8 → 8 < w + n → bc_N I a N → lt_R I o l t → lt_I N w l t e → ∃ I1, (∀ q, q ≠ o + 1 → q ≠ o + 4 → I1 q = I q) ∧ (((¬ ∃ t', tm_ev N t') ∧ f_X6_findTimes_42 o a K n (nI w) I L = some (0, I1, L)) ∨ ∃ l1 t1 e1, f_X6_findTimes_42 o a K n (nI w) I L = K I1 L ∧ lt_R I1 o l1 t1 ∧ lt_I N 8 l1 t1 e1)
  | 0, w, I, l, t, e, h1, h2, hN, hR, hI => by omega
  | n + 1, w, I, l, t, e, h1, h2, hN, hR, hI => by
    rw [f_X6_findTimes_42]
    by_cases h8 : w = 8
    · subst h8
      rw [if_pos (by decide)]
      exact ⟨I, fun _ _ _ => rfl, Or.inr ⟨l, t, e, rfl, hR, hI⟩⟩
    · have hx := hN.2.2.2 w (by omega)
      rw [if_neg (show ¬ (8 : Int32) ≤ nI w from nI_ge (b := 8) (by omega) (by omega)), if_pos (bp_ok (by omega) (by omega)), bp_p1]
      simp only [bp_cl (show w < 100000 by omega), hx.2.1]
      by_cases hh : bw_h (bn_wr N w) = true
      · rw [if_pos hh, if_neg bp_10, if_pos (bp_ok (by omega) (by omega))]
        rcases cl_join (L := L) hok (by omega) hx hh hR hI with ⟨z, q⟩ | ⟨I1, l1, t1, e1, q, r1, r2, r3⟩
        · rw [q]
          simp only [Option.bind_some, if_true]
          exact ⟨I, fun _ _ _ => rfl, Or.inl ⟨z, rfl⟩⟩
        · rw [q]
          simp only [Option.bind_some]
          rw [if_neg bp_10]
          obtain ⟨I2, s1, s2⟩ := cl_ft42 hok hd K n (w + 1) I1 l1 t1 e1 (by omega) (by omega) (hN.cg (fun q a1 a2 => r3 q (by omega) (by omega)) hok) r1 r2
          exact ⟨I2, fun q q1 q2 => (s1 q q1 q2).trans (r3 q q1 q2), s2⟩
      · rw [if_neg hh, if_pos rfl]
        exact cl_ft42 hok hd K n (w + 1) I l t e (by omega) (by omega) hN hR (lt_skip hI (fun z => absurd z hh))
def tm_p (t : Nat → Nat) : Nat → Nat := fun j => bfold (fun b a => a + t b) j 0 0
theorem bfold_sc {α : Type} {f : Nat → α → α} : ∀ (k w : Nat) (a : α), bfold f (k + 1) w a = f (w + k) (bfold f k w a)
  | 0, w, a => rfl
  | k + 1, w, a => by
    show bfold f (k + 1) (w + 1) (f w a) = _
    rw [bfold_sc k (w + 1) (f w a), show w + 1 + k = w + (k + 1) by omega]
    rfl
theorem cl_ft88 {o : Nat} {t : Nat → Nat} (ht : ∀ b, b < 6 → t b ≤ 65536) (K : (Nat → Nat → Int32) → (Nat → Nat → Int64) → Option (Int32 × bf_St)) : ∀ (n j : Nat) (I : Nat → Nat → Int32), j ≤ 6 → 6 < j + n → (∀ b, b < 6 → I (o + 1) b = nI (t b)) → I o 2 = nI (tm_p t j) → ∃ I1, (∀ q, q ≠ o → I1 q = I q) ∧ (∀ i, i ≠ 2 → I1 o i = I o i) ∧ (((∃ b, j ≤ b ∧ b < 6 ∧ 60 < t b) ∧ f_X6_findTimes_88 o K n (nI j) I L = some (0, I1, L)) ∨ ((∀ b, j ≤ b → b < 6 → t b ≤ 60) ∧ f_X6_findTimes_88 o K n (nI j) I L = K I1 L ∧ I1 o 2 = nI (tm_p t 6)))
  | 0, j, I, h1, h2, hR, h3 => by omega
  | n + 1, j, I, h1, h2, hR, h3 => by
    rw [f_X6_findTimes_88]
    by_cases h6 : j = 6
    · subst h6
      rw [if_pos (by decide)]
      exact ⟨I, fun _ _ => rfl, fun _ _ => rfl, Or.inr ⟨fun b a1 a2 => by omega, rfl, h3⟩⟩
    · have tj := ht j (by omega)
      rw [if_neg (show ¬ (6 : Int32) ≤ nI j from nI_ge (b := 6) (by omega) (by omega)), if_pos (bp_ok (by omega) (by omega)), bp_p1]
      simp only [bp_cl (show j < 100000 by omega), hR j (by omega), h3, nI_add]
      by_cases e : t j ≤ 60
      · rw [if_pos (show nI (t j) ≤ (60 : Int32) from nI_le (b := 60) e (by omega)), if_pos (bp_ok (by omega) (by omega))]
        obtain ⟨I1, g1, g2, g3⟩ := cl_ft88 (o := o) ht K n (j + 1) (bf_u I o 2 (nI (tm_p t j + t j))) (by omega) (by omega) (fun b hb => by rw [bf_u_ne (by omega)]; exact hR b hb) (by
          rw [bf_u_at]
          unfold tm_p
          rw [bfold_sc, Nat.zero_add])
        refine ⟨I1, fun q q1 => by rw [g1 q q1, bf_u_ne q1], fun i i1 => by rw [g2 i i1, bf_u_ni i1], ?_⟩
        rcases g3 with ⟨⟨b, b1, b2, b3⟩, z⟩ | ⟨z1, z2⟩
        · exact Or.inl ⟨⟨b, by omega, b2, b3⟩, z⟩
        · refine Or.inr ⟨fun b b1 b2 => ?_, z2⟩
          by_cases q : b = j
          · rw [q]; exact e
          · exact z1 b (by omega) b2
      · rw [if_neg (show ¬ nI (t j) ≤ (60 : Int32) from nI_ge (a := 60) (by omega) (by omega))]
        exact ⟨I, fun _ _ => rfl, fun _ _ => rfl, Or.inl ⟨⟨j, by omega, by omega, by omega⟩, rfl⟩⟩
theorem cl_ft2 {o a : Nat} {N : bn_N} (hok : bn_ok N) (hd : a + 25 ≤ o) (K : (Nat → Nat → Int32) → (Nat → Nat → Int64) → Option (Int32 × bf_St)) : ∀ (n j : Nat) (I : Nat → Nat → Int32), j ≤ 6 → 6 < j + n → bc_N I a N → (∀ b, b < j → I (o + 1) b = nI (if b < bn_nb N then 1 else 0) ∧ I (o + 4) b = nI b) → ∃ I1, f_X6_findTimes_2 o a K n (nI j) I L = K I1 L ∧ lt_R I1 o (fun b => b) (fun b => if b < bn_nb N then 1 else 0) ∧ ∀ q, q ≠ o + 1 → q ≠ o + 4 → I1 q = I q
  | 0, j, I, h1, h2, hN, hR => by omega
  | n + 1, j, I, h1, h2, hN, hR => by
    rw [f_X6_findTimes_2]
    by_cases h6 : j = 6
    · subst h6
      rw [if_pos (by decide)]
      exact ⟨I, rfl, fun b hb => hR b hb, fun _ _ _ => rfl⟩
    · have go : ∀ z : Int32, z = nI (if j < bn_nb N then 1 else 0) → ∃ I1, f_X6_findTimes_2 o a K n (nI (j + 1)) (bf_u (bf_u I (o + 1) j z) (o + 4) j (nI j)) L = K I1 L ∧ lt_R I1 o (fun b => b) (fun b => if b < bn_nb N then 1 else 0) ∧ ∀ q, q ≠ o + 1 → q ≠ o + 4 → I1 q = I q := fun z hz => by
        obtain ⟨I1, g1, g2, g3⟩ := cl_ft2 hok hd K n (j + 1) (bf_u (bf_u I (o + 1) j z) (o + 4) j (nI j)) (by omega) (by omega) (hN.cg (fun q a1 a2 => by rw [bf_u_ne (by omega), bf_u_ne (by omega)]) hok) (fun b hb => by
          by_cases q : b = j
          · subst q
            rw [bf_u_ne (by omega), bf_u_at, bf_u_at, hz]
            exact ⟨rfl, rfl⟩
          · rw [bf_u_ne (by omega), bf_u_ni q, bf_u_ni q, bf_u_ne (by omega)]
            exact hR b (by omega))
        exact ⟨I1, g1, g2, fun q q1 q2 => by rw [g3 q q1 q2, bf_u_ne q2, bf_u_ne q1]⟩
      rw [if_neg (show ¬ (6 : Int32) ≤ nI j from nI_ge (b := 6) (by omega) (by omega)), bp_p1]
      by_cases e : j < bn_nb N
      · rw [cc_hasBox_t hok hN e]
        simp only [Option.bind_some]
        rw [if_neg bp_10, if_pos (bp_ok (by omega) (by omega)), if_pos (bp_ok (by omega) (by omega)), bp_cl (by omega)]
        exact go 1 (by rw [if_pos e]; rfl)
      · rw [cc_hasBox_f hok hN (fun ⟨b, b1, b2⟩ => e (by rw [bp_eq (by omega) (by have := hok.1; omega)] at b2; omega))]
        simp only [Option.bind_some, if_true]
        rw [if_pos (bp_ok (by omega) (by omega)), if_pos (bp_ok (by omega) (by omega)), bp_cl (by omega)]
        exact go 0 (by rw [if_neg e]; rfl)
theorem cl_times {I : Nat → Nat → Int32} {o a : Nat} {N : bn_N} (hok : bn_ok N) (hd : a + 25 ≤ o) (hN : bc_N I a N) : ∃ I1, (∀ q, q ≠ o → q ≠ o + 1 → q ≠ o + 4 → I1 q = I q) ∧ (∀ i, i ≠ 2 → I1 o i = I o i) ∧ (((¬ ∃ t, tm_ev N t) ∧ f_X6_findTimes o a I L = some (0, I1, L)) ∨ ∃ t, tm_ev N t ∧ (∀ b, bn_nb N ≤ b → t b = 0) ∧ f_X6_findTimes o a I L = some (1, I1, L) ∧ (∀ b, b < 6 → I1 (o + 1) b = nI (t b)) ∧ I1 o 2 = nI (tm_p t 6)) := by
  have o1 := hok.1
  unfold f_X6_findTimes
  obtain ⟨I1, g1, g2, g3⟩ := cl_ft2 (L := L) hok hd (fun I9 L9 => (f_X6_findTimes_p40 o a I9 L9)) 400 0 I (by omega) (by omega) hN (fun b hb => absurd hb (by omega))
  rw [show (0 : Int32) = nI 0 from rfl, g1]
  unfold f_X6_findTimes_p40
  obtain ⟨I2, k1, k2⟩ := cl_ft42 (L := L) hok hd (fun I17 L17 => (f_X6_findTimes_p81 o I17 L17)) 400 0 I1 _ _ _ (by omega) (by omega) (hN.cg (fun q a1 a2 => g3 q (by omega) (by omega)) hok) g2 lt_00
  rw [show (0 : Int32) = nI 0 from rfl]
  have fr : ∀ q, q ≠ o + 1 → q ≠ o + 4 → I2 q = I q := fun q q1 q2 => (k1 q q1 q2).trans (g3 q q1 q2)
  rcases k2 with ⟨z1, z2⟩ | ⟨l1, t1, e1, z2, z3, z4⟩
  · exact ⟨I2, fun q q0 q1 q2 => fr q q1 q2, fun i _ => by rw [fr o (by omega) (by omega)], Or.inl ⟨z1, z2⟩⟩
  · rw [z2]
    unfold f_X6_findTimes_p81
    obtain ⟨I3, m1, m2, m3⟩ := cl_ft88 (L := L) (o := o) (t := t1) (fun b hb => lt_b z4 (by omega) hb) (fun I22 L22 => (some ((1 : Int32), I22, L22))) 400 0 (bf_u I2 o 2 0) (by omega) (by omega) (fun b hb => by rw [bf_u_ne (by omega)]; exact (z3 b hb).1) bf_u_at
    rw [show (0 : Int32) = nI 0 from rfl]
    rw [show (0 : Int32) = nI 0 from rfl] at m1 m2 m3
    refine ⟨I3, fun q q0 q1 q2 => by rw [m1 q q0, bf_u_ne q0, fr q q1 q2], fun i hi => by rw [m2 i hi, bf_u_ni hi, fr o (by omega) (by omega)], ?_⟩
    rcases m3 with ⟨⟨b, b1, b2, b3⟩, y⟩ | ⟨y1, y2, y3⟩
    · refine Or.inl ⟨fun ⟨t', ht'⟩ => ?_, y⟩
      by_cases hb : b < bn_nb N
      · have := tm_un hok (by omega) (ht'.1 b hb) (lt_end hok z4 b hb) b (lo_in hok)
        have := ht'.2 b hb
        omega
      · have := z4.2.2.1 b (by omega)
        omega
    · exact Or.inr ⟨t1, ⟨lt_end hok z4, fun b hb => y1 b (by omega) (by omega)⟩, z4.2.2.1, y2, fun b hb => by rw [m1 (o + 1) (by omega), bf_u_ne (by omega)]; exact (z3 b hb).1, y3⟩
end TM3
