/-! the reference's firing -/
def fr_MD (kd : Nat) (v f a g9 g10 g11 g12 : Int32) : Prop := (kd = 0 → a = v + g9) ∧ (kd = 1 → a = g12) ∧ (kd = 2 → a = g10) ∧ (kd = 3 → a = g11) ∧ (kd = 4 → a = f * v + g9)
theorem fr_MD.st {kd : Nat} {v f a g9 g10 g11 g12 : Int32} (h : fr_MD kd v f a g9 g10 g11 g12) (x : Int32) : fr_MD kd v f (fr_mw kd a x) (g9 + x) x (bf_max g11 x) (g12 * x) := by
  obtain ⟨h0, h1, h2, h3, h4⟩ := h
  unfold fr_mw
  refine ⟨fun e => ?_, fun e => ?_, fun e => ?_, fun e => ?_, fun e => ?_⟩
  · subst e
    rw [if_neg (by omega), if_neg (by omega), if_neg (by omega), h0 rfl, Int32.add_assoc]
  · subst e
    rw [if_pos rfl, h1 rfl]
  · subst e
    rw [if_neg (by omega), if_pos rfl]
  · subst e
    rw [if_neg (by omega), if_neg (by omega), if_pos rfl, h3 rfl]
  · subst e
    rw [if_neg (by omega), if_neg (by omega), if_neg (by omega), h4 rfl, Int32.add_assoc]
theorem bm_N.ext {r : Nat → Int32} {N N2 : bn_N} (h : bm_N r N) (e1 : bn_nb N2 = bn_nb N) (e2 : ∀ b, b < bn_nb N → bn_bx N2 b = bn_bx N b) (e3 : bn_nw N2 = bn_nw N) (e4 : ∀ v, v < bn_nw N → bn_wr N2 v = bn_wr N v) : bm_N r N2 := by
  obtain ⟨h1, h2, h3, h4⟩ := h
  refine ⟨by rw [e1]; exact h1, by rw [e3]; exact h2, fun b hb => ?_, fun w hw => ?_⟩
  · rw [e1] at hb
    rw [e2 b hb]
    exact h3 b hb
  · rw [e3] at hw
    rw [e4 w hw]
    exact h4 w hw
theorem bl_dropD {q : List Int32} {j : Nat} (h : j < q.length) : q.drop j = q.getD j 0 :: q.drop (j + 1) := by
  rw [List.drop_eq_getElem_cons h, List.getD_eq_getElem?_getD, List.getElem?_eq_getElem h]
  rfl
section FIRE2
variable {L : Nat → Nat → Int64}
theorem ml_take14 {o w k kd : Nat} {v f : Int32} {q : List Int32} (hw : w < 8) (hk : k ≤ q.length) (hq : q.length ≤ 99) (K : (Nat → Nat → Int32) → (Nat → Nat → Int64) → Option bf_St) : ∀ (n j : Nat) (a : Int32) (I : Nat → Nat → Int32), j ≤ k → k < j + n → (∀ i, i < q.length → I (o + 1) (74 + 105 * w + 6 + i) = q.getD i 0) → fr_MD kd v f a (I o 9) (I o 10) (I o 11) (I o 12) → ∃ I1, f_X12_takesOff_14 o (nI w) (nI k) (nI (74 + 105 * w + 6)) K n (nI j) I L = K I1 L ∧ fr_MD kd v f (((q.drop j).take (k - j)).foldl (fr_mw kd) a) (I1 o 9) (I1 o 10) (I1 o 11) (I1 o 12) ∧ (∀ r, r ≠ o → I1 r = I r) ∧ ∀ p, p < 9 ∨ 13 < p → I1 o p = I o p
  | 0, j, a, I, h1, h2, hI, hM => by omega
  | n + 1, j, a, I, h1, h2, hI, hM => by
    rw [f_X12_takesOff_14]
    by_cases hj : j = k
    · subst hj
      rw [if_pos (Int32.le_refl _), Nat.sub_self, List.take_zero]
      exact ⟨I, rfl, hM, fun r _ => rfl, fun p _ => rfl⟩
    · rw [if_neg (nI_ge (by omega) (by omega)), nI_add, if_pos (bp_ok (by omega) (by omega)), bp_cl (by omega), bp_p1, hI j (by omega)]
      simp (disch := omega) only [bf_u_ni, bf_u_at]
      have hS := hM.st (q.getD j 0)
      obtain ⟨I2, g1, g2, g3, g4⟩ := ml_take14 (o := o) hw hk hq K n (j + 1) (fr_mw kd a (q.getD j 0)) (bf_u (bf_u (bf_u (bf_u (bf_u I o 9 (I o 9 + q.getD j 0)) o 12 (I o 12 * q.getD j 0)) o 11 (bf_max (I o 11) (q.getD j 0))) o 10 (q.getD j 0)) o 13 (I o 13 + 1)) (by omega) (by omega) (fun i hi => by simp (disch := omega) only [bf_u_ne]; exact hI i hi) (by simp (disch := omega) only [bf_u_ni, bf_u_at]; exact hS)
      refine ⟨I2, g1, ?_, fun r hr => by rw [g3 r hr]; simp only [bf_u_ne hr], fun p hp => by rw [g4 p hp]; simp (disch := omega) only [bf_u_ni]⟩
      rw [bl_dropD (show j < q.length by omega), show k - j = (k - (j + 1)) + 1 by omega]
      exact g2
theorem ml_take98 {o w k m : Nat} (hw : w < 8) (hm : m ≤ 99) (K : (Nat → Nat → Int32) → (Nat → Nat → Int64) → Option bf_St) : ∀ (n j : Nat) (I : Nat → Nat → Int32), k ≤ j → j ≤ m → m < j + n → 1 ≤ k → ∃ I1, f_X12_takesOff_98 o (nI k) (nI (74 + 105 * w + 6)) (nI m) K n (nI j) I L = K I1 L ∧ (∀ i, j - k ≤ i → i + k < m → I1 (o + 1) (74 + 105 * w + 6 + i) = I (o + 1) (74 + 105 * w + 6 + (i + k))) ∧ (∀ p, p < 74 + 105 * w + 6 + (j - k) ∨ 74 + 105 * w + 6 + (m - k) ≤ p → I1 (o + 1) p = I (o + 1) p) ∧ ∀ r, r ≠ o + 1 → I1 r = I r
  | 0, j, I, h1, h2, h3, h4 => by omega
  | n + 1, j, I, h1, h2, h3, h4 => by
    rw [f_X12_takesOff_98]
    by_cases hj : j = m
    · subst hj
      rw [if_pos (Int32.le_refl _)]
      exact ⟨I, rfl, fun i q1 q2 => by omega, fun p _ => rfl, fun r _ => rfl⟩
    · rw [if_neg (nI_ge (by omega) (by omega)), nI_add, pk_sub (by omega), if_pos (bp_ok (by omega) (by omega)), if_pos (bp_ok (by omega) (by omega)), bp_cl (by omega), bp_cl (by omega), bp_p1]
      obtain ⟨I2, g1, g2, g3, g4⟩ := ml_take98 (o := o) (k := k) hw hm K n (j + 1) (bf_u I (o + 1) (74 + 105 * w + 6 + j - k) (I (o + 1) (74 + 105 * w + 6 + j))) (by omega) (by omega) (by omega) h4
      refine ⟨I2, g1, fun i q1 q2 => ?_, fun p hp => ?_, fun r hr => by rw [g4 r hr, bf_u_ne hr]⟩
      · by_cases e : i = j - k
        · subst e
          rw [g3 _ (by omega), show 74 + 105 * w + 6 + (j - k) = 74 + 105 * w + 6 + j - k by omega, bf_u_at, show j - k + k = j by omega]
        · rw [g2 i (by omega) q2, bf_u_ni (by omega)]
      · rw [g3 p (by omega), bf_u_ni (by omega)]
theorem ml_takesOff {I : Nat → Nat → Int32} {o w kd : Nat} {v f a : Int32} {N : bn_N} (hok : bn_ok N) (hN : bm_N (I (o + 1)) N) (hw : w < bn_nw N) (hh : bw_h (bn_wr N w) = true) (hk : bw_k (bn_wr N w) ≤ (bw_q (bn_wr N w)).length) (hM : fr_MD kd v f a (I o 9) (I o 10) (I o 11) (I o 12)) : ∃ I1, f_X12_takesOff o (nI w) (nI (bw_k (bn_wr N w))) I L = some (I1, L) ∧ bm_N (I1 (o + 1)) (bn_sW N w (bw_sq (bn_wr N w) ((bw_q (bn_wr N w)).drop (bw_k (bn_wr N w))))) ∧ fr_MD kd v f (((bw_q (bn_wr N w)).take (bw_k (bn_wr N w))).foldl (fr_mw kd) a) (I1 o 9) (I1 o 10) (I1 o 11) (I1 o 12) ∧ (∀ r, r ≠ o → r ≠ o + 1 → I1 r = I r) ∧ (∀ p, p < 9 ∨ 13 < p → I1 o p = I o p) ∧ ∀ p, p < 74 → I1 (o + 1) p = I (o + 1) p := by
  have o2 := hok.2.1
  have hx := hN.2.2.2 w hw
  have hl := (hok.2.2.2.1 w).2.1
  obtain ⟨t1, t2, t3, t4, t5, t6⟩ := (hok.2.2.2.1 w).1 hh
  obtain ⟨I1, e1, e2, e3, e4⟩ := ml_take14 (L := L) (o := o) (w := w) (k := bw_k (bn_wr N w)) (q := bw_q (bn_wr N w)) (by omega) hk hl (fun I3 L3 => f_X12_takesOff_p88 o (nI w) (nI (bw_k (bn_wr N w))) (nI (74 + 105 * w + 6)) I3 L3) 400 0 a I (by omega) (by omega) hx.2.2.2 hM
  have r1 : I1 (o + 1) = I (o + 1) := e3 _ (by omega)
  obtain ⟨I2, g1, g2, g3, g4⟩ := ml_take98 (L := L) (o := o) (w := w) (k := bw_k (bn_wr N w)) (m := (bw_q (bn_wr N w)).length) (by omega) hl (fun I9 L9 => f_X12_takesOff_p131 o (nI (bw_k (bn_wr N w))) (nI (74 + 105 * w + 6)) (nI (bw_q (bn_wr N w)).length) I9 L9) 400 (bw_k (bn_wr N w)) I1 (by omega) hk (by omega) t5
  rw [r1] at g2 g3
  refine ⟨bf_u I2 (o + 1) (74 + 105 * w + 5) (nI ((bw_q (bn_wr N w)).length - bw_k (bn_wr N w))), ?_, ?_, ?_, fun r q1 q2 => by rw [bf_u_ne q2, g4 r q2, e3 r q1], fun p hp => by rw [bf_u_ne (by omega), g4 o (by omega), e4 p hp], fun p hp => by rw [bf_u_ni (by omega), g3 p (by omega)]⟩
  · unfold f_X12_takesOff
    rw [bp_ix, bp_p6, show (0 : Int32) = nI 0 from rfl, e1]
    unfold f_X12_takesOff_p88
    rw [me_tokens (by omega), r1, hx.2.2.1]
    simp only [Option.bind_some]
    rw [g1]
    unfold f_X12_takesOff_p131
    rw [show nI (74 + 105 * w + 6) - 1 = nI (74 + 105 * w + 5) from nI_pred _, if_pos (bp_ok (by omega) (by omega)), bp_cl (by omega), pk_sub hk]
  · refine hN.setW hok (fun k hk => by rw [bf_u_ni (by omega), g3 k (by omega)]) ⟨fun _ => ?_, ?_, ?_, fun i hi => ?_⟩
    · rw [bf_u_ni (by omega), bf_u_ni (by omega), bf_u_ni (by omega), bf_u_ni (by omega), g3 _ (by omega), g3 _ (by omega), g3 _ (by omega), g3 _ (by omega)]
      exact hx.1 hh
    · rw [bf_u_ni (by omega), g3 _ (by omega)]
      exact hx.2.1
    · show _ = nI (List.drop _ _).length
      rw [bf_u_at, List.length_drop]
    · have hi : i < (List.drop (bw_k (bn_wr N w)) (bw_q (bn_wr N w))).length := hi
      rw [List.length_drop] at hi
      show _ = (List.drop _ _).getD i 0
      rw [bf_u_ni (by omega), g2 i (by omega) (by omega), hx.2.2.2 _ (by omega), List.getD_eq_getElem?_getD, List.getD_eq_getElem?_getD, List.getElem?_drop, Nat.add_comm]
  · rw [bf_u_ne (by omega), g4 o (by omega)]
    rw [List.drop_zero, Nat.sub_zero] at e2
    exact e2
theorem ml_fires52 {o b kd : Nat} {v f : Int32} (hb : b < 6) (K : (Nat → Nat → Int32) → (Nat → Nat → Int64) → Option (Int32 × bf_St)) : ∀ (n w : Nat) (a : Int32) (I : Nat → Nat → Int32) (N : bn_N), w ≤ bn_nw N → bn_nw N < w + n → bn_ok N → bm_N (I (o + 1)) N → (∀ u, w ≤ u → u < 8 → (bw_h (bn_wr N u) = true ∧ bw_t (bn_wr N u) = b) → bw_k (bn_wr N u) ≤ (bw_q (bn_wr N u)).length) → fr_MD kd v f a (I o 9) (I o 10) (I o 11) (I o 12) → ∃ I1, f_X12_fires_52 o (nI b) (nI kd) v K n (nI w) I L = K I1 L ∧ bm_N (I1 (o + 1)) (fr_tm N b w) ∧ fr_MD kd v f (bfold (fun w a => (fr_tl (bn_wr N w) b).foldl (fr_mw kd) a) (bn_nw N - w) w a) (I1 o 9) (I1 o 10) (I1 o 11) (I1 o 12) ∧ (∀ r, r ≠ o → r ≠ o + 1 → I1 r = I r) ∧ (∀ p, p < 9 ∨ 13 < p → I1 o p = I o p) ∧ ∀ p, p < 74 → I1 (o + 1) p = I (o + 1) p
  | 0, w, a, I, N, h1, h2, hok, hN, hc, hM => by omega
  | n + 1, w, a, I, N, h1, h2, hok, hN, hc, hM => by
    have o1 := hok.1
    have o2 := hok.2.1
    rw [f_X12_fires_52, bp_1, hN.2.1]
    by_cases hw : w = bn_nw N
    · rw [if_pos (nI_le (by omega) (by omega)), show bn_nw N - w = 0 by omega]
      exact ⟨I, rfl, hN.ext rfl (fun _ _ => rfl) rfl (fun u hu => if_neg (by omega)), hM, fun r _ _ => rfl, fun p _ => rfl, fun p _ => rfl⟩
    · have hx := hN.2.2.2 w (by omega)
      rw [if_neg (nI_ge (by omega) (by omega)), mm_isWn hok hN (by omega)]
      simp only [Option.bind_some]
      have pass : ¬ (bw_h (bn_wr N w) = true ∧ bw_t (bn_wr N w) = b) → ∃ I1, f_X12_fires_52 o (nI b) (nI kd) v K n (nI w + 1) I L = K I1 L ∧ bm_N (I1 (o + 1)) (fr_tm N b w) ∧ fr_MD kd v f (bfold (fun w a => (fr_tl (bn_wr N w) b).foldl (fr_mw kd) a) (bn_nw N - w) w a) (I1 o 9) (I1 o 10) (I1 o 11) (I1 o 12) ∧ (∀ r, r ≠ o → r ≠ o + 1 → I1 r = I r) ∧ (∀ p, p < 9 ∨ 13 < p → I1 o p = I o p) ∧ ∀ p, p < 74 → I1 (o + 1) p = I (o + 1) p := fun e => by
        rw [bp_p1]
        obtain ⟨I1, g1, g2, g3, g4⟩ := ml_fires52 (v := v) (f := f) (kd := kd) hb K n (w + 1) a I N (by omega) (by omega) hok hN (fun u q1 q2 => hc u (by omega) q2) hM
        refine ⟨I1, g1, g2.ext rfl (fun _ _ => rfl) rfl (fun u hu => ?_), ?_, g4⟩
        · show (if w ≤ u then bw_sq (bn_wr N u) (fr_rl (bn_wr N u) b) else bn_wr N u) = (if w + 1 ≤ u then bw_sq (bn_wr N u) (fr_rl (bn_wr N u) b) else bn_wr N u)
          by_cases q : u = w
          · subst q
            rw [if_pos (Nat.le_refl _), if_neg (by omega)]
            unfold fr_rl
            rw [if_neg e]
          · by_cases q2 : w ≤ u
            · rw [if_pos q2, if_pos (by omega)]
            · rw [if_neg q2, if_neg (by omega)]
        · rw [show bn_nw N - w = (bn_nw N - (w + 1)) + 1 by omega]
          show fr_MD kd v f (bfold _ (bn_nw N - (w + 1)) (w + 1) ((fr_tl (bn_wr N w) b).foldl (fr_mw kd) a)) _ _ _ _
          rw [show fr_tl (bn_wr N w) b = [] from if_neg e]
          exact g3
      by_cases hh : bw_h (bn_wr N w) = true
      · obtain ⟨s1, s2, s3, s4⟩ := hx.1 hh
        obtain ⟨t1, t2, t3, t4, t5, t6⟩ := (hok.2.2.2.1 w).1 hh
        rw [if_pos hh, if_neg bp_10, me_to (by omega), s2]
        simp only [Option.bind_some]
        by_cases e : bw_t (bn_wr N w) = b
        · rw [if_pos (congrArg nI e), me_takes (by omega), s4]
          simp only [Option.bind_some]
          obtain ⟨I1, e1, e2, e3, e4, e5, e6⟩ := ml_takesOff (L := L) (a := a) hok hN (by omega) hh (hc w (by omega) (by omega) ⟨hh, e⟩) hM
          rw [e1]
          simp only [Option.bind_some]
          rw [bp_p1]
          obtain ⟨I2, g1, g2, g3, g4, g5, g6⟩ := ml_fires52 (v := v) (f := f) (kd := kd) hb K n (w + 1) (((bw_q (bn_wr N w)).take (bw_k (bn_wr N w))).foldl (fr_mw kd) a) I1 (bn_sW N w (bw_sq (bn_wr N w) ((bw_q (bn_wr N w)).drop (bw_k (bn_wr N w))))) (show w + 1 ≤ bn_nw N by omega) (show bn_nw N < w + 1 + n by omega) (hok.setW (by omega) ((hok.2.2.2.1 w).sq (by rw [List.length_drop]; have := (hok.2.2.2.1 w).2.1; omega) hh)) e2 (fun u q1 q2 => by
            show (bw_h (va_up _ w _ u) = true ∧ bw_t (va_up _ w _ u) = b) → bw_k (va_up _ w _ u) ≤ (bw_q (va_up _ w _ u)).length
            rw [vu_n (by omega)]
            exact hc u (by omega) q2) e3
          refine ⟨I2, g1, g2.ext rfl (fun _ _ => rfl) rfl (fun u hu => ?_), ?_, fun r q1 q2 => by rw [g4 r q1 q2, e4 r q1 q2], fun p hp => by rw [g5 p hp, e5 p hp], fun p hp => by rw [g6 p hp, e6 p hp]⟩
          · show (if w ≤ u then bw_sq (bn_wr N u) (fr_rl (bn_wr N u) b) else bn_wr N u) = (if w + 1 ≤ u then bw_sq (va_up _ w _ u) (fr_rl (va_up _ w _ u) b) else va_up _ w _ u)
            by_cases q : u = w
            · subst q
              rw [if_pos (Nat.le_refl _), if_neg (by omega), vu_o]
              unfold fr_rl
              rw [if_pos ⟨hh, e⟩]
            · rw [vu_n q]
              by_cases q2 : w ≤ u
              · rw [if_pos q2, if_pos (by omega)]
              · rw [if_neg q2, if_neg (by omega)]
          · rw [show bn_nw N - w = (bn_nw N - (w + 1)) + 1 by omega]
            show fr_MD kd v f (bfold _ (bn_nw N - (w + 1)) (w + 1) ((fr_tl (bn_wr N w) b).foldl (fr_mw kd) a)) _ _ _ _
            rw [show fr_tl (bn_wr N w) b = (bw_q (bn_wr N w)).take (bw_k (bn_wr N w)) from if_pos ⟨hh, e⟩]
            have : ∀ (k z : Nat) (y : Int32), w + 1 ≤ z → bfold (fun u a => (fr_tl (bn_wr (bn_sW N w (bw_sq (bn_wr N w) ((bw_q (bn_wr N w)).drop (bw_k (bn_wr N w))))) u) b).foldl (fr_mw kd) a) k z y = bfold (fun u a => (fr_tl (bn_wr N u) b).foldl (fr_mw kd) a) k z y := by
              intro k
              induction k with
              | zero => intro z y _; rfl
              | succ k ih =>
                intro z y hz
                show bfold _ k (z + 1) ((fr_tl (va_up _ w _ z) b).foldl (fr_mw kd) y) = bfold _ k (z + 1) ((fr_tl (bn_wr N z) b).foldl (fr_mw kd) y)
                rw [vu_n (show z ≠ w by omega)]
                exact ih (z + 1) _ (by omega)
            rw [← this _ _ _ (Nat.le_refl _)]
            exact g3
        · rw [if_neg (fun z => e (by rwa [bp_eq (by omega) (by omega)] at z))]
          exact pass (fun z => e z.2)
      · rw [if_neg hh, if_pos rfl]
        exact pass (fun z => hh z.1)
end FIRE2
