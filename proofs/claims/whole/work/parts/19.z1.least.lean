/-! LEAST: all orders -/
def om (a b : Option Nat) : Option Nat := match a, b with
  | none, y => y
  | some x, none => some x
  | some x, some y => some (min x y)
theorem om_n (a : Option Nat) : om a none = a := by cases a <;> rfl
theorem om_as (a b c : Option Nat) : om (om a b) c = om a (om b c) := by
  cases a with
  | none => rfl
  | some x =>
    cases b with
    | none => rfl
    | some y =>
      cases c with
      | none => rfl
      | some z =>
        show some (min (min x y) z) = some (min x (min y z))
        rw [Nat.min_assoc]
def tm8 (m : Nat → Nat) : Nat := bfold (fun v a => a + m v) 8 0 0
theorem tm8_e (m : Nat → Nat) : tm8 m = m 0 + m 1 + m 2 + m 3 + m 4 + m 5 + m 6 + m 7 := by
  show 0 + m 0 + m 1 + m 2 + m 3 + m 4 + m 5 + m 6 + m 7 = _
  rw [Nat.zero_add]
abbrev sq (N : bn_N) (q : Nat → Nat) (b : Nat) : Nat → Nat := fun v => q v + ch_p (bn_wr N v) b - ch_k (bn_wr N v) b
abbrev sm (m q : Nat → Nat) : Nat → Nat := fun v => max (m v) (q v)
theorem tm8_le {m q : Nat → Nat} : tm8 m ≤ tm8 (sm m q) := by
  have h : ∀ v, m v ≤ sm m q v := fun v => Nat.le_max_left _ _
  have h0 := h 0
  have h1 := h 1
  have h2 := h 2
  have h3 := h 3
  have h4 := h 4
  have h5 := h 5
  have h6 := h 6
  have h7 := h 7
  rw [tm8_e, tm8_e]
  omega
theorem tm8_b {m : Nat → Nat} (h : ∀ v, v < 8 → m v ≤ 99) : tm8 m ≤ 792 := by
  have h0 := h 0 (by omega)
  have h1 := h 1 (by omega)
  have h2 := h 2 (by omega)
  have h3 := h 3 (by omega)
  have h4 := h 4 (by omega)
  have h5 := h 5 (by omega)
  have h6 := h 6 (by omega)
  have h7 := h 7 (by omega)
  rw [tm8_e]
  omega
def sl (rc : (Nat → Nat) → (Nat → Nat) → (Nat → Nat) → Option Nat) (N : bn_N) (l q m : Nat → Nat) : Nat → Nat → Option Nat → Option Nat
  | 0, _, a => a
  | k + 1, b, a => sl rc N l q m k (b + 1) (if 0 < l b ∧ cf_q N q b then om a (rc (pd_d l b) (sq N q b) (sm m (sq N q b))) else a)
def sr (N : bn_N) : Nat → (Nat → Nat) → (Nat → Nat) → (Nat → Nat) → Option Nat
  | 0 => fun _ _ m => some (tm8 m)
  | d + 1 => fun l q m => sl (sr N d) N l q m 6 0 none
theorem sl_om {rc : (Nat → Nat) → (Nat → Nat) → (Nat → Nat) → Option Nat} {N : bn_N} {l q m : Nat → Nat} : ∀ (k b : Nat) (a c : Option Nat), sl rc N l q m k b (om a c) = om a (sl rc N l q m k b c)
  | 0, _, _, _ => rfl
  | k + 1, b, a, c => by
    show sl rc N l q m k (b + 1) _ = om a (sl rc N l q m k (b + 1) _)
    by_cases h : 0 < l b ∧ cf_q N q b
    · rw [if_pos h, if_pos h, om_as, sl_om k]
    · rw [if_neg h, if_neg h, sl_om k]
theorem sl_om0 {rc : (Nat → Nat) → (Nat → Nat) → (Nat → Nat) → Option Nat} {N : bn_N} {l q m : Nat → Nat} (k b : Nat) (a : Option Nat) : sl rc N l q m k b a = om a (sl rc N l q m k b none) := by
  have := sl_om (rc := rc) (N := N) (l := l) (q := q) (m := m) k b a none
  rw [om_n] at this
  exact this
/-- HOLD only grows -/
theorem om_ge {a b : Option Nat} {t h : Nat} (ha : ∀ x, a = some x → t ≤ x) (hb : ∀ x, b = some x → t ≤ x) (e : om a b = some h) : t ≤ h := by
  cases a with
  | none => exact hb h e
  | some x =>
    cases b with
    | none => exact ha h e
    | some y =>
      have e : some (min x y) = some h := e
      have := Option.some.inj e
      have h1 := ha x rfl
      have h2 := hb y rfl
      rw [← this]
      exact Nat.le_min.mpr ⟨h1, h2⟩
theorem sl_ge {rc : (Nat → Nat) → (Nat → Nat) → (Nat → Nat) → Option Nat} {N : bn_N} {l q m : Nat → Nat} {t : Nat} (hr : ∀ l q m2 h, rc l q (sm m m2) = some h → t ≤ h) : ∀ (k b : Nat) (a : Option Nat) (h : Nat), (∀ x, a = some x → t ≤ x) → sl rc N l q m k b a = some h → t ≤ h
  | 0, _, a, h, ha, e => ha h e
  | k + 1, b, a, h, ha, e => by
    refine sl_ge hr k (b + 1) _ h (fun x hx => ?_) e
    by_cases z : 0 < l b ∧ cf_q N q b
    · rw [if_pos z] at hx
      exact om_ge ha (fun y hy => hr _ _ _ y hy) hx
    · rw [if_neg z] at hx
      exact ha x hx
theorem sr_ge {N : bn_N} : ∀ (d : Nat) (l q m : Nat → Nat) (h : Nat), sr N d l q m = some h → tm8 m ≤ h
  | 0, l, q, m, h, e => by
    have e : some (tm8 m) = some h := e
    rw [Option.some.inj e]
    exact Nat.le_refl _
  | d + 1, l, q, m, h, e => sl_ge (t := tm8 m) (fun l2 q2 m2 h2 e2 => Nat.le_trans tm8_le (sr_ge d l2 q2 (sm m m2) h2 e2)) 6 0 none h (fun x hx => by cases hx) e
/-- a firing's counts -/
theorem sq_e {N : bn_N} {q : Nat → Nat} {b : Nat} (hc : cf_q N q b) {v : Nat} (hv : v < 8) : sq N q b v + ch_k (bn_wr N v) b = q v + ch_p (bn_wr N v) b := by
  have h := cf_iff.mp (cf_wI.mp hc v (by omega) hv)
  have : ch_k (bn_wr N v) b ≤ q v := by
    show (if bw_h (bn_wr N v) = true ∧ bw_t (bn_wr N v) = b then bw_k (bn_wr N v) else 0) ≤ q v
    by_cases z : bw_h (bn_wr N v) = true ∧ bw_t (bn_wr N v) = b
    · rw [if_pos z]; exact h.1 z
    · rw [if_neg z]; omega
  show q v + ch_p (bn_wr N v) b - ch_k (bn_wr N v) b + ch_k (bn_wr N v) b = _
  omega
theorem sq_l {N : bn_N} {q : Nat → Nat} {b : Nat} (hc : cf_q N q b) {v : Nat} (hv : v < 8) (hq : q v ≤ 99) : sq N q b v ≤ 99 := by
  have h := cf_iff.mp (cf_wI.mp hc v (by omega) hv)
  have e := sq_e hc hv
  by_cases z : bw_h (bn_wr N v) = true ∧ bw_f (bn_wr N v) = b
  · have h2 := h.2 z
    have e2 : ch_p (bn_wr N v) b = bw_p (bn_wr N v) := if_pos z
    omega
  · have e2 : ch_p (bn_wr N v) b = 0 := if_neg z
    omega
theorem sq_0 {N : bn_N} {q : Nat → Nat} {b v : Nat} (h : ¬ bw_h (bn_wr N v) = true) : sq N q b v = q v := by
  have e1 : ch_p (bn_wr N v) b = 0 := if_neg (fun z => h z.1)
  have e2 : ch_k (bn_wr N v) b = 0 := if_neg (fun z => h z.1)
  show q v + ch_p (bn_wr N v) b - ch_k (bn_wr N v) b = q v
  rw [e1, e2]
  omega
theorem bp_as2 {q p k r : Nat} (h : r + k = q + p) : nI r - (nI p - nI k) = nI q := by
  rw [← bp_as h, Int32.add_sub_cancel]
theorem bp_as3 {q p k r : Nat} (h : r + k = q + p) : nI r + (-1 : Int32) * (nI p - nI k) = nI q := by
  rw [Int32.neg_mul, Int32.one_mul, ← Int32.sub_eq_add_neg]
  exact bp_as2 h
/-! the class -/
def be (a : Option Nat) : Int32 := match a with | none => 2147483647 | some h => nI h
section LS1
variable {L : Nat → Nat → Int64}
theorem cl_back2 {c a b : Nat} {N0 : bn_N} {q q2 : Nat → Nat} (hok0 : bn_ok N0) (hd : a + 25 ≤ c) (hb : b < 6) (hq2 : ∀ v, v < 8 → q2 v + ch_k (bn_wr N0 v) b = q v + ch_p (bn_wr N0 v) b) (K : (Nat → Nat → Int32) → (Nat → Nat → Int64) → Option bf_St) : ∀ (n j : Nat) (I : Nat → Nat → Int32), j ≤ 8 → 8 < j + n → bc_N I a N0 → (∀ w, w < 8 → I (c + 1) w = nI (if w < j then q w else q2 w)) → ∃ I1, f_X2_takeBack_2 c a (nI b) K n (nI j) I L = K I1 L ∧ (∀ w, w < 8 → I1 (c + 1) w = nI (q w)) ∧ ∀ r, r ≠ c + 1 → I1 r = I r
  | 0, j, I, h1, h2, hN, hq => by omega
  | n + 1, j, I, h1, h2, hN, hq => by
    rw [f_X2_takeBack_2]
    by_cases h8 : j = 8
    · subst h8
      rw [if_pos (by decide)]
      exact ⟨I, rfl, fun w hw => by rw [hq w hw, if_pos hw], fun _ _ => rfl⟩
    · rw [if_neg (show ¬ (8 : Int32) ≤ nI j from nI_ge (b := 8) (by omega) (by omega)), bp_p1]
      simp only [if_pos (bp_ok (show j < 8 by omega) (show 8 ≤ 100000 by omega)), bp_cl (show j < 100000 by omega)]
      rw [cl_changeBy (hN.2.2.2 j (by omega)) (hok0.2.2.2.1 j) hok0.1 (by omega)]
      simp only [Option.bind_some]
      rw [hq j (by omega), if_neg (Nat.lt_irrefl _), bp_as2 (hq2 j (by omega))]
      obtain ⟨I1, g1, g2, g3⟩ := cl_back2 (c := c) (a := a) hok0 hd hb hq2 K n (j + 1) (bf_u I (c + 1) j (nI (q j))) (by omega) (by omega) (hN.cg (fun r r1 r2 => by rw [bf_u_ne (by omega)]) hok0) (fun w hw => by
        by_cases e : w = j
        · subst e
          rw [bf_u_at, if_pos (by omega)]
        · rw [bf_u_ni e, hq w hw]
          by_cases z : w < j
          · rw [if_pos z, if_pos (by omega)]
          · rw [if_neg z, if_neg (by omega)])
      exact ⟨I1, g1, g2, fun r hr => by rw [g3 r hr, bf_u_ne hr]⟩
theorem cl_back {I : Nat → Nat → Int32} {c a b : Nat} {N0 : bn_N} {q q2 : Nat → Nat} (hok0 : bn_ok N0) (hd : a + 25 ≤ c) (hb : b < 6) (hq2 : ∀ v, v < 8 → q2 v + ch_k (bn_wr N0 v) b = q v + ch_p (bn_wr N0 v) b) (hN : bc_N I a N0) (hq : ∀ w, w < 8 → I (c + 1) w = nI (q2 w)) : ∃ I1, f_X2_takeBack c a (nI b) I L = some (I1, L) ∧ (∀ w, w < 8 → I1 (c + 1) w = nI (q w)) ∧ ∀ r, r ≠ c + 1 → I1 r = I r := by
  unfold f_X2_takeBack
  exact cl_back2 hok0 hd hb hq2 _ 400 0 I (by omega) (by omega) hN (fun w hw => by rw [hq w hw, if_neg (by omega)])
theorem tm8_s (m : Nat → Nat) (j : Nat) : bfold (fun v a => a + m v) (j + 1) 0 0 = bfold (fun v a => a + m v) j 0 0 + m j := by rw [bfold_sc, Nat.zero_add]
theorem cl_raise4 {d : Nat} {m q : Nat → Nat} (hd : d < 8) (hm : ∀ w, w < 8 → m w ≤ 99 ∧ q w ≤ 99) (K : Int32 → (Nat → Nat → Int32) → (Nat → Nat → Int64) → Option (Int32 × bf_St)) : ∀ (n j : Nat) (I : Nat → Nat → Int32), j ≤ 8 → 8 < j + n → (∀ w, w < 8 → I 112 w = nI (q w)) → (∀ w, w < 8 → I (115 + d) w = nI (m w)) → (∀ w, w < j → I (115 + (d + 1)) w = nI (sm m q w)) → ∃ I1, f_X4_raiseMost_4 110 (nI d) K n (nI (bfold (fun v a => a + sm m q v) j 0 0)) (nI j) I L = K (nI (tm8 (sm m q))) I1 L ∧ (∀ w, w < 8 → I1 (115 + (d + 1)) w = nI (sm m q w)) ∧ ∀ r, r ≠ 115 + (d + 1) → I1 r = I r
  | 0, j, I, h1, h2, hq, hmI, hj => by omega
  | n + 1, j, I, h1, h2, hq, hmI, hj => by
    rw [f_X4_raiseMost_4]
    simp only [Nat.reduceAdd]
    by_cases h8 : j = 8
    · subst h8
      rw [if_pos (by decide)]
      exact ⟨I, rfl, hj, fun _ _ => rfl⟩
    · have hmj := hm j (by omega)
      rw [if_neg (show ¬ (8 : Int32) ≤ nI j from nI_ge (b := 8) (by omega) (by omega)), bp_p1, bp_p1]
      simp only [if_pos (bp_ok (show j < 8 by omega) (show 8 ≤ 100000 by omega)), if_pos (bp_ok (show d < 9 by omega) (show 9 ≤ 100000 by omega)), if_pos (bp_ok (show d + 1 < 9 by omega) (show 9 ≤ 100000 by omega)), bp_cl (show j < 100000 by omega), bp_cl (show d < 100000 by omega), bp_cl (show d + 1 < 100000 by omega), hq j (by omega), hmI j (by omega), bp_mx (show m j < 100000 by omega) (show q j < 100000 by omega), nI_add]
      rw [show bfold (fun v a => a + sm m q v) j 0 0 + max (m j) (q j) = bfold (fun v a => a + sm m q v) (j + 1) 0 0 from (tm8_s (sm m q) j).symm]
      obtain ⟨I1, g1, g2, g3⟩ := cl_raise4 (d := d) (m := m) (q := q) hd hm K n (j + 1) (bf_u I (115 + (d + 1)) j (nI (max (m j) (q j)))) (by omega) (by omega) (fun w hw => by rw [bf_u_ne (by omega)]; exact hq w hw) (fun w hw => by rw [bf_u_ne (by omega)]; exact hmI w hw) (fun w hw => by
        by_cases e : w = j
        · subst e; rw [bf_u_at]
        · rw [bf_u_ni e]; exact hj w (by omega))
      exact ⟨I1, g1, g2, fun r hr => by rw [g3 r hr, bf_u_ne hr]⟩
theorem cl_raise {I : Nat → Nat → Int32} {d : Nat} {m q : Nat → Nat} (hd : d < 8) (hm : ∀ w, w < 8 → m w ≤ 99 ∧ q w ≤ 99) (hq : ∀ w, w < 8 → I 112 w = nI (q w)) (hmI : ∀ w, w < 8 → I (115 + d) w = nI (m w)) : ∃ I1, f_X4_raiseMost 110 (nI d) I L = some (nI (tm8 (sm m q)), I1, L) ∧ (∀ w, w < 8 → I1 (115 + (d + 1)) w = nI (sm m q w)) ∧ ∀ r, r ≠ 115 + (d + 1) → I1 r = I r := by
  obtain ⟨I1, g1, g2, g3⟩ := cl_raise4 (L := L) hd hm (fun k2_7 I7 L7 => (some (k2_7, I7, L7))) 400 0 I (by omega) (by omega) hq hmI (fun w hw => absurd hw (by omega))
  rw [show nI (bfold (fun v a => a + sm m q v) 0 0 0) = (0 : Int32) from rfl, show nI 0 = (0 : Int32) from rfl] at g1
  unfold f_X4_raiseMost
  exact ⟨I1, g1, g2, g3⟩
end LS1
