/-! a firing -/
def fr_m0 (x : bn_B) : Int32 := if x.1 = 4 then x.2.2 * x.2.1 else x.2.1
def fr_mw (k : Nat) (a x : Int32) : Int32 := if k = 1 then a * x else if k = 2 then x else if k = 3 then bf_max a x else a + x
def fr_tk (k : Nat) (v m : Int32) (j : Nat) : Int32 := if k = 0 then m + nI j else if k = 1 then m else if k = 2 then m - nI j else if k = 3 then (if nI j - nI j / 2 * 2 = 0 then m else v) else m * (nI j + 1)
def fr_tl (x : bn_W) (b : Nat) : List Int32 := if bw_h x = true ∧ bw_t x = b then (bw_q x).take (bw_k x) else []
def fr_rl (x : bn_W) (b : Nat) : List Int32 := if bw_h x = true ∧ bw_t x = b then (bw_q x).drop (bw_k x) else bw_q x
def fr_pl (x : bn_W) (b k : Nat) (v m : Int32) : List Int32 := if bw_h x = true ∧ bw_f x = b then (List.range' 0 (bw_p x)).map (fr_tk k v m) else []
def fr_md (N : bn_N) (b : Nat) : Int32 := bfold (fun w a => (fr_tl (bn_wr N w) b).foldl (fr_mw (bn_bx N b).1) a) 8 0 (fr_m0 (bn_bx N b))
abbrev fr_tm (N : bn_N) (b w : Nat) : bn_N := (N.1, N.2.1, N.2.2.1, fun v => if w ≤ v then bw_sq (N.2.2.2 v) (fr_rl (N.2.2.2 v) b) else N.2.2.2 v)
abbrev fr_pm (N : bn_N) (b k : Nat) (vv m : Int32) (w : Nat) : bn_N := (N.1, N.2.1, N.2.2.1, fun v => if w ≤ v then bw_sq (N.2.2.2 v) (bw_q (N.2.2.2 v) ++ fr_pl (N.2.2.2 v) b k vv m) else N.2.2.2 v)
abbrev fr_bm (N : bn_N) (b : Nat) (y : bn_B) : bn_N := (N.1, va_up N.2.1 b y, N.2.2.1, N.2.2.2)
def bn_fire (N : bn_N) (b : Nat) : bn_N := fr_bm (fr_pm (fr_tm N b 0) b (bn_bx N b).1 (bn_bx N b).2.1 (fr_md N b) 0) b ((bn_bx N b).1, (bn_bx N b).2.1, bf_min ((bn_bx N b).2.2 + 1) 9999)
section FIRE1
variable {L : Nat → Nat → Int64}
theorem cl_madeWith {I : Nat → Nat → Int32} {bo kd : Nat} (hk : kd ≤ 4) (h : I bo 0 = nI kd) (a x : Int32) : f_X0_madeWith bo a x I L = some (fr_mw kd a x, I, L) := by
  unfold f_X0_madeWith fr_mw
  rw [h]
  match kd, hk with
  | 0, _ => rfl
  | 1, _ => rfl
  | 2, _ => rfl
  | 3, _ => rfl
  | 4, _ => rfl
theorem cl_tokenOf {I : Nat → Nat → Int32} {bo kd : Nat} {v : Int32} (hk : kd ≤ 4) (h : I bo 0 = nI kd) (hv : I bo 1 = v) (m : Int32) (j : Nat) : f_X0_tokenOf bo m (nI j) I L = some (fr_tk kd v m j, I, L) := by
  unfold f_X0_tokenOf fr_tk
  rw [h, hv]
  match kd, hk with
  | 0, _ => rfl
  | 1, _ => rfl
  | 2, _ => rfl
  | 3, _ =>
    show (if nI j - nI j / 2 * 2 = 0 then some (m, I, L) else some (v, I, L)) = some ((if nI j - nI j / 2 * 2 = 0 then m else v), I, L)
    by_cases e : nI j - nI j / 2 * 2 = 0
    · rw [if_pos e, if_pos e]
    · rw [if_neg e, if_neg e]
  | 4, _ => rfl
theorem cl_take47 {v0 bo p kd k : Nat} {v1 v4 : Int32} {x : bn_W} (hne : bo ≠ p) (hkd : kd ≤ 4) (hk : k ≤ 4) (K : Int32 → (Nat → Nat → Int32) → (Nat → Nat → Int64) → Option (Int32 × bf_St)) : ∀ (n j : Nat) (a : Int32) (I : Nat → Nat → Int32) (q : List Int32), j ≤ k → k < j + n → bc_W I p (bw_sq x q) → k - j ≤ q.length → q.length ≤ 99 → I bo 0 = nI kd → ∃ I1, f_X3_takeAll_47 v0 v1 bo v4 p (nI k) K n a (nI j) I L = K ((q.take (k - j)).foldl (fr_mw kd) a) I1 L ∧ bc_W I1 p (bw_sq x (q.drop (k - j))) ∧ ∀ r, r ≠ p → I1 r = I r
  | 0, j, a, I, q, h1, h2, hW, hl, h99, hb => by omega
  | n + 1, j, a, I, q, h1, h2, hW, hl, h99, hb => by
    rw [f_X3_takeAll_47]
    by_cases hj : j = k
    · subst hj
      rw [if_pos (Int32.le_refl _), Nat.sub_self]
      exact ⟨I, rfl, hW, fun r _ => rfl⟩
    · rw [if_neg (nI_ge (by omega) (by omega))]
      match q, hW, hl, h99 with
      | [], hW, hl, h99 => exact absurd hl (by simp; omega)
      | v :: t, hW, hl, h99 =>
        obtain ⟨I1, e1, e2, e3⟩ := rg_take (L := L) hW rfl h99
        rw [e1]
        simp only [Option.bind_some]
        rw [cl_madeWith hkd (by rw [e3 bo hne]; exact hb)]
        simp only [Option.bind_some]
        rw [bp_p1, show k - j = (k - (j + 1)) + 1 by omega]
        rw [List.length_cons] at hl h99
        obtain ⟨I2, g1, g2, g3⟩ := cl_take47 (v0 := v0) (v1 := v1) (v4 := v4) (x := x) hne hkd hk K n (j + 1) (fr_mw kd a v) I1 t (by omega) (by omega) e2 (by omega) (by omega) (by rw [e3 bo hne]; exact hb)
        exact ⟨I2, g1, g2, fun r hr => by rw [g3 r hr, e3 r hr]⟩
theorem cl_take8 {o nb b kd : Nat} {W : Nat → bn_W} (hnb : nb ≤ 6) (hb : b < 6) (hkd : kd ≤ 4) (hW : ∀ v, bw_ok nb (W v)) (hc : ∀ v, v < 8 → (bw_h (W v) = true ∧ bw_t (W v) = b) → bw_k (W v) ≤ (bw_q (W v)).length) (K : Int32 → (Nat → Nat → Int32) → (Nat → Nat → Int64) → Option (Int32 × bf_St)) : ∀ (n w : Nat) (a : Int32) (I : Nat → Nat → Int32), w ≤ 8 → 8 < w + n → (∀ v, w ≤ v → v < 8 → bc_W I (o + 8 + 1 + 2 * v) (W v)) → I (o + 1 + 1 + b) 0 = nI kd → ∃ I1, f_X3_takeAll_8 o (nI b) (o + 1 + 1 + b) K n a (nI w) I L = K (bfold (fun w a => (fr_tl (W w) b).foldl (fr_mw kd) a) (8 - w) w a) I1 L ∧ (∀ v, w ≤ v → v < 8 → bc_W I1 (o + 8 + 1 + 2 * v) (bw_sq (W v) (fr_rl (W v) b))) ∧ ∀ r, r < o + 8 + 1 + 2 * w ∨ o + 25 ≤ r → I1 r = I r
  | 0, w, a, I, h1, h2, hI, hB => by omega
  | n + 1, w, a, I, h1, h2, hI, hB => by
    rw [f_X3_takeAll_8]
    by_cases hw : w = 8
    · subst hw
      rw [if_pos (by decide)]
      exact ⟨I, rfl, fun v q1 q2 => by omega, fun r _ => rfl⟩
    · have hx := hI w (by omega) (by omega)
      have hxo := hW w
      have hl : (bw_q (W w)).length ≤ 99 := hxo.2.1
      rw [if_neg (show ¬ (8 : Int32) ≤ nI w from nI_ge (b := 8) (by omega) (by omega)), if_pos (bp_ok (by omega) (by omega)), bp_cl (by omega), cl_goesTo hx hxo hnb (by omega), bp_p1, show 8 - w = (8 - (w + 1)) + 1 by omega]
      simp only [Option.bind_some]
      have step : ∃ I1, (if (if bw_h (W w) = true ∧ bw_t (W w) = b then (1 : Int32) else 0) = 0 then f_X3_takeAll_47 o (nI b) (o + 1 + 1 + b) (nI w) (o + 8 + 1 + 2 * w) 0 (fun k3 I13 L13 => f_X3_takeAll_8 o (nI b) (o + 1 + 1 + b) K n k3 (nI (w + 1)) I13 L13) 400 a 0 I L else f_X3_takeAll_47 o (nI b) (o + 1 + 1 + b) (nI w) (o + 8 + 1 + 2 * w) (I (o + 8 + 1 + 2 * w) 3) (fun k3 I13 L13 => f_X3_takeAll_8 o (nI b) (o + 1 + 1 + b) K n k3 (nI (w + 1)) I13 L13) 400 a 0 I L) = f_X3_takeAll_8 o (nI b) (o + 1 + 1 + b) K n ((fr_tl (W w) b).foldl (fr_mw kd) a) (nI (w + 1)) I1 L ∧ bc_W I1 (o + 8 + 1 + 2 * w) (bw_sq (W w) (fr_rl (W w) b)) ∧ ∀ r, r ≠ o + 8 + 1 + 2 * w → I1 r = I r := by
        unfold fr_tl fr_rl
        by_cases e : bw_h (W w) = true ∧ bw_t (W w) = b
        · have hk4 := (hxo.1 e.1).2.2.2.2.2
          rw [if_pos e, if_neg bp_10, if_pos e, if_pos e, (hx.1 e.1).2.2.2]
          obtain ⟨I1, g1, g2, g3⟩ := cl_take47 (L := L) (v0 := o) (v1 := nI b) (v4 := nI w) (x := W w) (bo := o + 1 + 1 + b) (p := o + 8 + 1 + 2 * w) (by omega) hkd hk4 (fun k3 I13 L13 => f_X3_takeAll_8 o (nI b) (o + 1 + 1 + b) K n k3 (nI (w + 1)) I13 L13) 400 0 a I (bw_q (W w)) (by omega) (by omega) hx (by have := hc w (by omega) e; omega) hl hB
          exact ⟨I1, g1, g2, g3⟩
        · rw [if_neg e, if_pos rfl, if_neg e, if_neg e]
          obtain ⟨I1, g1, g2, g3⟩ := cl_take47 (L := L) (v0 := o) (v1 := nI b) (v4 := nI w) (k := 0) (x := W w) (bo := o + 1 + 1 + b) (p := o + 8 + 1 + 2 * w) (by omega) hkd (by omega) (fun k3 I13 L13 => f_X3_takeAll_8 o (nI b) (o + 1 + 1 + b) K n k3 (nI (w + 1)) I13 L13) 400 0 a I (bw_q (W w)) (by omega) (by omega) hx (by omega) hl hB
          exact ⟨I1, g1, g2, g3⟩
      obtain ⟨I1, s1, s2, s3⟩ := step
      rw [s1]
      obtain ⟨I2, g1, g2, g3⟩ := cl_take8 hnb hb hkd hW hc K n (w + 1) ((fr_tl (W w) b).foldl (fr_mw kd) a) I1 (by omega) (by omega) (fun v q1 q2 => (hI v (by omega) q2).cg (s3 _ (by omega)) (s3 _ (by omega))) (by rw [s3 _ (by omega)]; exact hB)
      refine ⟨I2, g1, fun v q1 q2 => ?_, fun r hr => by rw [g3 r (by omega), s3 r (by omega)]⟩
      by_cases hv : v = w
      · subst hv
        exact s2.cg (g3 _ (by omega)) (g3 _ (by omega))
      · exact g2 v (by omega) q2
theorem cl_putOn_2 {p bo kd : Nat} {v m : Int32} {x : bn_W} (hne : bo ≠ p) (hne1 : bo ≠ p + 1) (hkd : kd ≤ 4) (hh : bw_h x = true) (hp : bw_p x ≤ 4) (K : (Nat → Nat → Int32) → (Nat → Nat → Int64) → Option bf_St) : ∀ (n j : Nat) (I : Nat → Nat → Int32) (q : List Int32), j ≤ bw_p x → bw_p x < j + n → bc_W I p (bw_sq x q) → q.length + (bw_p x - j) ≤ 99 → I bo 0 = nI kd → I bo 1 = v → ∃ I1, f_X3_putOn_2 p bo m K n (nI j) I L = K I1 L ∧ bc_W I1 p (bw_sq x (q ++ (List.range' j (bw_p x - j)).map (fr_tk kd v m))) ∧ ∀ r, r ≠ p → r ≠ p + 1 → I1 r = I r
  | 0, j, I, q, h1, h2, hW, hl, hb, hv => by omega
  | n + 1, j, I, q, h1, h2, hW, hl, hb, hv => by
    have e2p : I p 2 = nI (bw_p x) := (hW.1 hh).2.2.1
    rw [f_X3_putOn_2, e2p]
    by_cases hj : j = bw_p x
    · rw [if_pos (nI_le (by omega) (by omega)), show bw_p x - j = 0 by omega]
      refine ⟨I, rfl, ?_, fun r _ _ => rfl⟩
      rw [List.range'_zero, List.map_nil, List.append_nil]
      exact hW
    · rw [if_neg (nI_ge (by omega) (by omega)), cl_tokenOf hkd hb hv]
      simp only [Option.bind_some]
      obtain ⟨I1, e1, e2, e3⟩ := rg_append (L := L) (v := fr_tk kd v m j) hW (show q.length < 99 by omega)
      rw [e1]
      simp only [Option.bind_some]
      rw [bp_p1]
      obtain ⟨I2, g1, g2, g3⟩ := cl_putOn_2 (v := v) (m := m) hne hne1 hkd hh hp K n (j + 1) I1 (q ++ [fr_tk kd v m j]) (by omega) (by omega) e2 (by rw [List.length_append, List.length_singleton]; omega) (by rw [e3 bo hne hne1]; exact hb) (by rw [e3 bo hne hne1]; exact hv)
      refine ⟨I2, g1, ?_, fun r r1 r2 => by rw [g3 r r1 r2, e3 r r1 r2]⟩
      rw [List.append_assoc] at g2
      rw [show bw_p x - j = (bw_p x - (j + 1)) + 1 by omega, List.range'_succ, List.map_cons]
      exact g2
theorem cl_fire27 {o nb b kd : Nat} {v m : Int32} {W : Nat → bn_W} (hnb : nb ≤ 6) (hb : b < 6) (hkd : kd ≤ 4) (hW : ∀ v, bw_ok nb (W v)) (hc : ∀ v, v < 8 → (bw_h (W v) = true ∧ bw_f (W v) = b) → (bw_q (W v)).length + bw_p (W v) ≤ 99) (K : (Nat → Nat → Int32) → (Nat → Nat → Int64) → Option (Int32 × bf_St)) : ∀ (n w : Nat) (I : Nat → Nat → Int32), w ≤ 8 → 8 < w + n → (∀ v, w ≤ v → v < 8 → bc_W I (o + 8 + 1 + 2 * v) (W v)) → I (o + 1 + 1 + b) 0 = nI kd → I (o + 1 + 1 + b) 1 = v → ∃ I1, f_X3_fireBox_27 o (nI b) (o + 1 + 1 + b) m K n (nI w) I L = K I1 L ∧ (∀ u, w ≤ u → u < 8 → bc_W I1 (o + 8 + 1 + 2 * u) (bw_sq (W u) (bw_q (W u) ++ fr_pl (W u) b kd v m))) ∧ ∀ r, r < o + 8 + 1 + 2 * w ∨ o + 25 ≤ r → I1 r = I r
  | 0, w, I, h1, h2, hI, hB, hV => by omega
  | n + 1, w, I, h1, h2, hI, hB, hV => by
    rw [f_X3_fireBox_27]
    by_cases hw : w = 8
    · subst hw
      rw [if_pos (by decide)]
      exact ⟨I, rfl, fun v q1 q2 => by omega, fun r _ => rfl⟩
    · have hx := hI w (by omega) (by omega)
      have hxo := hW w
      rw [if_neg (show ¬ (8 : Int32) ≤ nI w from nI_ge (b := 8) (by omega) (by omega)), if_pos (bp_ok (by omega) (by omega)), bp_p1]
      simp only [bp_cl (show w < 100000 by omega)]
      rw [cl_comesFrom hx hxo hnb (by omega)]
      simp only [Option.bind_some]
      have step : ∃ I1, (if (if bw_h (W w) = true ∧ bw_f (W w) = b then (1 : Int32) else 0) = 0 then f_X3_fireBox_27 o (nI b) (o + 1 + 1 + b) m K n (nI (w + 1)) I L else if bf_ok (nI w) 8 then ((f_X3_putOn (o + 8 + 1 + 2 * w) (o + 1 + 1 + b) m I L).bind (fun r14 => f_X3_fireBox_27 o (nI b) (o + 1 + 1 + b) m K n (nI (w + 1)) r14.1 r14.2)) else none) = f_X3_fireBox_27 o (nI b) (o + 1 + 1 + b) m K n (nI (w + 1)) I1 L ∧ bc_W I1 (o + 8 + 1 + 2 * w) (bw_sq (W w) (bw_q (W w) ++ fr_pl (W w) b kd v m)) ∧ ∀ r, r ≠ o + 8 + 1 + 2 * w → r ≠ o + 8 + 1 + 2 * w + 1 → I1 r = I r := by
        unfold fr_pl
        by_cases e : bw_h (W w) = true ∧ bw_f (W w) = b
        · have hp4 := (hxo.1 e.1).2.2.2.1
          rw [if_pos e, if_neg bp_10, if_pos (bp_ok (by omega) (by omega)), if_pos e]
          obtain ⟨I1, g1, g2, g3⟩ := cl_putOn_2 (L := L) (v := v) (m := m) (x := W w) (bo := o + 1 + 1 + b) (p := o + 8 + 1 + 2 * w) (by omega) (by omega) hkd e.1 hp4 (fun I6 L6 => some (I6, L6)) 400 0 I (bw_q (W w)) (by omega) (by omega) hx (by have := hc w (by omega) e; omega) hB hV
          refine ⟨I1, ?_, g2, g3⟩
          rw [show f_X3_putOn (o + 8 + 1 + 2 * w) (o + 1 + 1 + b) m I L = some (I1, L) from g1]
          rfl
        · rw [if_neg e, if_pos rfl, if_neg e, List.append_nil]
          exact ⟨I, rfl, hx, fun r _ _ => rfl⟩
      obtain ⟨I1, s1, s2, s3⟩ := step
      rw [s1]
      obtain ⟨I2, g1, g2, g3⟩ := cl_fire27 (v := v) (m := m) hnb hb hkd hW hc K n (w + 1) I1 (by omega) (by omega) (fun v q1 q2 => (hI v (by omega) q2).cg (s3 _ (by omega) (by omega)) (s3 _ (by omega) (by omega))) (by rw [s3 _ (by omega) (by omega)]; exact hB) (by rw [s3 _ (by omega) (by omega)]; exact hV)
      refine ⟨I2, g1, fun v q1 q2 => ?_, fun r hr => by rw [g3 r (by omega), s3 r (by omega) (by omega)]⟩
      by_cases hv : v = w
      · subst hv
        exact s2.cg (g3 _ (by omega)) (g3 _ (by omega))
      · exact g2 v (by omega) q2
theorem fr_rlen {nb b : Nat} {x : bn_W} (hok : bw_ok nb x) : (fr_rl x b).length = (bw_q x).length - ch_k x b := by
  unfold fr_rl
  by_cases e : bw_h x = true ∧ bw_t x = b
  · rw [if_pos e, List.length_drop, show ch_k x b = bw_k x from if_pos e]
  · rw [if_neg e, show ch_k x b = 0 from if_neg e, Nat.sub_zero]
theorem fr_plen {b k : Nat} {v m : Int32} {x : bn_W} : (fr_pl x b k v m).length = ch_p x b := by
  unfold fr_pl
  by_cases e : bw_h x = true ∧ bw_f x = b
  · rw [if_pos e, List.length_map, List.length_range', show ch_p x b = bw_p x from if_pos e]
  · rw [if_neg e, show ch_p x b = 0 from if_neg e]
    rfl
theorem bn_canI {N : bn_N} {b : Nat} (h : bn_can N b) : ∀ v, v < 8 → ((bw_h (bn_wr N v) = true ∧ bw_t (bn_wr N v) = b) → bw_k (bn_wr N v) ≤ bn_q N v) ∧ ((bw_h (bn_wr N v) = true ∧ bw_f (bn_wr N v) = b) → bn_q N v + bw_p (bn_wr N v) ≤ 99 + ch_k (bn_wr N v) b) := fun v hv => cf_iff.mp (cf_wI.mp h v (by omega) hv)
theorem cl_fire {I : Nat → Nat → Int32} {o b : Nat} {N : bn_N} (hok : bn_ok N) (hN : bc_N I o N) (hb : b < bn_nb N) (hcan : bn_can N b) : ∃ I1, f_X3_fireBox o (nI b) I L = some (fr_md N b, I1, L) ∧ bc_N I1 o (bn_fire N b) ∧ ∀ r, r < o ∨ o + 25 ≤ r → I1 r = I r := by
  have o1 := hok.1
  obtain ⟨h1, h2, h3, h4⟩ := id hN
  obtain ⟨b1, b2, b3⟩ := h3 b hb
  have hkd := hok.2.2.1 b hb
  have hcw := bn_canI hcan
  obtain ⟨I1, e1, e2, e3⟩ := cl_take8 (L := L) (o := o) (W := bn_wr N) o1 (show b < 6 by omega) hkd hok.2.2.2.1 (fun v hv => (hcw v hv).1) (fun k3 I15 L15 => some (k3, I15, L15)) 400 0 (fr_m0 (bn_bx N b)) I (by omega) (by omega) (fun v q1 q2 => h4 v q2) b1
  have hW2 : ∀ v, bw_ok (bn_nb N) (bw_sq (bn_wr N v) (fr_rl (bn_wr N v) b)) := fun v => by
    have := hok.2.2.2.1 v
    refine ⟨this.1, ?_, fun z => ?_⟩
    · show (fr_rl (bn_wr N v) b).length ≤ 99
      have hl := this.2.1
      rw [fr_rlen this]
      omega
    · show fr_rl (bn_wr N v) b = []
      unfold fr_rl
      rw [if_neg (fun y => by rw [show bw_h (bn_wr N v) = false from z] at y; exact absurd y.1 Bool.false_ne_true)]
      exact this.2.2 z
  have hc2 : ∀ v, v < 8 → (bw_h (bw_sq (bn_wr N v) (fr_rl (bn_wr N v) b)) = true ∧ bw_f (bw_sq (bn_wr N v) (fr_rl (bn_wr N v) b)) = b) → (bw_q (bw_sq (bn_wr N v) (fr_rl (bn_wr N v) b))).length + bw_p (bw_sq (bn_wr N v) (fr_rl (bn_wr N v) b)) ≤ 99 := fun v hv z => by
    have z2 := (hcw v hv).2 z
    show (fr_rl (bn_wr N v) b).length + bw_p (bn_wr N v) ≤ 99
    rw [fr_rlen (hok.2.2.2.1 v)]
    have hp4 := ((hok.2.2.2.1 v).1 z.1).2.2.2.1
    have : ch_k (bn_wr N v) b ≤ bn_q N v := by
      by_cases e : bw_h (bn_wr N v) = true ∧ bw_t (bn_wr N v) = b
      · rw [show ch_k (bn_wr N v) b = bw_k (bn_wr N v) from if_pos e]
        exact (hcw v hv).1 e
      · rw [show ch_k (bn_wr N v) b = 0 from if_neg e]
        omega
    have e4 : bn_q N v = (bw_q (bn_wr N v)).length := rfl
    omega
  obtain ⟨I2, g1, g2, g3⟩ := cl_fire27 (L := L) (o := o) (v := (bn_bx N b).2.1) (m := fr_md N b) (W := fun v => bw_sq (bn_wr N v) (fr_rl (bn_wr N v) b)) o1 (show b < 6 by omega) hkd hW2 hc2 (fun I15 L15 => (f_X0_noteFiring (o + 1 + 1 + b) I15 L15).bind (fun r17 => some (fr_md N b, r17.1, r17.2))) 400 0 I1 (by omega) (by omega) (fun v q1 q2 => e2 v q1 q2) (by rw [e3 _ (by omega)]; exact b1) (by rw [e3 _ (by omega)]; exact b2)
  refine ⟨bf_u I2 (o + 1 + 1 + b) 2 (bf_min ((bn_bx N b).2.2 + 1) 9999), ?_, ⟨?_, ?_, fun c hc => ?_, fun v hv => ?_⟩, fun r hr => by rw [bf_u_ne (by omega), g3 r (by omega), e3 r (by omega)]⟩
  · unfold f_X3_fireBox
    rw [cc_hasBox_t hok hN hb]
    simp only [Option.bind_some]
    rw [if_neg bp_10, if_pos (bp_ok (by omega) (by omega)), bp_cl (by omega)]
    have t1 : f_X3_takeAll o (nI b) (o + 1 + 1 + b) I L = some (fr_md N b, I1, L) := by
      unfold f_X3_takeAll f_X0_madeOfNothing
      have : (if I (o + 1 + 1 + b) 0 = 4 then some (I (o + 1 + 1 + b) 2 * I (o + 1 + 1 + b) 1, I, L) else some (I (o + 1 + 1 + b) 1, I, L)) = some (fr_m0 (bn_bx N b), I, L) := by
        rw [b1, b2, b3]
        unfold fr_m0
        by_cases e : (bn_bx N b).1 = 4
        · rw [if_pos (show nI (bn_bx N b).1 = (4 : Int32) from congrArg nI e), if_pos e]
        · rw [if_neg (fun z => e (by rwa [show (4 : Int32) = nI 4 from rfl, bp_eq (by omega) (by omega)] at z)), if_neg e]
      rw [this]
      simp only [Option.bind_some]
      exact e1
    rw [t1]
    simp only [Option.bind_some]
    rw [show (0 : Int32) = nI 0 from rfl, g1]
    unfold f_X0_noteFiring
    simp only [Option.bind_some]
    rw [g3 _ (by omega), e3 _ (by omega), b3]
  · rw [bf_u_ne (by omega), g3 _ (by omega), e3 _ (by omega)]
    exact h1
  · rw [bf_u_ne (by omega), g3 _ (by omega), e3 _ (by omega)]
    exact h2
  · have hc : c < bn_nb N := hc
    show _ = nI (va_up _ b _ c : bn_B).1 ∧ _ = (va_up _ b _ c : bn_B).2.1 ∧ _ = (va_up _ b _ c : bn_B).2.2
    by_cases e : c = b
    · subst e
      rw [vu_o, bf_u_at, bf_u_ni (by omega), bf_u_ni (by omega), g3 _ (by omega), e3 _ (by omega)]
      exact ⟨b1, b2, rfl⟩
    · rw [vu_n e, bf_u_ne (by omega), g3 _ (by omega), e3 _ (by omega)]
      exact h3 c hc
  · exact (g2 v (by omega) hv).cg (by rw [bf_u_ne (by omega)]) (by rw [bf_u_ne (by omega)])
end FIRE1
