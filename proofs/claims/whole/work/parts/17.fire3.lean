theorem vu_vu {α : Type} {f : Nat → α} {k : Nat} {a b : α} : va_up (va_up f k a) k b = va_up f k b := by
  funext j
  by_cases e : j = k
  · subst e; rw [vu_o, vu_o]
  · rw [vu_n e, vu_n e, vu_n e]
theorem bf_minc (x y : Int32) : bf_min x y = bf_min y x := by
  unfold bf_min
  by_cases h : y < x
  · rw [if_pos h, if_neg (by rw [bp_ltI] at h ⊢; omega)]
  · by_cases h2 : x < y
    · rw [if_neg h, if_pos h2]
    · rw [if_neg h, if_neg h2]
      exact Int32.toInt_inj.mp (by rw [bp_ltI] at h h2; omega)
section FIRE3
variable {L : Nat → Nat → Int64}
theorem ml_put {I : Nat → Nat → Int32} {kd j : Nat} (hk : kd ≤ 4) (m v : Int32) : f_X12_put (nI kd) m v (nI j) I L = some (fr_tk kd v m j, I, L) := by
  unfold f_X12_put fr_tk
  match kd, hk with
  | 0, _ => rfl
  | 1, _ => rfl
  | 2, _ => rfl
  | 3, _ =>
    show (if nI j - nI j / 2 * 2 = 0 then some (m, I, L) else some (v, I, L)) = some ((if nI j - nI j / 2 * 2 = 0 then m else v), I, L)
    by_cases e : nI j - nI j / 2 * 2 = 0
    · rw [if_pos e, if_pos e]
    · rw [if_neg e, if_neg e]
  | 4, _ => rfl
theorem ml_put206 {o w kd : Nat} {b v m : Int32} {N : bn_N} (hok : bn_ok N) (hkd : kd ≤ 4) (hw : w < bn_nw N) (hh : bw_h (bn_wr N w) = true) (K : (Nat → Nat → Int32) → (Nat → Nat → Int64) → Option (Int32 × bf_St)) : ∀ (n j : Nat) (I : Nat → Nat → Int32) (q : List Int32), j ≤ bw_p (bn_wr N w) → bw_p (bn_wr N w) < j + n → bm_N (I (o + 1)) (bn_sW N w (bw_sq (bn_wr N w) q)) → q.length + (bw_p (bn_wr N w) - j) ≤ 99 → ∃ I1, f_X12_fires_206 o b (nI kd) v m (nI w) K n (nI j) I L = K I1 L ∧ bm_N (I1 (o + 1)) (bn_sW N w (bw_sq (bn_wr N w) (q ++ (List.range' j (bw_p (bn_wr N w) - j)).map (fr_tk kd v m)))) ∧ (∀ r, r ≠ o + 1 → I1 r = I r) ∧ ∀ p, p < 74 → I1 (o + 1) p = I (o + 1) p
  | 0, j, I, q, h1, h2, hN, hl => by omega
  | n + 1, j, I, q, h1, h2, hN, hl => by
    have o2 := hok.2.1
    have hp4 := ((hok.2.2.2.1 w).1 hh).2.2.2.1
    have hwr : bn_wr (bn_sW N w (bw_sq (bn_wr N w) q)) w = bw_sq (bn_wr N w) q := vu_o
    have hx := hN.2.2.2 w hw
    rw [hwr] at hx
    have s3 : I (o + 1) (74 + 105 * w + 2) = nI (bw_p (bn_wr N w)) := (hx.1 hh).2.2.1
    rw [f_X12_fires_206, me_puts (by omega), s3]
    simp only [Option.bind_some]
    by_cases hj : j = bw_p (bn_wr N w)
    · rw [if_pos (nI_le (by omega) (by omega)), show bw_p (bn_wr N w) - j = 0 by omega, List.range'_zero, List.map_nil, List.append_nil]
      exact ⟨I, rfl, hN, fun r _ => rfl, fun p _ => rfl⟩
    · rw [if_neg (nI_ge (by omega) (by omega)), ml_put hkd]
      simp only [Option.bind_some]
      have hok2 : bn_ok (bn_sW N w (bw_sq (bn_wr N w) q)) := hok.setW hw ((hok.2.2.2.1 w).sq (by omega) hh)
      obtain ⟨I1, e1, e2, e3, e4⟩ := ml_comes (L := L) (o := o) (v := fr_tk kd v m j) hok2 hN hw (by rw [hwr]; show q.length < 99; omega)
      rw [e1]
      simp only [Option.bind_some]
      rw [hwr] at e2
      have e2' : bm_N (I1 (o + 1)) (bn_sW N w (bw_sq (bn_wr N w) (q ++ [fr_tk kd v m j]))) := by
        have := e2
        unfold bn_sW at this
        simp only [vu_vu] at this
        exact this
      rw [bp_p1]
      obtain ⟨I2, g1, g2, g3, g4⟩ := ml_put206 (b := b) (v := v) (m := m) hok hkd hw hh K n (j + 1) I1 (q ++ [fr_tk kd v m j]) (by omega) (by omega) e2' (by rw [List.length_append, List.length_singleton]; omega)
      refine ⟨I2, g1, ?_, fun r hr => by rw [g3 r hr, e3 r hr], fun p hp => by rw [g4 p hp, e4 p hp]⟩
      rw [List.append_assoc] at g2
      rw [show bw_p (bn_wr N w) - j = (bw_p (bn_wr N w) - (j + 1)) + 1 by omega, List.range'_succ, List.map_cons]
      exact g2
theorem ml_fires173 {o b kd : Nat} {v m : Int32} (hb : b < 6) (hkd : kd ≤ 4) (K : (Nat → Nat → Int32) → (Nat → Nat → Int64) → Option (Int32 × bf_St)) : ∀ (n w : Nat) (I : Nat → Nat → Int32) (N : bn_N), w ≤ bn_nw N → bn_nw N < w + n → bn_ok N → bm_N (I (o + 1)) N → (∀ u, w ≤ u → u < 8 → (bw_h (bn_wr N u) = true ∧ bw_f (bn_wr N u) = b) → (bw_q (bn_wr N u)).length + bw_p (bn_wr N u) ≤ 99) → ∃ I1, f_X12_fires_173 o (nI b) (nI kd) v m K n (nI w) I L = K I1 L ∧ bm_N (I1 (o + 1)) (fr_pm N b kd v m w) ∧ (∀ r, r ≠ o + 1 → I1 r = I r) ∧ ∀ p, p < 74 → I1 (o + 1) p = I (o + 1) p
  | 0, w, I, N, h1, h2, hok, hN, hc => by omega
  | n + 1, w, I, N, h1, h2, hok, hN, hc => by
    have o1 := hok.1
    have o2 := hok.2.1
    rw [f_X12_fires_173, bp_1, hN.2.1]
    by_cases hw : w = bn_nw N
    · rw [if_pos (nI_le (by omega) (by omega))]
      exact ⟨I, rfl, hN.ext rfl (fun _ _ => rfl) rfl (fun u hu => if_neg (by omega)), fun r _ => rfl, fun p _ => rfl⟩
    · have hx := hN.2.2.2 w (by omega)
      rw [if_neg (nI_ge (by omega) (by omega)), mm_isWn hok hN (by omega)]
      simp only [Option.bind_some]
      have pass : ¬ (bw_h (bn_wr N w) = true ∧ bw_f (bn_wr N w) = b) → ∃ I1, f_X12_fires_173 o (nI b) (nI kd) v m K n (nI w + 1) I L = K I1 L ∧ bm_N (I1 (o + 1)) (fr_pm N b kd v m w) ∧ (∀ r, r ≠ o + 1 → I1 r = I r) ∧ ∀ p, p < 74 → I1 (o + 1) p = I (o + 1) p := fun e => by
        rw [bp_p1]
        obtain ⟨I1, g1, g2, g4⟩ := ml_fires173 (v := v) (m := m) hb hkd K n (w + 1) I N (by omega) (by omega) hok hN (fun u q1 q2 => hc u (by omega) q2)
        refine ⟨I1, g1, g2.ext rfl (fun _ _ => rfl) rfl (fun u hu => ?_), g4⟩
        show (if w ≤ u then bw_sq (bn_wr N u) (bw_q (bn_wr N u) ++ fr_pl (bn_wr N u) b kd v m) else bn_wr N u) = (if w + 1 ≤ u then bw_sq (bn_wr N u) (bw_q (bn_wr N u) ++ fr_pl (bn_wr N u) b kd v m) else bn_wr N u)
        by_cases q : u = w
        · subst q
          rw [if_pos (Nat.le_refl _), if_neg (by omega), show fr_pl (bn_wr N u) b kd v m = [] from if_neg e, List.append_nil]
        · by_cases q2 : w ≤ u
          · rw [if_pos q2, if_pos (by omega)]
          · rw [if_neg q2, if_neg (by omega)]
      by_cases hh : bw_h (bn_wr N w) = true
      · obtain ⟨s1, s2, s3, s4⟩ := hx.1 hh
        obtain ⟨t1, t2, t3, t4, t5, t6⟩ := (hok.2.2.2.1 w).1 hh
        rw [if_pos hh, if_neg bp_10, me_from (by omega), s1]
        simp only [Option.bind_some]
        by_cases e : bw_f (bn_wr N w) = b
        · rw [if_pos (congrArg nI e), bp_p1]
          have hsame : bm_N (I (o + 1)) (bn_sW N w (bw_sq (bn_wr N w) (bw_q (bn_wr N w)))) := hN.ext rfl (fun _ _ => rfl) rfl (fun u hu => by
            show va_up _ w _ u = _
            by_cases q : u = w
            · subst q; rw [vu_o]
            · rw [vu_n q])
          obtain ⟨I1, e1, e2, e3, e4⟩ := ml_put206 (L := L) (o := o) (b := nI b) (v := v) (m := m) hok hkd (show w < bn_nw N by omega) hh (fun I34 L34 => f_X12_fires_173 o (nI b) (nI kd) v m K n (nI (w + 1)) I34 L34) 400 0 I (bw_q (bn_wr N w)) (by omega) (by omega) hsame (by have := hc w (by omega) (by omega) ⟨hh, e⟩; omega)
          rw [show (0 : Int32) = nI 0 from rfl, e1]
          have hlen : (bw_q (bn_wr N w) ++ (List.range' 0 (bw_p (bn_wr N w) - 0)).map (fr_tk kd v m)).length ≤ 99 := by
            rw [List.length_append, List.length_map, List.length_range']
            have := hc w (by omega) (by omega) ⟨hh, e⟩
            omega
          obtain ⟨I2, g1, g2, g3, g4⟩ := ml_fires173 (v := v) (m := m) hb hkd K n (w + 1) I1 (bn_sW N w (bw_sq (bn_wr N w) (bw_q (bn_wr N w) ++ (List.range' 0 (bw_p (bn_wr N w) - 0)).map (fr_tk kd v m)))) (show w + 1 ≤ bn_nw N by omega) (show bn_nw N < w + 1 + n by omega) (hok.setW (by omega) ((hok.2.2.2.1 w).sq hlen hh)) e2 (fun u q1 q2 => by
            show (bw_h (va_up _ w _ u) = true ∧ bw_f (va_up _ w _ u) = b) → (bw_q (va_up _ w _ u)).length + bw_p (va_up _ w _ u) ≤ 99
            rw [vu_n (by omega)]
            exact hc u (by omega) q2)
          refine ⟨I2, g1, g2.ext rfl (fun _ _ => rfl) rfl (fun u hu => ?_), fun r q1 => by rw [g3 r q1, e3 r q1], fun p hp => by rw [g4 p hp, e4 p hp]⟩
          show (if w ≤ u then bw_sq (bn_wr N u) (bw_q (bn_wr N u) ++ fr_pl (bn_wr N u) b kd v m) else bn_wr N u) = (if w + 1 ≤ u then bw_sq (va_up _ w _ u) (bw_q (va_up _ w _ u) ++ fr_pl (va_up _ w _ u) b kd v m) else va_up _ w _ u)
          by_cases q : u = w
          · subst q
            rw [if_pos (Nat.le_refl _), if_neg (by omega), vu_o, show fr_pl (bn_wr N u) b kd v m = (List.range' 0 (bw_p (bn_wr N u))).map (fr_tk kd v m) from if_pos ⟨hh, e⟩, Nat.sub_zero]
          · rw [vu_n q]
            by_cases q2 : w ≤ u
            · rw [if_pos q2, if_pos (by omega)]
            · rw [if_neg q2, if_neg (by omega)]
        · rw [if_neg (fun z => e (by rwa [bp_eq (by omega) (by omega)] at z))]
          exact pass (fun z => e z.2)
      · rw [if_neg hh, if_pos rfl]
        exact pass (fun z => hh z.1)
theorem bn_tm_ok {N : bn_N} (hok : bn_ok N) (b w : Nat) : bn_ok (fr_tm N b w) := by
  obtain ⟨h1, h2, h3, h4, h5⟩ := hok
  refine ⟨h1, h2, h3, fun v => ?_, fun v hv => ?_⟩
  · show bw_ok _ (if w ≤ v then _ else _)
    by_cases e : w ≤ v
    · rw [if_pos e]
      refine ⟨(h4 v).1, ?_, fun z => ?_⟩
      · show (fr_rl (bn_wr N v) b).length ≤ 99
        have := (h4 v).2.1
        rw [fr_rlen (h4 v)]
        omega
      · show fr_rl (bn_wr N v) b = []
        unfold fr_rl
        rw [if_neg (fun y => by rw [show bw_h (bn_wr N v) = false from z] at y; exact absurd y.1 Bool.false_ne_true)]
        exact (h4 v).2.2 z
    · rw [if_neg e]
      exact h4 v
  · show bw_h (if w ≤ v then _ else _) = false
    by_cases e : w ≤ v
    · rw [if_pos e]
      exact h5 v hv
    · rw [if_neg e]
      exact h5 v hv
/-- room for what is put, once all is taken -/
theorem bn_room {N : bn_N} {b : Nat} (hok : bn_ok N) (hcan : bn_can N b) : ∀ u, u < 8 → (bw_h (bn_wr N u) = true ∧ bw_f (bn_wr N u) = b) → (fr_rl (bn_wr N u) b).length + bw_p (bn_wr N u) ≤ 99 := fun v hv z => by
  have hcw := bn_canI hcan
  have z2 := (hcw v hv).2 z
  rw [fr_rlen (hok.2.2.2.1 v)]
  have hp4 := ((hok.2.2.2.1 v).1 z.1).2.2.2.1
  have : ch_k (bn_wr N v) b ≤ bn_q N v := by
    by_cases e : bw_h (bn_wr N v) = true ∧ bw_t (bn_wr N v) = b
    · rw [show ch_k (bn_wr N v) b = bw_k (bn_wr N v) from if_pos e]
      exact (hcw v hv).1 e
    · rw [show ch_k (bn_wr N v) b = 0 from if_neg e]
      omega
  have e4 : bn_q N v = (bw_q (bn_wr N v)).length := rfl
  omega
theorem bn_fire_wr (N : bn_N) (b v : Nat) : bn_wr (bn_fire N b) v = bw_sq (bn_wr N v) (fr_rl (bn_wr N v) b ++ fr_pl (bn_wr N v) b (bn_bx N b).1 (bn_bx N b).2.1 (fr_md N b)) := rfl
theorem bn_fire_ok {N : bn_N} {b : Nat} (hok : bn_ok N) (hb : b < bn_nb N) (hcan : bn_can N b) : bn_ok (bn_fire N b) := by
  obtain ⟨h1, h2, h3, h4, h5⟩ := id hok
  refine ⟨h1, h2, fun c hc => ?_, fun v => ?_, fun v hv => h5 v hv⟩
  · show (va_up _ b _ c : bn_B).1 ≤ 4
    by_cases e : c = b
    · subst e; rw [vu_o]; exact h3 c hb
    · rw [vu_n e]; exact h3 c hc
  · rw [bn_fire_wr]
    by_cases hh : bw_h (bn_wr N v) = true
    · refine (h4 v).sq ?_ hh
      rw [List.length_append, fr_plen]
      have hl := (h4 v).2.1
      have := fr_rlen (b := b) (h4 v)
      by_cases e : bw_h (bn_wr N v) = true ∧ bw_f (bn_wr N v) = b
      · rw [show ch_p (bn_wr N v) b = bw_p (bn_wr N v) from if_pos e]
        have hv8 : v < 8 := by
          by_cases q : v < bn_nw N
          · omega
          · rw [h5 v (by omega)] at hh
            exact absurd hh Bool.false_ne_true
        exact bn_room hok hcan v hv8 e
      · rw [show ch_p (bn_wr N v) b = 0 from if_neg e]
        omega
    · have hf : bw_h (bn_wr N v) = false := by
        cases q : bw_h (bn_wr N v) with
        | false => rfl
        | true => exact absurd q hh
      have e1 : fr_rl (bn_wr N v) b = [] := by
        unfold fr_rl
        rw [if_neg (fun y => hh y.1)]
        exact (h4 v).2.2 hf
      have e2 : fr_pl (bn_wr N v) b (bn_bx N b).1 (bn_bx N b).2.1 (fr_md N b) = [] := if_neg (fun y => hh y.1)
      rw [e1, e2]
      exact ⟨(h4 v).1, Nat.zero_le _, fun _ => rfl⟩
theorem bn_fire_q {N : bn_N} {b : Nat} (hok : bn_ok N) (hcan : bn_can N b) : ∀ v, v < 8 → bn_q (bn_fire N b) v + ch_k (bn_wr N v) b = bn_q N v + ch_p (bn_wr N v) b ∧ ch_k (bn_wr N v) b ≤ bn_q N v := fun v hv => by
  have hcw := bn_canI hcan
  have : ch_k (bn_wr N v) b ≤ bn_q N v := by
    by_cases e : bw_h (bn_wr N v) = true ∧ bw_t (bn_wr N v) = b
    · rw [show ch_k (bn_wr N v) b = bw_k (bn_wr N v) from if_pos e]
      exact (hcw v hv).1 e
    · rw [show ch_k (bn_wr N v) b = 0 from if_neg e]
      omega
  refine ⟨?_, this⟩
  show (fr_rl (bn_wr N v) b ++ fr_pl (bn_wr N v) b (bn_bx N b).1 (bn_bx N b).2.1 (fr_md N b)).length + _ = _
  rw [List.length_append, fr_plen, fr_rlen (hok.2.2.2.1 v)]
  have e4 : bn_q N v = (bw_q (bn_wr N v)).length := rfl
  omega
theorem ml_fires {I : Nat → Nat → Int32} {o b : Nat} {N : bn_N} (hok : bn_ok N) (hN : bm_N (I (o + 1)) N) (hb : b < bn_nb N) (hcan : bn_can N b) : ∃ I1, f_X12_fires o (nI b) I L = some (fr_md N b, I1, L) ∧ bm_N (I1 (o + 1)) (bn_fire N b) ∧ (∀ r, r ≠ o → r ≠ o + 1 → I1 r = I r) ∧ (∀ p, p < 9 ∨ 13 < p → I1 o p = I o p) ∧ ∀ p, p < 5 ∨ 23 ≤ p ∧ p < 74 → I1 (o + 1) p = I (o + 1) p := by
  have o1 := hok.1
  have o2 := hok.2.1
  obtain ⟨b1, b2, b3⟩ := hN.2.2.1 b hb
  have hkd := hok.2.2.1 b hb
  have hcw := bn_canI hcan
  obtain ⟨I0, hI0⟩ : ∃ I0, I0 = bf_u (bf_u (bf_u (bf_u (bf_u I o 9 0) o 12 (bn_bx N b).2.1) o 11 (bn_bx N b).2.1) o 10 (bn_bx N b).2.1) o 13 0 := ⟨_, rfl⟩
  have i0 : ∀ r, r ≠ o → I0 r = I r := fun r hr => by rw [hI0]; simp only [bf_u_ne hr]
  have hMD : fr_MD (bn_bx N b).1 (bn_bx N b).2.1 (bn_bx N b).2.2 (fr_m0 (bn_bx N b)) (I0 o 9) (I0 o 10) (I0 o 11) (I0 o 12) := by
    rw [hI0]
    simp (disch := omega) only [bf_u_ni, bf_u_at]
    unfold fr_m0
    refine ⟨fun e => ?_, fun e => ?_, fun e => ?_, fun e => ?_, fun e => ?_⟩
    · rw [if_neg (by omega), Int32.add_zero]
    · rw [if_neg (by omega)]
    · rw [if_neg (by omega)]
    · rw [if_neg (by omega)]
    · rw [if_pos e, Int32.add_zero]
  obtain ⟨I1, e1, e2, e3, e4, e5, e6⟩ := ml_fires52 (L := L) (o := o) (v := (bn_bx N b).2.1) (f := (bn_bx N b).2.2) (kd := (bn_bx N b).1) (show b < 6 by omega) (fun I14 L14 => f_X12_fires_p100 o (nI b) (nI (bn_bx N b).1) (bn_bx N b).2.1 I14 L14) 400 0 (fr_m0 (bn_bx N b)) I0 N (by omega) (by omega) hok (by rw [i0 _ (by omega)]; exact hN) (fun u q1 q2 => (hcw u q2).1) hMD
  have hmd : bfold (fun w a => (fr_tl (bn_wr N w) b).foldl (fr_mw (bn_bx N b).1) a) (bn_nw N - 0) 0 (fr_m0 (bn_bx N b)) = fr_md N b := by
    unfold fr_md
    rw [bfold_id (m := bn_nw N) (fun v a hv => by
      show (fr_tl (bn_wr N v) b).foldl _ a = a
      rw [show fr_tl (bn_wr N v) b = [] from if_neg (fun y => by rw [hok.2.2.2.2 v hv] at y; exact absurd y.1 Bool.false_ne_true)]
      rfl) 8 0 _ (by omega)]
  rw [hmd] at e3
  obtain ⟨I2, g1, g2, g3, g4⟩ := ml_fires173 (L := L) (o := o) (v := (bn_bx N b).2.1) (m := fr_md N b) (show b < 6 by omega) hkd (fun I35 L35 => f_X12_fires_p244 o (nI b) (fr_md N b) I35 L35) 400 0 I1 (fr_tm N b 0) (Nat.zero_le _) (show bn_nw N < 0 + 400 by omega) (bn_tm_ok hok b 0) e2 (fun u q1 q2 z => bn_room hok hcan u q2 z)
  have hI2 : ∀ p, p < 74 → I2 (o + 1) p = I (o + 1) p := fun p hp => by rw [g4 p hp, e6 p hp, i0 _ (by omega)]
  refine ⟨bf_u I2 (o + 1) (5 + 3 * b + 2) (bf_min ((bn_bx N b).2.2 + 1) 9999), ?_, ?_, fun r q1 q2 => by rw [bf_u_ne q2, g3 r q2, e4 r q1 q2, i0 r q1], fun p hp => ?_, fun p hp => by rw [bf_u_ni (by omega), hI2 p (by omega)]⟩
  · unfold f_X12_fires
    rw [bp_ib, bp_p1, if_pos (bp_ok (by omega) (by omega)), if_pos (bp_ok (by omega) (by omega)), bp_cl (by omega), bp_cl (by omega), b1, b2, ← hI0, show (0 : Int32) = nI 0 from rfl, e1]
    have fin : f_X12_fires_p168 o (nI b) (nI (bn_bx N b).1) (bn_bx N b).2.1 (fr_md N b) I1 L = some (fr_md N b, bf_u I2 (o + 1) (5 + 3 * b + 2) (bf_min ((bn_bx N b).2.2 + 1) 9999), L) := by
      unfold f_X12_fires_p168
      rw [show (0 : Int32) = nI 0 from rfl, g1]
      unfold f_X12_fires_p244
      rw [bp_ib, bp_p2, if_pos (bp_ok (by omega) (by omega)), if_pos (bp_ok (by omega) (by omega)), bp_cl (by omega), hI2 _ (by omega), b3, bf_minc]
    obtain ⟨d0, d1, d2, d3, d4⟩ := e3
    unfold f_X12_fires_p100
    have hq : ∀ k : Nat, k ≤ 4 → (nI (bn_bx N b).1 = nI k) = ((bn_bx N b).1 = k) := fun k hk => bp_eq (by omega) (by omega)
    by_cases c0 : (bn_bx N b).1 = 0
    · rw [if_pos (show nI (bn_bx N b).1 = (0 : Int32) from congrArg nI c0), ← d0 c0]
      exact fin
    rw [if_neg (show ¬ nI (bn_bx N b).1 = (0 : Int32) from fun z => c0 ((hq 0 (by omega)).mp z))]
    by_cases c1 : (bn_bx N b).1 = 1
    · rw [if_pos (show nI (bn_bx N b).1 = (1 : Int32) from congrArg nI c1), ← d1 c1]
      exact fin
    rw [if_neg (show ¬ nI (bn_bx N b).1 = (1 : Int32) from fun z => c1 ((hq 1 (by omega)).mp z))]
    by_cases c2 : (bn_bx N b).1 = 2
    · rw [if_pos (show nI (bn_bx N b).1 = (2 : Int32) from congrArg nI c2), ← d2 c2]
      exact fin
    rw [if_neg (show ¬ nI (bn_bx N b).1 = (2 : Int32) from fun z => c2 ((hq 2 (by omega)).mp z))]
    by_cases c3 : (bn_bx N b).1 = 3
    · rw [if_pos (show nI (bn_bx N b).1 = (3 : Int32) from congrArg nI c3), ← d3 c3]
      exact fin
    rw [if_neg (show ¬ nI (bn_bx N b).1 = (3 : Int32) from fun z => c3 ((hq 3 (by omega)).mp z)), bp_ib, bp_p2, if_pos (bp_ok (by omega) (by omega)), bp_cl (by omega), e6 _ (by omega), i0 _ (by omega), b3, ← d4 (by omega)]
    exact fin
  · obtain ⟨k1, k2, k3, k4⟩ := g2
    refine ⟨by rw [bf_u_ni (by omega)]; exact k1, by rw [bf_u_ni (by omega)]; exact k2, fun c hc => ?_, fun w hw => (k4 w hw).cg ?_ (fun k q1 q2 => bf_u_ni (by omega))⟩
    · have hc : c < bn_nb N := hc
      show _ = nI (va_up _ b _ c : bn_B).1 ∧ _ = (va_up _ b _ c : bn_B).2.1 ∧ _ = (va_up _ b _ c : bn_B).2.2
      by_cases e : c = b
      · subst e
        rw [vu_o, bf_u_at, bf_u_ni (by omega), bf_u_ni (by omega), hI2 _ (by omega), hI2 _ (by omega)]
        exact ⟨b1, b2, rfl⟩
      · rw [vu_n e, bf_u_ni (by omega), bf_u_ni (by omega), bf_u_ni (by omega)]
        exact k3 c hc
    · exact ((bn_fire_ok hok hb hcan).2.2.2.1 w).2.1
  · rw [bf_u_ne (by omega), g3 o (by omega), e5 p hp, hI0]
    simp (disch := omega) only [bf_u_ni]
end FIRE3
section FIREOP
variable {I : Nat → Nat → Int32} {L : Nat → Nat → Int64}
/-- a call of the class that only looks, and uses its scratch -/
theorem bo_look {α : Type} {A : bn_A} {c : Option (α × bf_St)} {m : (Nat → Nat → Int32) → (Nat → Nat → Int64) → Option (α × bf_St)} {x : α} {I1 I2 : Nat → Nat → Int32} {L2 : Nat → Nat → Int64} (hok : ba_ok A) (hC : bc_A I L A) (hc : c = some (x, I1, L)) (h1 : ∀ q, q < 77 ∨ 124 ≤ q → I1 q = I q) (hm : m I1 L = some (x, I2, L2)) (fm : bo_fm I1 I2 L L2) (hM : bm_A I2 L2 A) : bo_OK c m := bo_mk hc hm fm hok (hC.cg hok (fun q hq => ⟨h1 q (by omega), rfl⟩)) hM
theorem op_fire (h : bo_St I L) (a : Int32) : bo_OK (f_X11_fire 0 a I L) (f_X12_fire 156 a) := by
  obtain ⟨A, hok, hC, hM⟩ := id h
  have hn : bn_ok A.1.1 := hok.1.1
  have o1 := hn.1
  have hcN : bc_N I 2 A.1.1 := hC.1.1
  have hmN : bm_N (I (156 + 1)) A.1.1 := hM.1.1
  by_cases hb : 0 ≤ a.toInt ∧ a.toInt < (bn_nb A.1.1 : Int)
  · obtain ⟨b, hb1, rfl⟩ := (bp_isB (by omega)).mpr hb
    obtain ⟨I1, e1, e2⟩ := cl_can (L := L) (c := 102) (o := 2) (b := b) (by omega) hn hcN (by omega)
    have hmN1 : bm_N (I1 (156 + 1)) A.1.1 := by rw [e2 _ (by omega)]; exact hmN
    by_cases hcan : bn_can A.1.1 b
    · have hcN1 : bc_N I1 2 A.1.1 := hcN.cg (fun q q1 q2 => e2 q (by omega)) hn
      obtain ⟨I2, g1, g2, g3⟩ := cl_fire (L := L) hn hcN1 hb1 hcan
      have hC1 : bc_A I1 L A := hC.cg hok (fun q hq => ⟨e2 q (by omega), rfl⟩)
      have hM2 : bm_A I2 L A := hM.fc (fun q hq => ⟨by rw [g3 q (by omega), e2 q (by omega)], rfl⟩)
      obtain ⟨I3, j1, j2, j3, j4, j5⟩ := ml_fires (L := L) (I := I2) (o := 156) hn hM2.1.1 hb1 hcan
      refine bo_mk (A := bn_sN A (bn_fire A.1.1 b)) (x := (fr_md A.1.1 b).toInt64) (I1 := I2) (L1 := L) (I2 := I3) (L2 := L) ?_ ?_ (fun q hq => ⟨j3 q (by omega) (by omega), rfl⟩) (hok.setN (bn_fire_ok hn hb1 hcan) (Nat.le_refl _)) (hC1.setN hok (fun q hq => g3 q (by omega)) g2) (hM2.setN hok (j3 159 (by omega) (by omega)) (j3 160 (by omega) (by omega)) (j3 170 (by omega) (by omega)) (j3 171 (by omega) (by omega)) (j4 3 (by omega)) (j4 5 (by omega)) (fun k hk => j5 k (by omega)) j2)
      · unfold f_X11_fire
        simp only [Nat.reduceAdd, Nat.zero_add]
        rw [cc_hasBox_t hn hcN hb1]
        simp only [Option.bind_some]
        rw [if_neg bp_10, e1]
        simp only [Option.bind_some]
        rw [if_pos hcan, if_neg bp_10, g1]
        rfl
      · unfold f_X12_fire
        rw [mm_isBox_t hn hM2.1.1 hb1]
        simp only [Option.bind_some]
        rw [if_neg bp_10, ml_canFire hn hM2.1.1 (by omega)]
        simp only [Option.bind_some]
        rw [if_pos hcan, if_neg bp_10, j1]
        rfl
    · refine bo_look hok hC (x := -9223372036854775808) (I1 := I1) (I2 := I1) (L2 := L) ?_ (fun q hq => e2 q (by omega)) ?_ (fun q _ => ⟨rfl, rfl⟩) (hM.fc (fun q hq => ⟨e2 q (by omega), rfl⟩))
      · unfold f_X11_fire
        simp only [Nat.reduceAdd, Nat.zero_add]
        rw [cc_hasBox_t hn hcN hb1]
        simp only [Option.bind_some]
        rw [if_neg bp_10, e1]
        simp only [Option.bind_some]
        rw [if_neg hcan, if_pos rfl]
      · unfold f_X12_fire
        rw [mm_isBox_t hn hmN1 hb1]
        simp only [Option.bind_some]
        rw [if_neg bp_10, ml_canFire hn hmN1 (by omega)]
        simp only [Option.bind_some]
        rw [if_neg hcan, if_pos rfl]
  · refine bo_same h (x := -9223372036854775808) ?_ ?_
    · unfold f_X11_fire
      simp only [Nat.reduceAdd, Nat.zero_add]
      rw [cc_hasBox hn hcN, if_neg hb]
      rfl
    · unfold f_X12_fire
      rw [mm_isBox hn hmN, if_neg hb]
      rfl
end FIREOP
