abbrev pd_O (N : bn_N) (t : Nat → Nat) : List Nat := pd_o (tm_p t 6) N t
abbrev pd_go (N : bn_N) (t : Nat → Nat) : Prop := (pd_O N t).length = tm_p t 6
/-- what the schedule has found -/
def sc_D (I : Nat → Nat → Int32) (o : Nat) (N : bn_N) (t : Nat → Nat) : Prop := (∀ b, b < 6 → I (o + 1) b = nI (t b)) ∧ I o 2 = nI (tm_p t 6) ∧ I o 1 = (if pd_go N t then 0 else 1) ∧ I o 5 = nI (pd_O N t).length ∧ (∀ i, i < (pd_O N t).length → I (o + 2) i = nI ((pd_O N t).getD i 0)) ∧ ∀ w, w < 8 → I (o + 3) w = nI (pd_H (pd_O N t) N (bn_q N) w) ∧ pd_H (pd_O N t) N (bn_q N) w ≤ 99
theorem sc_D.cg {I I2 : Nat → Nat → Int32} {o : Nat} {N : bn_N} {t : Nat → Nat} (h : sc_D I o N t) (hI : ∀ q, o ≤ q → q ≤ o + 7 → I2 q = I q) : sc_D I2 o N t := by
  unfold sc_D at h ⊢
  rw [hI o (by omega) (by omega), hI (o + 1) (by omega) (by omega), hI (o + 2) (by omega) (by omega), hI (o + 3) (by omega) (by omega)]
  exact h
def sc_E (I : Nat → Nat → Int32) (N0 N : bn_N) : Prop := ((¬ ∃ t, tm_ev N0 t) ∧ I 102 0 = 1 ∧ I 102 5 = 0) ∨ ∃ t, tm_T N0 t ∧ I 102 0 = 0 ∧ sc_D I 102 N t
theorem lk103 : bf_le 103 = 6 := by decide +kernel
theorem lk107 : bf_le 107 = 6 := by decide +kernel
theorem lk109 : bf_le 109 = 8 := by decide +kernel
theorem lk105 : bf_le 105 = 8 := by decide +kernel
section PD3
variable {L : Nat → Nat → Int64}
theorem cl_findPeriod {I : Nat → Nat → Int32} {a : Nat} {N0 N : bn_N} (hok0 : bn_ok N0) (hd : a + 25 ≤ 102) (hN : bc_N I a N0) (hst : bn_sta N0 N) (hok : bn_ok N) (hq : ∀ w, w < 8 → I 109 w = nI (bn_q N w)) : ∃ I1, f_X6_findPeriod 102 a I L = some (I1, L) ∧ (∀ q, q < 102 ∨ 109 < q → I1 q = I q) ∧ sc_E I1 N0 N := by
  unfold f_X6_findPeriod
  obtain ⟨I1, g1, g2, g3⟩ := cl_times (L := L) (I := bf_u (bf_u I 102 5 0) 102 1 0) (o := 102) hok0 hd (hN.cg (fun q z1 z2 => by rw [bf_u_ne (by omega), bf_u_ne (by omega)]) hok0)
  have fr : ∀ q, q ≠ 102 → q ≠ 103 → q ≠ 106 → I1 q = I q := fun q q1 q2 q3 => by rw [g1 q q1 q2 q3, bf_u_ne q1, bf_u_ne q1]
  have f5 : I1 102 5 = 0 := by rw [g2 5 (by omega), bf_u_ni (by omega), bf_u_at]
  have f1 : I1 102 1 = 0 := by rw [g2 1 (by omega), bf_u_at]
  rcases g3 with ⟨z1, z2⟩ | ⟨t, z1, z2, z3, z4, z5⟩
  · rw [z2]
    simp only [Option.bind_some, if_true]
    unfold f_X6_findPeriod_p24
    rw [if_pos (Or.inr rfl), bf_u_at, if_neg bp_10]
    refine ⟨_, rfl, fun q hq => ?_, Or.inl ⟨z1, bf_u_at, ?_⟩⟩
    · rw [bf_u_ne (by omega)]
      exact fr q (by omega) (by omega) (by omega)
    · rw [bf_u_ni (by omega)]
      exact f5
  · rw [z3]
    simp only [Option.bind_some]
    rw [if_neg bp_10]
    unfold f_X6_findPeriod_p24
    rw [if_pos (Or.inl rfl), bf_u_at, if_pos rfl, if_pos (show bf_cpOK 0 0 6 (102 + 1) (102 + 5) from ⟨by decide, by decide, by decide, by rw [lk103]; decide, by rw [lk107]; decide⟩), if_pos (show bf_cpOK 0 0 8 (102 + 6 + 1) (102 + 3) from ⟨by decide, by decide, by decide, by rw [lk109]; decide, by rw [lk105]; decide⟩)]
    have hT : tm_T N0 t := ⟨z1, z2⟩
    have tl := hT.le
    have ts := hT.s
    obtain ⟨J, hJ⟩ : ∃ J, J = bf_u I1 102 0 0 := ⟨_, rfl⟩
    rw [← hJ]
    have J0 : ∀ q, q ≠ 102 → J q = I1 q := fun q hq => by rw [hJ, bf_u_ne hq]
    obtain ⟨I2, k1, k2, k3, k4, k5, k6, k7, k8⟩ := cl_fp70 (L := L) (o := 102) hok0 hd (fun I16 L16 => (some (I16, L16))) (tm_p t 6) 400 0 N t (bn_q N) (bf_w (bf_w J (102 + 5) (va_cpy (J (102 + 1)) (J (102 + 5)) 0 0 6)) (102 + 3) (va_cpy ((bf_w J (102 + 5) (va_cpy (J (102 + 1)) (J (102 + 5)) 0 0 6)) (102 + 6 + 1)) ((bf_w J (102 + 5) (va_cpy (J (102 + 1)) (J (102 + 5)) 0 0 6)) (102 + 3)) 0 0 8)) rfl (by omega) (by omega) (hN.cg (fun q y1 y2 => by rw [bf_w_n (by omega), bf_w_n (by omega), J0 q (by omega), fr q (by omega) (by omega) (by omega)]) hok0) hst hok (by
      intro b hb
      rw [hst.1] at hb
      exact z2 b hb) ⟨fun w hw => by
        rw [bf_w_n (by omega), bf_w_n (by omega), J0 _ (by omega), fr _ (by omega) (by omega) (by omega)]
        exact hq w hw, fun b hb => by
        rw [bf_w_n (by omega), bf_w_o, pk_cpy_in (by omega) (by omega), J0 _ (by omega), show 0 + (b - 0) = b by omega]
        exact ⟨z4 b hb, tl b⟩, fun w hw => by
        rw [bf_w_o, pk_cpy_in (by omega) (by omega), bf_w_n (by omega), J0 _ (by omega), fr _ (by omega) (by omega) (by omega), show 0 + (w - 0) = w by omega]
        exact ⟨hq w hw, (hok.2.2.2.1 w).2.1⟩, by
        rw [bf_w_n (by omega), bf_w_n (by omega), hJ, bf_u_ni (by omega)]
        exact f5⟩ (by
        rw [bf_w_n (by omega), bf_w_n (by omega), hJ, bf_u_ni (by omega)]
        exact f1) (by
        rw [bf_w_n (by omega), bf_w_n (by omega), hJ, bf_u_ni (by omega), Nat.zero_add]
        exact z5)
    refine ⟨I2, k1, fun q hq => ?_, Or.inr ⟨t, hT, ?_, fun b hb => ?_, ?_, k2, ?_, fun i hi => ?_, k6⟩⟩
    · rw [k7 q (by omega) (by omega) (by omega) (by omega) (by omega), bf_w_n (by omega), bf_w_n (by omega), J0 q (by omega), fr q (by omega) (by omega) (by omega)]
    · rw [k8 0 (by omega) (by omega), bf_w_n (by omega), bf_w_n (by omega), hJ, bf_u_at]
    · rw [k7 _ (by omega) (by omega) (by omega) (by omega) (by omega), bf_w_n (by omega), bf_w_n (by omega), J0 _ (by omega)]
      exact z4 b hb
    · rw [k8 2 (by omega) (by omega), bf_w_n (by omega), bf_w_n (by omega), hJ, bf_u_ni (by omega)]
      exact z5
    · rw [k3, Nat.zero_add]
    · have := k4 i hi
      rw [Nat.zero_add] at this
      exact this
theorem cl_look {I : Nat → Nat → Int32} {a : Nat} {N : bn_N} (hok : bn_ok N) (hd : a + 25 ≤ 102) (hN : bc_N I a N) : ∃ I1, f_X6_look 102 a I L = some (I1, L) ∧ (∀ q, q < 102 ∨ 109 < q → I1 q = I q) ∧ sc_E I1 N N := by
  unfold f_X6_look
  obtain ⟨I1, g1, g2, g3⟩ := cl_load (L := L) (c := 102 + 6) (o := a) (Or.inr (by omega)) hok hN
  rw [g1]
  simp only [Option.bind_some]
  obtain ⟨I2, k1, k2, k3⟩ := cl_findPeriod (L := L) (N := N) hok hd (hN.cg (fun q y1 y2 => g3 q (by omega)) hok) bn_sta.rf hok g2
  rw [k1]
  exact ⟨I2, rfl, fun q hq => by rw [k2 q hq, g3 q (by omega)], k3⟩
/-- a wire with n tokens, all 0 -/
abbrev bn_wz (N : bn_N) (w n : Nat) : bn_N := bn_sW N w (bw_sq (bn_wr N w) (List.replicate n 0))
theorem bn_wz_sta {N : bn_N} {w n : Nat} : bn_sta N (bn_wz N w n) := ⟨rfl, rfl, fun v => by
  by_cases e : v = w
  · subst e
    show va_up _ v _ v = bw_sq _ (bw_q (va_up _ v _ v))
    rw [vu_o]
  · show va_up _ w _ v = bw_sq _ (bw_q (va_up _ w _ v))
    rw [vu_n e]⟩
theorem bn_wz_ok {N : bn_N} (hok : bn_ok N) {w n : Nat} (hw : w < bn_nw N) (hh : bw_h (bn_wr N w) = true) (hn : n ≤ 99) : bn_ok (bn_wz N w n) := hok.setW hw ((hok.2.2.2.1 w).sq (by rw [List.length_replicate]; exact hn) hh)
theorem bn_wz_q {N : bn_N} {w n v : Nat} : bn_q (bn_wz N w n) v = if v = w then n else bn_q N v := by
  by_cases e : v = w
  · subst e
    rw [if_pos rfl]
    show (bw_q (va_up _ v _ v)).length = n
    rw [vu_o]
    exact List.length_replicate
  · rw [if_neg e]
    show (bw_q (va_up _ w _ v)).length = _
    rw [vu_n e]
theorem cl_lookWith {I : Nat → Nat → Int32} {a w n : Nat} {N : bn_N} (hok : bn_ok N) (hd : a + 25 ≤ 102) (hN : bc_N I a N) (hw : w < bn_nw N) (hh : bw_h (bn_wr N w) = true) (hn : n ≤ 99) : ∃ I1, f_X6_lookWith 102 a (nI w) (nI n) I L = some (I1, L) ∧ (∀ q, q < 102 ∨ 109 < q → I1 q = I q) ∧ sc_E I1 N (bn_wz N w n) := by
  have o2 := hok.2.1
  unfold f_X6_lookWith
  obtain ⟨I1, g1, g2, g3⟩ := cl_load (L := L) (c := 102 + 6) (o := a) (Or.inr (by omega)) hok hN
  have hN1 : bc_N I1 a N := hN.cg (fun q y1 y2 => g3 q (by omega)) hok
  rw [g1]
  simp only [Option.bind_some]
  rw [cc_hasW_t hok hN1 hw hh]
  simp only [Option.bind_some]
  rw [if_neg bp_10, if_pos (bp_ok (by omega) (by omega)), bp_cl (by omega)]
  obtain ⟨I2, k1, k2, k3⟩ := cl_findPeriod (L := L) (I := bf_u I1 (102 + 6 + 1) w (nI n)) (N := bn_wz N w n) hok hd (hN1.cg (fun q y1 y2 => by rw [bf_u_ne (by omega)]) hok) bn_wz_sta (bn_wz_ok hok hw hh hn) (fun v hv => by
    rw [bn_wz_q]
    by_cases e : v = w
    · subst e
      rw [bf_u_at, if_pos rfl]
    · rw [bf_u_ni e, if_neg e]
      exact g2 v hv)
  rw [k1]
  exact ⟨I2, rfl, fun q hq => by rw [k2 q hq, bf_u_ne (by omega), g3 q (by omega)], k3⟩
theorem sc_E.f {I : Nat → Nat → Int32} {N0 N : bn_N} (h : sc_E I N0 N) (hn : ¬ ∃ t, tm_ev N0 t) : I 102 0 = 1 ∧ I 102 5 = 0 := by
  rcases h with h | ⟨t, h, -⟩
  · exact h.2
  · exact absurd ⟨t, h.1⟩ hn
theorem sc_E.t {I : Nat → Nat → Int32} {N0 N : bn_N} {t : Nat → Nat} (hok : bn_ok N0) (h : sc_E I N0 N) (hn : tm_T N0 t) : I 102 0 = 0 ∧ sc_D I 102 N t := by
  rcases h with h | ⟨t2, h, h2⟩
  · exact absurd ⟨t, hn.1⟩ h.1
  · rw [hn.un hok h]
    exact h2
theorem cl_goesF {I : Nat → Nat → Int32} (h : I 102 0 = 1) : f_X6_goes 102 I L = some (0, I, L) := by
  unfold f_X6_goes
  rw [h, if_neg bp_10]
theorem cl_goesT {I : Nat → Nat → Int32} {N : bn_N} {t : Nat → Nat} (h : I 102 0 = 0) (hD : sc_D I 102 N t) : f_X6_goes 102 I L = some ((if pd_go N t then 1 else 0), I, L) := by
  unfold f_X6_goes
  rw [h, if_pos rfl, hD.2.2.1]
  by_cases q : pd_go N t
  · rw [if_pos q, if_pos rfl, if_pos q]
  · rw [if_neg q, if_neg bp_10, if_neg q]
theorem cl_play2 {o a : Nat} {s0 : List Nat} (hd : a + 25 ≤ o) (hs : s0.length ≤ 360) (K : (Nat → Nat → Int32) → (Nat → Nat → Int64) → Option bf_St) : ∀ (s : List Nat) (n k : Nat) (N : bn_N) (I : Nat → Nat → Int32), s0.drop k = s → k + s.length = s0.length → s.length < n → bn_ok N → pd_ok s N → bc_N I a N → I o 5 = nI s0.length → (∀ i, i < s0.length → I (o + 2) i = nI (s0.getD i 0)) → ∃ I1, f_X6_play_2 o a K n (nI k) I L = K I1 L ∧ bc_N I1 a (pd_fin s N) ∧ ∀ q, q < a ∨ a + 25 ≤ q → I1 q = I q
  | s, 0, k, N, I, h1, h2, h3, hok, hp, hN, h5, hi => by omega
  | [], n + 1, k, N, I, h1, h2, h3, hok, hp, hN, h5, hi => by
    rw [List.length_nil] at h2
    rw [f_X6_play_2, h5, if_pos (nI_le (by omega) (by omega))]
    exact ⟨I, rfl, hN, fun _ _ => rfl⟩
  | b :: s, n + 1, k, N, I, h1, h2, h3, hok, hp, hN, h5, hi => by
    rw [List.length_cons] at h2 h3
    have hk : k < s0.length := by omega
    have eb : s0.getD k 0 = b ∧ s0.drop (k + 1) = s := by
      rw [List.drop_eq_getElem_cons hk] at h1
      obtain ⟨e1, e2⟩ := List.cons.inj h1
      refine ⟨?_, e2⟩
      rw [List.getD_eq_getElem?_getD, List.getElem?_eq_getElem hk, ← e1]
      rfl
    rw [f_X6_play_2, h5, if_neg (nI_ge (by omega) (by omega)), if_pos (bp_ok (by omega) (by omega)), bp_cl (by omega), hi k hk, eb.1, bp_p1]
    obtain ⟨I1, g1, g2, g3⟩ := cl_fire (L := L) hok hN hp.1 hp.2.1
    rw [g1]
    simp only [Option.bind_some]
    obtain ⟨I2, k1, k2, k3⟩ := cl_play2 hd hs K s n (k + 1) (bn_fire N b) I1 eb.2 (by omega) (by omega) (bn_fire_ok hok hp.1 hp.2.1) hp.2.2 g2 (by rw [g3 o (by omega)]; exact h5) (fun i z => by rw [g3 _ (by omega)]; exact hi i z)
    exact ⟨I2, k1, k2, fun q hq => (k3 q hq).trans (g3 q hq)⟩
theorem cl_play {I : Nat → Nat → Int32} {o a : Nat} {s : List Nat} {N : bn_N} (hd : a + 25 ≤ o) (hs : s.length ≤ 360) (hok : bn_ok N) (hp : pd_ok s N) (hN : bc_N I a N) (h5 : I o 5 = nI s.length) (hi : ∀ i, i < s.length → I (o + 2) i = nI (s.getD i 0)) : ∃ I1, f_X6_play o a I L = some (I1, L) ∧ bc_N I1 a (pd_fin s N) ∧ ∀ q, q < a ∨ a + 25 ≤ q → I1 q = I q := by
  unfold f_X6_play
  exact cl_play2 hd hs _ s 400 0 N I rfl (by omega) (by omega) hok hp hN h5 hi
/-- n times in the same order -/
def pd_it (s : List Nat) : Nat → bn_N → bn_N
  | 0, N => N
  | n + 1, N => pd_it s n (pd_fin s N)
/-- an order that goes, and brings all back -/
def pd_rt (s : List Nat) (N : bn_N) : Prop := pd_ok s N ∧ ∀ v, v < 8 → bn_q (pd_fin s N) v = bn_q N v
theorem pd_rt.cg {s : List Nat} {N M : bn_N} (h : pd_rt s N) (hN : bn_ok N) (hM : bn_ok M) (hst : bn_sta N M) (hq : ∀ v, v < 8 → bn_q N v = bn_q M v) : pd_rt s M := by
  have p2 := pd_okcg s N M hN hM hst hq h.1
  obtain ⟨a1, a2⟩ := pd_finok s N hN h.1
  obtain ⟨b1, b2⟩ := pd_finok s M hM p2
  refine ⟨p2, fun v hv => ?_⟩
  by_cases hh : bw_h (bn_wr N v) = true
  · have e1 := pd_q s N hN h.1 v hv hh
    have e2 := pd_q s M hM p2 v hv (by rw [hst.2.2 v]; exact hh)
    rw [hst.2.2 v] at e2
    have e2 : bn_q (pd_fin s M) v + s.count (bw_t (bn_wr N v)) * bw_k (bn_wr N v) = bn_q M v + s.count (bw_f (bn_wr N v)) * bw_p (bn_wr N v) := e2
    have := h.2 v hv
    have := hq v hv
    omega
  · have hm : ¬ bw_h (bn_wr M v) = true := by rw [hst.2.2 v]; exact hh
    rw [bn_q0 hM hm, bn_q0 b1 (by rw [b2.2.2 v]; exact hm)]
theorem pd_rt.nx {s : List Nat} {N : bn_N} (h : pd_rt s N) (hN : bn_ok N) : bn_ok (pd_fin s N) ∧ pd_rt s (pd_fin s N) := by
  obtain ⟨a1, a2⟩ := pd_finok s N hN h.1
  exact ⟨a1, h.cg hN a1 a2 (fun v hv => (h.2 v hv).symm)⟩
theorem pd_rt.it {s : List Nat} : ∀ (n : Nat) (N : bn_N), pd_rt s N → bn_ok N → bn_ok (pd_it s n N) ∧ bn_sta N (pd_it s n N) ∧ ∀ v, v < 8 → bn_q (pd_it s n N) v = bn_q N v
  | 0, N, _, hok => ⟨hok, bn_sta.rf, fun _ _ => rfl⟩
  | n + 1, N, h, hok => by
    obtain ⟨a1, a2⟩ := h.nx hok
    obtain ⟨b1, b2, b3⟩ := pd_rt.it n _ a2 a1
    exact ⟨b1, (pd_finok s N hok h.1).2.tr b2, fun v hv => (b3 v hv).trans (h.2 v hv)⟩
theorem pd_T {N : bn_N} {t : Nat → Nat} (hok : bn_ok N) (h : tm_T N t) (hg : pd_go N t) : pd_rt (pd_O N t) N := ⟨pd_oo _ N t h.2, pd_ret hok h.2 (h.1.sol hok) hg⟩
theorem cl_pp14 {a m : Nat} {s : List Nat} (hd : a + 25 ≤ 102) (hs : s.length ≤ 360) (hm : m ≤ 9) (K : (Nat → Nat → Int32) → (Nat → Nat → Int64) → Option (Int32 × bf_St)) : ∀ (d n k : Nat) (N : bn_N) (I : Nat → Nat → Int32), k + d = m → d < n → bn_ok N → pd_rt s N → bc_N I a N → I 102 5 = nI s.length → (∀ i, i < s.length → I 104 i = nI (s.getD i 0)) → ∃ I1, f_X11_playPeriods_14 0 a (nI m) K n (nI k) I L = K I1 L ∧ bc_N I1 a (pd_it s d N) ∧ ∀ q, q < a ∨ a + 25 ≤ q → I1 q = I q
  | d, 0, k, N, I, h1, h2, hok, hp, hN, h5, hi => by omega
  | 0, n + 1, k, N, I, h1, h2, hok, hp, hN, h5, hi => by
    rw [f_X11_playPeriods_14, if_pos (nI_le (by omega) (by omega))]
    exact ⟨I, rfl, hN, fun _ _ => rfl⟩
  | d + 1, n + 1, k, N, I, h1, h2, hok, hp, hN, h5, hi => by
    rw [f_X11_playPeriods_14, if_neg (nI_ge (by omega) (by omega)), bp_p1]
    obtain ⟨I1, g1, g2, g3⟩ := cl_play (L := L) (o := 102) hd hs hok hp.1 hN h5 hi
    rw [show 0 + 102 = 102 from rfl, g1]
    simp only [Option.bind_some]
    obtain ⟨a1, a2⟩ := hp.nx hok
    obtain ⟨I2, k1, k2, k3⟩ := cl_pp14 hd hs hm K d n (k + 1) (pd_fin s N) I1 (by omega) (by omega) a1 a2 g2 (by rw [g3 102 (by omega)]; exact h5) (fun i z => by rw [g3 104 (by omega)]; exact hi i z)
    exact ⟨I2, k1, k2, fun q hq => (k3 q hq).trans (g3 q hq)⟩
/-- n periods go, or none -/
theorem cl_ppF {I : Nat → Nat → Int32} {a : Nat} {v : Int32} (h : I 102 0 = 1) : f_X11_playPeriods 0 a v I L = some (0, I, L) := by
  unfold f_X11_playPeriods
  rw [show 0 + 102 = 102 from rfl, cl_goesF h]
  rfl
theorem cl_ppN {I : Nat → Nat → Int32} {a : Nat} {v : Int32} {N : bn_N} {t : Nat → Nat} (h : I 102 0 = 0) (hD : sc_D I 102 N t) (hg : ¬ pd_go N t) : f_X11_playPeriods 0 a v I L = some (0, I, L) := by
  unfold f_X11_playPeriods
  rw [show 0 + 102 = 102 from rfl, cl_goesT h hD, if_neg hg]
  rfl
theorem cl_ppT {I : Nat → Nat → Int32} {a m : Nat} {N M : bn_N} {t : Nat → Nat} (hd : a + 25 ≤ 102) (hm : m ≤ 9) (hok : bn_ok N) (hT : tm_T N t) (h : I 102 0 = 0) (hD : sc_D I 102 N t) (hg : pd_go N t) (hM : bn_ok M) (hst : bn_sta N M) (hq : ∀ v, v < 8 → bn_q N v = bn_q M v) (hN : bc_N I a M) : ∃ I1, f_X11_playPeriods 0 a (nI m) I L = some (nI m, I1, L) ∧ bc_N I1 a (pd_it (pd_O N t) m M) ∧ ∀ q, q < a ∨ a + 25 ≤ q → I1 q = I q := by
  have hs : (pd_O N t).length ≤ 360 := Nat.le_trans (pd_len _ _ _) hT.s
  unfold f_X11_playPeriods
  rw [show 0 + 102 = 102 from rfl, cl_goesT h hD, if_pos hg]
  simp only [Option.bind_some]
  rw [if_neg bp_10]
  exact cl_pp14 hd hs hm _ m 400 0 M I (by omega) (by omega) hM ((pd_T hok hT hg).cg hok hM hst hq) hN hD.2.2.2.1 hD.2.2.2.2.1
end PD3
