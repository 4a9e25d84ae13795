/-! the reference in thought -/
def mq_F (I I2 : Nat → Nat → Int32) (L L2 : Nat → Nat → Int64) : Prop := (∀ q, q < 156 → I2 q = I q) ∧ I2 159 = I 159 ∧ I2 160 = I 160 ∧ I2 170 = I 170 ∧ I2 171 = I 171 ∧ I2 156 3 = I 156 3 ∧ I2 156 5 = I 156 5 ∧ (∀ q, q ≠ 162 → q ≠ 163 → L2 q = L q) ∧ ∀ p, (2 ≤ p ∧ p < 5) ∨ (23 ≤ p ∧ p < 74) → I2 157 p = I 157 p
theorem mq_F.rf {I : Nat → Nat → Int32} {L : Nat → Nat → Int64} : mq_F I I L L := ⟨fun _ _ => rfl, rfl, rfl, rfl, rfl, rfl, rfl, fun _ _ _ => rfl, fun _ _ => rfl⟩
theorem mq_F.tr {I I2 I3 : Nat → Nat → Int32} {L L2 L3 : Nat → Nat → Int64} (h : mq_F I I2 L L2) (k : mq_F I2 I3 L2 L3) : mq_F I I3 L L3 := by
  obtain ⟨h1, h2, h3, h4, h5, h6, h7, h8, h9⟩ := h
  obtain ⟨k1, k2, k3, k4, k5, k6, k7, k8, k9⟩ := k
  exact ⟨fun q hq => (k1 q hq).trans (h1 q hq), k2.trans h2, k3.trans h3, k4.trans h4, k5.trans h5, k6.trans h6, k7.trans h7, fun q q1 q2 => (k8 q q1 q2).trans (h8 q q1 q2), fun p hp => (k9 p hp).trans (h9 p hp)⟩
theorem mq_F.fm {I I2 : Nat → Nat → Int32} {L L2 : Nat → Nat → Int64} (h : mq_F I I2 L L2) : bo_fm I I2 L L2 := fun q hq => ⟨h.1 q hq, h.2.2.2.2.2.2.2.1 q (by omega) (by omega)⟩
theorem mq_F.A {I I2 : Nat → Nat → Int32} {L L2 : Nat → Nat → Int64} {A : bn_A} (h : mq_F I I2 L L2) (hok : ba_ok A) (hM : bm_A I L A) (hg : ∀ k, k < 914 → I2 157 k = I 157 k) : bm_A I2 L2 A := hM.cg hok hg h.2.1 h.2.2.1 h.2.2.2.1 h.2.2.2.2.1 (h.2.2.2.2.2.2.2.1 172 (by omega) (by omega)) h.2.2.2.2.2.1 h.2.2.2.2.2.2.1
theorem mq_F.AN {I I2 : Nat → Nat → Int32} {L L2 : Nat → Nat → Int64} {A : bn_A} {N : bn_N} (h : mq_F I I2 L L2) (hok : ba_ok A) (hM : bm_A I L A) (hN : bm_N (I2 157) N) : bm_A I2 L2 (bn_sN A N) := by
  obtain ⟨h1, h2, h3, h4, h5, h6, h7, h8, h9⟩ := h
  obtain ⟨⟨-, k2, k3, k4, k5, k6, k7⟩, g2, g3, g4, g5, g6⟩ := hM
  obtain ⟨⟨-, o2, o3, o4, -⟩, -⟩ := hok
  refine ⟨⟨hN, by rw [h9 2 (by omega)]; exact k2, by rw [h9 3 (by omega)]; exact k3, by rw [h9 4 (by omega)]; exact k4, fun k x hk => ?_, fun k x hk => ?_, fun k x hk => ?_⟩, by rw [h6]; exact g2, by rw [h2]; exact g3, by rw [h7]; exact g4, by rw [h3]; exact g5, by rw [h4, h5, h8 172 (by omega) (by omega)]; exact g6⟩
  · have := bs_get hk
    have : k < 5 := Nat.lt_of_lt_of_le this o2
    rw [h9 _ (by omega), h9 _ (by omega), h9 _ (by omega)]
    exact k5 k x hk
  · have := bs_get hk
    have : k < 10 := Nat.lt_of_lt_of_le this o3
    rw [h9 _ (by omega), h9 _ (by omega)]
    exact k6 k x hk
  · have := bs_get hk
    have : k < 8 := Nat.lt_of_lt_of_le this o4
    rw [h9 _ (by omega), h9 _ (by omega)]
    exact k7 k x hk
/-- what the reference's period needs of t -/
def pd_y (N : bn_N) (t : Nat → Nat) : Prop := pd_z N t ∧ (∀ b, t b ≤ 60) ∧ tm_p t 6 ≤ 360
theorem tm_T.y {N : bn_N} {t : Nat → Nat} (h : tm_T N t) : pd_y N t := ⟨h.2, h.le, h.s⟩
theorem pd_y.st {N M : bn_N} {t : Nat → Nat} (h : pd_y N t) (hs : bn_sta N M) : pd_y M t := ⟨fun b hb => h.1 b (by rw [← hs.1]; exact hb), h.2⟩
section PD5
variable {L : Nat → Nat → Int64}
theorem ml_thinks {I : Nat → Nat → Int32} {N : bn_N} {t : Nat → Nat} (hok : bn_ok N) (hy : pd_y N t) (hN : bm_N (I 157) N) (ht : ∀ c, c < bn_nb N → I 164 c = nI (t c)) : ∃ I1, f_X12_thinks 156 I L = some ((if pd_go N t then 1 else 0), I1, L) ∧ mq_F I I1 L L ∧ (∀ k, k < 914 → I1 157 k = I 157 k) ∧ (∀ w, w < 8 → I1 166 w = nI (pd_H (pd_O N t) N (bn_q N) w)) ∧ I1 156 20 = pd_a (pd_O N t) 0 (I 156 19) (-5) ∧ I1 164 = I 164 := by
  unfold f_X12_thinks
  obtain ⟨I1, g1, g2, g3⟩ := ml_copies (L := L) (a := 157) (b := 158) (by omega) lk157 lk158 I
  rw [show 156 + 1 = 157 from rfl, show 156 + 2 = 158 from rfl, g1]
  simp only [Option.bind_some]
  obtain ⟨I2, k1, k2, k3, k4, k5, k6, k7⟩ := ml_goes (L := L) (I := I1) (o := 156) hok hy.1 hy.2.1 hy.2.2 (by rw [g3 _ (by omega)]; exact hN) (fun c hc => by rw [g3 _ (by omega)]; exact ht c hc)
  rw [k1]
  simp only [Option.bind_some]
  obtain ⟨I3, m1, m2, m3⟩ := ml_copies (L := L) (a := 158) (b := 157) (by omega) lk158 lk157 I2
  rw [m1]
  simp only [Option.bind_some]
  have fr : ∀ q, q ≠ 156 → q ≠ 157 → q ≠ 158 → q ≠ 165 → q ≠ 166 → I3 q = I q := fun q a b c d e => by rw [m3 q b, k5 q a b d e, g3 q c]
  have f0 : ∀ p, p < 9 ∨ 13 < p → p ≠ 20 → I3 156 p = I 156 p := fun p p1 p2 => by rw [m3 _ (by omega), k6 p p1 p2, g3 _ (by omega)]
  have f7 : ∀ k, k < 914 → I3 157 k = I 157 k := fun k hk => by rw [m2 k hk, k5 158 (by omega) (by omega) (by omega) (by omega), g2 k hk]
  refine ⟨I3, ?_, ⟨fun q hq => fr q (by omega) (by omega) (by omega) (by omega) (by omega), fr _ (by omega) (by omega) (by omega) (by omega) (by omega), fr _ (by omega) (by omega) (by omega) (by omega) (by omega), fr _ (by omega) (by omega) (by omega) (by omega) (by omega), fr _ (by omega) (by omega) (by omega) (by omega) (by omega), f0 3 (by omega) (by omega), f0 5 (by omega) (by omega), fun _ _ _ => rfl, fun p hp => f7 p (by omega)⟩, f7, fun w hw => by rw [m3 _ (by omega)]; exact k3 w hw, by rw [m3 _ (by omega), k4, g3 _ (by omega)], fr _ (by omega) (by omega) (by omega) (by omega) (by omega)⟩
  by_cases e : pd_go N t
  · rw [if_pos e, if_neg bp_10]
  · rw [if_neg e, if_pos rfl]
theorem ml_gw31 {w m : Nat} (hw : w < 8) (hm : m ≤ 99) (K : (Nat → Nat → Int32) → (Nat → Nat → Int64) → Option (Int32 × bf_St)) : ∀ (n j : Nat) (I : Nat → Nat → Int32), j ≤ m → m < j + n → ∃ I1, f_X12_goesWith_31 156 (nI m) (nI (74 + 105 * w + 5)) K n (nI j) I L = K I1 L ∧ (∀ i, j ≤ i → i < m → I1 157 (74 + 105 * w + 6 + i) = 0) ∧ (∀ p, p < 74 + 105 * w + 6 + j ∨ 74 + 105 * w + 6 + m ≤ p → I1 157 p = I 157 p) ∧ ∀ q, q ≠ 157 → I1 q = I q
  | 0, j, I, h1, h2 => by omega
  | n + 1, j, I, h1, h2 => by
    rw [f_X12_goesWith_31]
    by_cases e : j = m
    · rw [if_pos (nI_le (by omega) (by omega))]
      exact ⟨I, rfl, fun i i1 i2 => by omega, fun _ _ => rfl, fun _ _ => rfl⟩
    · rw [if_neg (nI_ge (by omega) (by omega)), bp_p1, nI_add, if_pos (bp_ok (by omega) (by omega)), bp_cl (by omega), bp_p1]
      obtain ⟨I1, g1, g2, g3, g4⟩ := ml_gw31 (w := w) (m := m) hw hm K n (j + 1) (bf_u I 157 (74 + 105 * w + 5 + 1 + j) 0) (by omega) (by omega)
      refine ⟨I1, g1, fun i i1 i2 => ?_, fun p hp => ?_, fun q hq => by rw [g4 q hq, bf_u_ne hq]⟩
      · by_cases z : i = j
        · subst z
          rw [g3 _ (by omega), show 74 + 105 * w + 6 + i = 74 + 105 * w + 5 + 1 + i by omega, bf_u_at]
        · exact g2 i (by omega) i2
      · rw [g3 p (by omega), bf_u_ni (by omega)]
theorem ml_goesWith {I : Nat → Nat → Int32} {w m : Nat} {N : bn_N} {t : Nat → Nat} (hok : bn_ok N) (hy : pd_y N t) (hw : w < bn_nw N) (hh : bw_h (bn_wr N w) = true) (hm : m ≤ 99) (hN : bm_N (I 157) N) (ht : ∀ c, c < bn_nb N → I 164 c = nI (t c)) : ∃ I1, f_X12_goesWith 156 (nI w) (nI m) I L = some ((if pd_go (bn_wz N w m) t then 1 else 0), I1, L) ∧ mq_F I I1 L L ∧ (∀ k, k < 914 → I1 157 k = I 157 k) ∧ I1 164 = I 164 := by
  have o2 := hok.2.1
  unfold f_X12_goesWith
  obtain ⟨I1, g1, g2, g3⟩ := ml_copies (L := L) (a := 157) (b := 158) (by omega) lk157 lk158 I
  rw [show 156 + 1 = 157 from rfl, show 156 + 2 = 158 from rfl, g1]
  simp only [Option.bind_some]
  rw [bp_ix, bp_p5, if_pos (bp_ok (by omega) (by omega)), bp_cl (by omega)]
  obtain ⟨I2, k1, k2, k3, k4⟩ := ml_gw31 (L := L) (w := w) (m := m) (by omega) hm (fun I6 L6 => (f_X12_goesWith_p55 156 I6 L6)) 400 0 (bf_u I1 157 (74 + 105 * w + 5) (nI m)) (by omega) (by omega)
  rw [show nI 0 = (0 : Int32) from rfl] at k1
  rw [k1]
  have r2 : ∀ p, p < 74 + 105 * w + 5 ∨ 74 + 105 * w + 6 + m ≤ p → I2 157 p = I 157 p := fun p hp => by rw [k3 p (by omega), bf_u_ni (by omega), g3 _ (by omega)]
  have hx := hN.2.2.2 w hw
  obtain ⟨s1, s2, s3, s4⟩ := hx.1 hh
  have hN2 : bm_N (I2 157) (bn_wz N w m) := hN.setW hok (fun k hk => r2 k (by omega)) ⟨fun _ => by
    rw [r2 _ (by omega), r2 _ (by omega), r2 _ (by omega), r2 _ (by omega)]
    exact ⟨s1, s2, s3, s4⟩, by rw [r2 _ (by omega)]; exact hx.2.1, by
    rw [k3 _ (by omega), bf_u_at]
    show nI m = nI (List.replicate m (0 : Int32)).length
    rw [List.length_replicate], fun i hi => by
    have hi : i < (List.replicate m (0 : Int32)).length := hi
    rw [List.length_replicate] at hi
    rw [k2 i (by omega) hi]
    show (0 : Int32) = (List.replicate m 0).getD i 0
    rw [List.getD_eq_getElem?_getD, List.getElem?_replicate, if_pos hi]
    rfl⟩
  unfold f_X12_goesWith_p55
  obtain ⟨I3, m1, m2, m3, m4, m5, m6, m7⟩ := ml_goes (L := L) (I := I2) (o := 156) (bn_wz_ok hok hw hh hm) (hy.st (bn_wz_sta (w := w) (n := m))).1 hy.2.1 hy.2.2 hN2 (fun c hc => by
    rw [k4 _ (by omega), bf_u_ne (by omega), g3 _ (by omega)]
    exact ht c hc)
  rw [m1]
  simp only [Option.bind_some]
  obtain ⟨I4, n1, n2, n3⟩ := ml_copies (L := L) (a := 158) (b := 157) (by omega) lk158 lk157 I3
  rw [show 156 + 2 = 158 from rfl, show 156 + 1 = 157 from rfl, n1]
  simp only [Option.bind_some]
  have fr : ∀ q, q ≠ 156 → q ≠ 157 → q ≠ 158 → q ≠ 165 → q ≠ 166 → I4 q = I q := fun q a b c d e => by rw [n3 q b, m5 q a b d e, k4 q b, bf_u_ne b, g3 q c]
  have f0 : ∀ p, p < 9 ∨ 13 < p → p ≠ 20 → I4 156 p = I 156 p := fun p p1 p2 => by rw [n3 _ (by omega), m6 p p1 p2, k4 _ (by omega), bf_u_ne (by omega), g3 _ (by omega)]
  have f7 : ∀ k, k < 914 → I4 157 k = I 157 k := fun k hk => by rw [n2 k hk, m5 158 (by omega) (by omega) (by omega) (by omega), k4 _ (by omega), bf_u_ne (by omega), g2 k hk]
  refine ⟨I4, ?_, ⟨fun q hq => fr q (by omega) (by omega) (by omega) (by omega) (by omega), fr _ (by omega) (by omega) (by omega) (by omega) (by omega), fr _ (by omega) (by omega) (by omega) (by omega) (by omega), fr _ (by omega) (by omega) (by omega) (by omega) (by omega), fr _ (by omega) (by omega) (by omega) (by omega) (by omega), f0 3 (by omega) (by omega), f0 5 (by omega) (by omega), fun _ _ _ => rfl, fun p hp => f7 p (by omega)⟩, f7, fr _ (by omega) (by omega) (by omega) (by omega) (by omega)⟩
  by_cases e : pd_go (bn_wz N w m) t
  · rw [if_pos e, if_pos (Or.inr rfl)]
  · rw [if_neg e, if_pos (Or.inl rfl)]
theorem ml_perN {I : Nat → Nat → Int32} {m : Nat} {N : bn_N} {t : Nat → Nat} (hok : bn_ok N) (hy : pd_y N t) (hm : m ≤ 9) (hg : ¬ pd_go N t) (hN : bm_N (I 157) N) (ht : ∀ c, c < bn_nb N → I 164 c = nI (t c)) : ∃ I1, f_X12_periods 156 (nI m) I L = some (nI 0, I1, L) ∧ mq_F I I1 L L ∧ (∀ k, k < 914 → I1 157 k = I 157 k) ∧ I1 169 = I 169 := by
  unfold f_X12_periods
  rw [show (400 : Nat) = 399 + 1 from rfl, f_X12_periods_2]
  by_cases e : m = 0
  · subst e
    rw [if_pos (by decide)]
    exact ⟨I, rfl, mq_F.rf, fun _ _ => rfl, rfl⟩
  · rw [if_neg (show ¬ nI m ≤ 0 from nI_nle (by omega) (by omega))]
    obtain ⟨I1, g1, g2, g3⟩ := ml_copies (L := L) (a := 157) (b := 167) (by omega) lk157 lk167 I
    rw [show 156 + 1 = 157 from rfl, show 156 + 11 = 167 from rfl, g1]
    simp only [Option.bind_some]
    obtain ⟨I2, k1, k2, k3, k4, k5, k6, k7⟩ := ml_goes (L := L) (I := I1) (o := 156) hok hy.1 hy.2.1 hy.2.2 (by rw [g3 _ (by omega)]; exact hN) (fun c hc => by rw [g3 _ (by omega)]; exact ht c hc)
    rw [k1, if_neg hg]
    obtain ⟨I3, m1, m2, m3⟩ := ml_copies (L := L) (a := 167) (b := 157) (by omega) lk167 lk157 I2
    simp only [Option.bind_some, if_true]
    rw [m1]
    simp only [Option.bind_some]
    have fr : ∀ q, q ≠ 156 → q ≠ 157 → q ≠ 167 → q ≠ 165 → q ≠ 166 → I3 q = I q := fun q a b c d e => by rw [m3 q b, k5 q a b d e, g3 q c]
    have f0 : ∀ p, p < 9 ∨ 13 < p → p ≠ 20 → I3 156 p = I 156 p := fun p p1 p2 => by rw [m3 _ (by omega), k6 p p1 p2, g3 _ (by omega)]
    have f7 : ∀ k, k < 914 → I3 157 k = I 157 k := fun k hk => by rw [m2 k hk, k5 167 (by omega) (by omega) (by omega) (by omega), g2 k hk]
    exact ⟨I3, rfl, ⟨fun q hq => fr q (by omega) (by omega) (by omega) (by omega) (by omega), fr _ (by omega) (by omega) (by omega) (by omega) (by omega), fr _ (by omega) (by omega) (by omega) (by omega) (by omega), fr _ (by omega) (by omega) (by omega) (by omega) (by omega), fr _ (by omega) (by omega) (by omega) (by omega) (by omega), f0 3 (by omega) (by omega), f0 5 (by omega) (by omega), fun _ _ _ => rfl, fun p hp => f7 p (by omega)⟩, f7, fr _ (by omega) (by omega) (by omega) (by omega) (by omega)⟩
theorem ml_per2 {m : Nat} {N : bn_N} {t : Nat → Nat} (hok : bn_ok N) (hy : pd_y N t) (hg : pd_go N t) (hm : m ≤ 9) (K : Int32 → (Nat → Nat → Int32) → (Nat → Nat → Int64) → Option (Int32 × bf_St)) : ∀ (d n k : Nat) (M : bn_N) (I : Nat → Nat → Int32), k + d = m → d < n → bn_ok M → bn_sta N M → (∀ v, v < 8 → bn_q N v = bn_q M v) → pd_rt (pd_O N t) M → bm_N (I 157) M → (∀ c, c < bn_nb N → I 164 c = nI (t c)) → ∃ I1, f_X12_periods_2 156 (nI m) K n (nI k) I L = K (nI m) I1 L ∧ mq_F I I1 L L ∧ bm_N (I1 157) (pd_it (pd_O N t) d M) ∧ I1 169 = I 169
  | d, 0, k, M, I, h1, h2, hM, hst, hq, hr, hN, ht => by omega
  | 0, n + 1, k, M, I, h1, h2, hM, hst, hq, hr, hN, ht => by
    rw [f_X12_periods_2, if_pos (nI_le (by omega) (by omega)), show k = m by omega]
    exact ⟨I, rfl, mq_F.rf, hN, rfl⟩
  | d + 1, n + 1, k, M, I, h1, h2, hM, hst, hq, hr, hN, ht => by
    have eO : pd_O N t = pd_O M t := pd_ocg _ N M t hok hM hy.1 hst hq
    have hg2 : pd_go M t := by
      show (pd_O M t).length = _
      rw [← eO]
      exact hg
    have hyM := hy.st hst
    rw [f_X12_periods_2, if_neg (nI_ge (by omega) (by omega))]
    obtain ⟨I1, g1, g2, g3⟩ := ml_copies (L := L) (a := 157) (b := 167) (by omega) lk157 lk167 I
    rw [show 156 + 1 = 157 from rfl, show 156 + 11 = 167 from rfl, g1]
    simp only [Option.bind_some]
    obtain ⟨I2, k1, k2, k3, k4, k5, k6, k7⟩ := ml_goes (L := L) (I := I1) (o := 156) hM hyM.1 hyM.2.1 hyM.2.2 (by rw [g3 _ (by omega)]; exact hN) (fun c hc => by rw [g3 _ (by omega)]; exact ht c (by rw [← hst.1]; exact hc))
    rw [k1, if_pos hg2]
    simp only [Option.bind_some]
    rw [if_neg bp_10, bp_p1]
    rw [← eO] at k2
    have fr : ∀ q, q ≠ 156 → q ≠ 157 → q ≠ 167 → q ≠ 165 → q ≠ 166 → I2 q = I q := fun q a b c d e => by rw [k5 q a b d e, g3 q c]
    have f0 : ∀ p, p < 9 ∨ 13 < p → p ≠ 20 → I2 156 p = I 156 p := fun p p1 p2 => by rw [k6 p p1 p2, g3 _ (by omega)]
    have F1 : mq_F I I2 L L := ⟨fun q hq => fr q (by omega) (by omega) (by omega) (by omega) (by omega), fr _ (by omega) (by omega) (by omega) (by omega) (by omega), fr _ (by omega) (by omega) (by omega) (by omega) (by omega), fr _ (by omega) (by omega) (by omega) (by omega) (by omega), fr _ (by omega) (by omega) (by omega) (by omega) (by omega), f0 3 (by omega) (by omega), f0 5 (by omega) (by omega), fun _ _ _ => rfl, fun p hp => by
      rw [k7 p (by omega), g3 _ (by omega)]⟩
    obtain ⟨a1, a2⟩ := hr.nx hM
    obtain ⟨f1, f2⟩ := pd_finok _ M hM hr.1
    obtain ⟨I3, m1, m2, m3, m4⟩ := ml_per2 hok hy hg hm K d n (k + 1) (pd_fin (pd_O N t) M) I2 (by omega) (by omega) a1 (hst.tr f2) (fun v hv => by rw [hr.2 v hv, hq v hv]) a2 k2 (fun c hc => by rw [fr 164 (by omega) (by omega) (by omega) (by omega) (by omega)]; exact ht c hc)
    exact ⟨I3, m1, F1.tr m2, m3, by rw [m4, fr _ (by omega) (by omega) (by omega) (by omega) (by omega)]⟩
theorem ml_perT {I : Nat → Nat → Int32} {m : Nat} {N : bn_N} {t : Nat → Nat} (hok : bn_ok N) (hT : tm_T N t) (hg : pd_go N t) (hm : m ≤ 9) (hN : bm_N (I 157) N) (ht : ∀ c, c < bn_nb N → I 164 c = nI (t c)) : ∃ I1, f_X12_periods 156 (nI m) I L = some (nI m, I1, L) ∧ mq_F I I1 L L ∧ bm_N (I1 157) (pd_it (pd_O N t) m N) ∧ I1 169 = I 169 := by
  unfold f_X12_periods
  exact ml_per2 hok hT.y hg hm _ m 400 0 N I (by omega) (by omega) hok bn_sta.rf (fun _ _ => rfl) (pd_T hok hT hg) hN ht
/-- n periods from a net: how many went, and the net then -/
def pd_gr (N : bn_N) (n m : Nat) (M : bn_N) : Prop := ((¬ ∃ t, tm_ev N t) ∧ m = 0 ∧ M = N) ∨ ∃ t, tm_T N t ∧ ((¬ pd_go N t ∧ m = 0 ∧ M = N) ∨ (pd_go N t ∧ m = n ∧ M = pd_it (pd_O N t) n N))
theorem pd_gr.un {N M M' : bn_N} {n m m' : Nat} (hok : bn_ok N) (h : pd_gr N n m M) (h' : pd_gr N n m' M') : m = m' ∧ M = M' := by
  rcases h with ⟨a1, a2, a3⟩ | ⟨t, a1, a2⟩
  · rcases h' with ⟨b1, b2, b3⟩ | ⟨t', b1, -⟩
    · exact ⟨by rw [a2, b2], by rw [a3, b3]⟩
    · exact absurd ⟨t', b1.1⟩ a1
  · rcases h' with ⟨b1, b2, b3⟩ | ⟨t', b1, b2⟩
    · exact absurd ⟨t, a1.1⟩ b1
    · obtain rfl := a1.un hok b1
      rcases a2 with ⟨c1, c2, c3⟩ | ⟨c1, c2, c3⟩
      · rcases b2 with ⟨d1, d2, d3⟩ | ⟨d1, -⟩
        · exact ⟨by rw [c2, d2], by rw [c3, d3]⟩
        · exact absurd d1 c1
      · rcases b2 with ⟨d1, -⟩ | ⟨d1, d2, d3⟩
        · exact absurd c1 d1
        · exact ⟨by rw [c2, d2], by rw [c3, d3]⟩
theorem pd_gr.ok {N M : bn_N} {n m : Nat} (hok : bn_ok N) (h : pd_gr N n m M) : bn_ok M ∧ bn_sta N M ∧ ∀ v, v < 8 → bn_q M v = bn_q N v := by
  rcases h with ⟨-, -, rfl⟩ | ⟨t, h1, ⟨-, -, rfl⟩ | ⟨h2, -, rfl⟩⟩
  · exact ⟨hok, bn_sta.rf, fun _ _ => rfl⟩
  · exact ⟨hok, bn_sta.rf, fun _ _ => rfl⟩
  · exact (pd_T hok h1 h2).it n N hok
theorem ml_evenF {I : Nat → Nat → Int32} {N : bn_N} (hok : bn_ok N) (hN : bm_N (I 157) N) (h : ¬ ∃ t, tm_ev N t) : ∃ I1 L1, f_X12_isEven 156 I L = some (0, I1, L1) ∧ mq_F I I1 L L1 ∧ (∀ q, q ≠ 164 → I1 q = I q) := by
  obtain ⟨I1, L1, g1, g2, g3⟩ := ml_even (L := L) (o := 156) hok hN
  rcases g3 with ⟨-, z⟩ | ⟨t, z, -⟩
  · exact ⟨I1, L1, z, ⟨fun q hq => g1 q (by omega), g1 _ (by omega), g1 _ (by omega), g1 _ (by omega), g1 _ (by omega), by rw [g1 _ (by omega)], by rw [g1 _ (by omega)], fun q q1 q2 => g2 q q1 q2, fun p hp => by rw [g1 _ (by omega)]⟩, g1⟩
  · exact absurd ⟨t, z⟩ h
theorem ml_evenT {I : Nat → Nat → Int32} {N : bn_N} {t : Nat → Nat} (hok : bn_ok N) (hN : bm_N (I 157) N) (h : tm_T N t) : ∃ I1 L1, f_X12_isEven 156 I L = some (1, I1, L1) ∧ mq_F I I1 L L1 ∧ (∀ q, q ≠ 164 → I1 q = I q) ∧ ∀ c, c < bn_nb N → I1 164 c = nI (t c) := by
  obtain ⟨I1, L1, g1, g2, g3⟩ := ml_even (L := L) (o := 156) hok hN
  rcases g3 with ⟨z, -⟩ | ⟨t', z, z1, z2⟩
  · exact absurd ⟨t, h.1⟩ z
  · exact ⟨I1, L1, z1, ⟨fun q hq => g1 q (by omega), g1 _ (by omega), g1 _ (by omega), g1 _ (by omega), g1 _ (by omega), by rw [g1 _ (by omega)], by rw [g1 _ (by omega)], fun q q1 q2 => g2 q q1 q2, fun p hp => by rw [g1 _ (by omega)]⟩, g1, fun c hc => by rw [tm_evu hok h.1 z c hc]; exact z2 c hc⟩
theorem ml_goesOn {I : Nat → Nat → Int32} {n m : Nat} {N M : bn_N} (hok : bn_ok N) (hn : n ≤ 9) (hG : pd_gr N n m M) (hN : bm_N (I 157) N) : ∃ I1 L1, f_X12_goesOn 156 (nI n) I L = some (nI m, I1, L1) ∧ mq_F I I1 L L1 ∧ bm_N (I1 157) M ∧ ∀ k, k < 914 → I1 169 k = I 157 k := by
  unfold f_X12_goesOn
  obtain ⟨I1, g1, g2, g3⟩ := ml_copies (L := L) (a := 157) (b := 169) (by omega) lk157 lk169 I
  rw [show 156 + 1 = 157 from rfl, show 156 + 13 = 169 from rfl, g1]
  simp only [Option.bind_some]
  have hN1 : bm_N (I1 157) N := by rw [g3 _ (by omega)]; exact hN
  have F1 : mq_F I I1 L L := ⟨fun q hq => g3 q (by omega), g3 _ (by omega), g3 _ (by omega), g3 _ (by omega), g3 _ (by omega), by rw [g3 _ (by omega)], by rw [g3 _ (by omega)], fun _ _ _ => rfl, fun p hp => by rw [g3 _ (by omega)]⟩
  rcases hG with ⟨h1, rfl, rfl⟩ | ⟨t, h1, h2⟩
  · obtain ⟨I2, L2, k1, k2, k3⟩ := ml_evenF (L := L) hok hN1 h1
    rw [k1]
    simp only [Option.bind_some, if_true]
    exact ⟨I2, L2, rfl, F1.tr k2, by rw [k3 _ (by omega)]; exact hN1, fun k hk => by rw [k3 _ (by omega)]; exact g2 k hk⟩
  · obtain ⟨I2, L2, k1, k2, k3, k4⟩ := ml_evenT (L := L) hok hN1 h1
    rw [k1]
    simp only [Option.bind_some]
    rw [if_neg bp_10]
    have hN2 : bm_N (I2 157) N := by rw [k3 _ (by omega)]; exact hN1
    rcases h2 with ⟨q1, rfl, rfl⟩ | ⟨q1, rfl, rfl⟩
    · obtain ⟨I3, n1, n2, n3, n4⟩ := ml_perN (L := L2) hok h1.y hn q1 hN2 k4
      rw [n1]
      exact ⟨I3, L2, rfl, F1.tr (k2.tr n2), hN2.cg hok (fun k hk => n3 k hk.2), fun k hk => by rw [n4, k3 _ (by omega)]; exact g2 k hk⟩
    · obtain ⟨I3, n1, n2, n3, n4⟩ := ml_perT (L := L2) hok h1 q1 hn hN2 k4
      rw [n1]
      exact ⟨I3, L2, rfl, F1.tr (k2.tr n2), n3, fun k hk => by rw [n4, k3 _ (by omega)]; exact g2 k hk⟩
theorem ml_back {I : Nat → Nat → Int32} : ∃ I1, f_X12_copies 169 157 I L = some (I1, L) ∧ (∀ k, k < 914 → I1 157 k = I 169 k) ∧ ∀ q, q ≠ 157 → I1 q = I q := ml_copies (a := 169) (b := 157) (by omega) lk169 lk157 I
end PD5
