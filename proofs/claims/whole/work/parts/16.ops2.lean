/-! tapes -/
abbrev bn_sT (A : bn_A) (t : Nat) (x : Int32 × Nat × (Nat → Int64)) : bn_A := (A.1, A.2.1, A.2.2.1, va_up A.2.2.2 t x)
theorem ba_ok.setT {A : bn_A} {t : Nat} {x : Int32 × Nat × (Nat → Int64)} (h : ba_ok A) (hx : x.2.1 ≤ 60 ∧ ((x.1 = -1 ∧ x.2.1 = 0) ∨ ∃ k, k ≤ 4 ∧ x.1 = nI k)) : ba_ok (bn_sT A t x) := by
  obtain ⟨k1, k2, k3, k4, k5⟩ := h
  refine ⟨k1, k2, k3, k4, fun u hu => ?_⟩
  show (va_up _ t x u).2.1 ≤ 60 ∧ (((va_up _ t x u).1 = -1 ∧ (va_up _ t x u).2.1 = 0) ∨ ∃ k, k ≤ 4 ∧ (va_up _ t x u).1 = nI k)
  by_cases q : u = t
  · subst q; rw [vu_o]; exact hx
  · rw [vu_n q]; exact k5 u hu
theorem bc_A.setT {I I1 : Nat → Nat → Int32} {L L1 : Nat → Nat → Int64} {A : bn_A} {t : Nat} {x : Int32 × Nat × (Nat → Int64)} (h : bc_A I L A) (hok : ba_ok A) (ht : t < 6) (hI : ∀ q, q ≠ 144 + 2 * t → I1 q = I q) (hL : ∀ q, q ≠ 145 + 2 * t → L1 q = L q) (h0 : I1 (144 + 2 * t) 0 = x.1) (h1 : I1 (144 + 2 * t) 1 = nI x.2.1) (h2 : ∀ k, k < 60 → L1 (145 + 2 * t) k = x.2.2 k) : bc_A I1 L1 (bn_sT A t x) := by
  obtain ⟨k1, k2, k3, k4, k5, k6⟩ := h
  refine ⟨k1.cg hok.1 (fun q qa qb => hI q (by omega)), by rw [hI 0 (by omega)]; exact k2, fun S hS => (k3 S hS).cg (hok.2.1 S hS) (fun q qa qb => hI q (by omega)), by rw [hI 124 (by omega)]; exact k4, by rw [hI 125 (by omega)]; exact k5, fun u hu => ?_⟩
  show _ = (va_up _ t x u).1 ∧ _ = nI (va_up _ t x u).2.1 ∧ ∀ k, k < 60 → _ = (va_up _ t x u).2.2 k
  by_cases q : u = t
  · subst q; rw [vu_o]; exact ⟨h0, h1, h2⟩
  · rw [vu_n q, hI _ (by omega), hL _ (by omega)]; exact k6 u hu
theorem bm_A.setT {I I1 : Nat → Nat → Int32} {L L1 : Nat → Nat → Int64} {A : bn_A} {t : Nat} {x : Int32 × Nat × (Nat → Int64)} (h : bm_A I L A) (hI : ∀ q, q ≠ 170 → q ≠ 171 → I1 q = I q) (h0 : I1 170 t = x.1) (h1 : I1 171 t = nI x.2.1) (h2 : ∀ k, k < 60 → L1 172 (60 * t + k) = x.2.2 k) (h3 : ∀ u, u ≠ t → u < 6 → I1 170 u = I 170 u ∧ I1 171 u = I 171 u ∧ ∀ k, k < 60 → L1 172 (60 * u + k) = L 172 (60 * u + k)) : bm_A I1 L1 (bn_sT A t x) := by
  obtain ⟨k1, k2, k3, k4, k5, k6⟩ := h
  refine ⟨by rw [hI 157 (by omega) (by omega)]; exact k1, by rw [hI 156 (by omega) (by omega)]; exact k2, by rw [hI 159 (by omega) (by omega)]; exact k3, by rw [hI 156 (by omega) (by omega)]; exact k4, by rw [hI 160 (by omega) (by omega)]; exact k5, fun u hu => ?_⟩
  show _ = (va_up _ t x u).1 ∧ _ = nI (va_up _ t x u).2.1 ∧ ∀ k, k < 60 → _ = (va_up _ t x u).2.2 k
  by_cases q : u = t
  · subst q; rw [vu_o]; exact ⟨h0, h1, h2⟩
  · obtain ⟨e1, e2, e3⟩ := h3 u q hu
    obtain ⟨f1, f2, f3⟩ := k6 u hu
    rw [vu_n q, e1, e2]; exact ⟨f1, f2, fun k hk => by rw [e3 k hk]; exact f3 k hk⟩
section OPS162
variable {I : Nat → Nat → Int32} {L : Nat → Nat → Int64}
theorem cl_isTape (a : Int32) : f_X11_isTape a I L = some ((if 0 ≤ a.toInt ∧ a.toInt ≤ 5 then 1 else 0), I, L) := by
  unfold f_X11_isTape
  by_cases h0 : a < 0
  · rw [if_pos h0, if_neg (by rw [bp_lt0] at h0; omega)]
  · by_cases h1 : (6 : Int32) ≤ a
    · rw [if_neg h0, if_pos h1, if_neg (by rw [bp_leI, show (6 : Int32).toInt = 6 from rfl] at h1; omega)]
    · rw [if_neg h0, if_neg h1, if_pos (by rw [bp_lt0] at h0; rw [bp_leI, show (6 : Int32).toInt = 6 from rfl] at h1; omega)]
theorem cl_fill {o : Nat} (ho : bf_le o = 60) (K : (Nat → Nat → Int32) → (Nat → Nat → Int64) → Option bf_St) : ∀ (n j : Nat) (L : Nat → Nat → Int64), j ≤ 60 → 60 < j + n → ∃ L1, f_J7_fill_d0a16_6 o 0 (Int32.ofNat 60) K n (nI j) I L = K I L1 ∧ (∀ k, j ≤ k → k < 60 → L1 o k = 0) ∧ (∀ k, k < j → L1 o k = L o k) ∧ ∀ q, q ≠ o → L1 q = L q
  | 0, j, L, h1, h2 => by omega
  | n + 1, j, L, h1, h2 => by
    rw [f_J7_fill_d0a16_6]
    by_cases hj : j = 60
    · subst hj
      exact ⟨L, if_pos (by decide), fun k a b => by omega, fun k _ => rfl, fun q _ => rfl⟩
    · rw [if_neg (show ¬ Int32.ofNat 60 ≤ nI j from nI_ge (b := 60) (by omega) (by omega)), ho, if_pos (bp_ok (by omega) (by omega)), bp_cl (by omega), bp_p1]
      obtain ⟨L1, e1, e2, e3, e4⟩ := cl_fill ho K n (j + 1) (bf_u L o j 0) (by omega) (by omega)
      refine ⟨L1, e1, fun k a b => ?_, fun k a => ?_, fun q hq => by rw [e4 q hq, bf_u_ne hq]⟩
      · by_cases hk : k = j
        · subst hk
          rw [e3 k (by omega), bf_u_at]
        · exact e2 k (by omega) b
      · rw [e3 k (by omega), bf_u_ni (by omega)]
theorem ml_fill {t : Nat} (ht : t < 6) (K : (Nat → Nat → Int32) → (Nat → Nat → Int64) → Option (Int32 × bf_St)) : ∀ (n j : Nat) (L : Nat → Nat → Int64), j ≤ 60 → 60 < j + n → ∃ L1, f_X12_tape_80 156 (nI t) K n (nI j) I L = K I L1 ∧ (∀ k, j ≤ k → k < 60 → L1 172 (60 * t + k) = 0) ∧ (∀ k, (k < 60 * t + j ∨ 60 * t + 60 ≤ k) → L1 172 k = L 172 k) ∧ ∀ q, q ≠ 172 → L1 q = L q
  | 0, j, L, h1, h2 => by omega
  | n + 1, j, L, h1, h2 => by
    rw [f_X12_tape_80]
    by_cases hj : j = 60
    · subst hj
      exact ⟨L, if_pos (by decide), fun k a b => by omega, fun k _ => rfl, fun q _ => rfl⟩
    · rw [if_neg (show ¬ (60 : Int32) ≤ nI j from nI_ge (b := 60) (by omega) (by omega)), show (60 : Int32) = nI 60 from rfl, pk_mul, nI_add, if_pos (bp_ok (by omega) (by omega)), bp_cl (by omega), bp_p1]
      obtain ⟨L1, e1, e2, e3, e4⟩ := ml_fill ht K n (j + 1) (bf_u L 172 (60 * t + j) 0) (by omega) (by omega)
      refine ⟨L1, e1, fun k a b => ?_, fun k a => ?_, fun q hq => by rw [e4 q hq, bf_u_ne hq]⟩
      · by_cases hk : k = j
        · subst hk
          rw [e3 _ (by omega), bf_u_at]
        · exact e2 k (by omega) b
      · rw [e3 k (by omega), bf_u_ni (by omega)]
theorem tp_fin {A : bn_A} (hok : ba_ok A) (hC : bc_A I L A) (hM : bm_A I L A) {t : Nat} (ht : t < 6) (s v : Int32) (m : Nat) (hm : m ≤ 60) (hs : (s = -1 ∧ m = 0) ∨ (s ≠ -1 ∧ (∃ k, k ≤ 4 ∧ s = nI k) ∧ v = nI m)) {c : Option (Int32 × bf_St)} {mm : (Nat → Nat → Int32) → (Nat → Nat → Int64) → Option (Int32 × bf_St)} (hc : c = (f_X8_become (144 + 2 * t) s (nI m) I L).bind (fun r => some (1, r.1, r.2))) (hmm : ∀ I1 L1, mm I1 L1 = f_X12_tape_p54 156 (nI t) s v I1 L1) : bo_OK c mm := by
  have ho : bf_le (144 + 2 * t + 1) = 60 := by
    have : ∀ u : Fin 6, bf_le (144 + 2 * u.1 + 1) = 60 := by decide +kernel
    exact this ⟨t, ht⟩
  have e60 : bf_max 0 (bf_min (nI m) 60) = nI m := by
    unfold bf_min bf_max
    rw [if_neg (show ¬ (60 : Int32) < nI m from nI_nlt (a := 60) hm (by omega))]
    by_cases h0 : m = 0
    · subst h0; decide
    · rw [if_pos (show (0 : Int32) < nI m from nI_lt (a := 0) (by omega) (by omega))]
  obtain ⟨L1, f1, f2, f3, f4⟩ := cl_fill (I := bf_u (bf_u I (144 + 2 * t) 0 s) (144 + 2 * t) 1 (nI m)) ho (fun I3 L3 => some (I3, L3)) 400 0 L (by omega) (by omega)
  obtain ⟨J, hJ⟩ : ∃ J, J = bf_u (bf_u I (144 + 2 * t) 0 s) (144 + 2 * t) 1 (nI m) := ⟨_, rfl⟩
  rw [← hJ] at f1
  have hJq : ∀ q, q ≠ 144 + 2 * t → J q = I q := fun q hq => by rw [hJ]; simp (disch := omega) only [bf_u_ne]
  obtain ⟨L2, g1, g2, g3, g4⟩ := ml_fill (I := bf_u (bf_u J 170 t s) 171 t (nI m)) ht (fun I3 L3 => some (1, I3, L3)) 400 0 L1 (by omega) (by omega)
  have hM1 : bm_A J L1 A := hM.fc (fun q hq => ⟨hJq q (by omega), f4 q (by omega)⟩)
  refine bo_mk (A := bn_sT A t (s, m, fun _ => 0)) (x := 1) (I1 := J) (L1 := L1) (I2 := bf_u (bf_u J 170 t s) 171 t (nI m)) (L2 := L2) ?_ ?_ ?_ ?_ ?_ ?_
  · rw [hc]
    unfold f_X8_become f_J7_fill_d0a16
    rw [e60, ho, ← hJ, show (0 : Int32) = nI 0 from rfl, f1]
    rfl
  · rw [hmm]
    unfold f_X12_tape_p54
    rw [if_pos (bp_ok ht (by omega)), bp_cl (by omega)]
    simp only [Nat.reduceAdd]
    have : ∀ z, z = nI m → f_X12_tape_p76 156 (nI t) z (nI t) 171 (bf_u J 170 t s) L1 = some (1, bf_u (bf_u J 170 t s) 171 t (nI m), L2) := fun z hz => by
      unfold f_X12_tape_p76
      rw [show bf_le 171 = 6 by decide +kernel, if_pos (bp_ok ht (by omega)), bp_cl (by omega), hz, show (0 : Int32) = nI 0 from rfl, g1]
    rcases hs with ⟨h1, h2⟩ | ⟨h1, h2, h3⟩
    · rw [if_pos h1]
      exact this 0 (by rw [h2]; rfl)
    · rw [if_neg h1]
      exact this v h3
  · exact fun q hq => ⟨by simp (disch := omega) only [bf_u_ne], g4 q (by omega)⟩
  · exact hok.setT ⟨hm, hs.elim (fun q => Or.inl q) (fun q => Or.inr q.2.1)⟩
  · refine hC.setT hok ht hJq (fun q hq => f4 q (by omega)) ?_ ?_ (fun k hk => by rw [show 145 + 2 * t = 144 + 2 * t + 1 by omega]; exact f2 k (by omega) hk)
    · rw [hJ]; simp (disch := omega) only [bf_u_ni, bf_u_at]
    · rw [hJ]; simp (disch := omega) only [bf_u_ni, bf_u_at]
  · refine hM1.setT (fun q q1 q2 => by simp (disch := omega) only [bf_u_ne]) ?_ ?_ (fun k hk => g2 k (by omega) hk) (fun u hu hu6 => ⟨?_, ?_, fun k hk => g3 _ (by omega)⟩)
    · simp (disch := omega) only [bf_u_ne, bf_u_at]
    · simp (disch := omega) only [bf_u_ne, bf_u_at]
    · simp (disch := omega) only [bf_u_ne, bf_u_ni]
    · simp (disch := omega) only [bf_u_ne, bf_u_ni]
theorem op_tape (h : bo_St I L) (a s v : Int32) : bo_OK (f_X11_tape 0 a s v I L) (f_X12_tape 156 a s v) := by
  obtain ⟨A, hok, hC, hM⟩ := id h
  by_cases ha : 0 ≤ a.toInt ∧ a.toInt ≤ 5
  · obtain ⟨t, ht, rfl⟩ := bp_rg (n := 5) (by omega) ha.1 ha.2
    have hct : ∀ X : Option (Int32 × bf_St), (∀ r : Int32 × bf_St, r = (1, I, L) → (if s = -1 then (if bf_ok (nI t) 6 then ((f_X8_become (144 + 2 * t) (-1 : Int32) 0 I L).bind (fun r14 => some (1, r14.1, r14.2))) else none) else (if s < 0 then some (-2, I, L) else (if (4 : Int32) < s then some (-2, I, L) else (if v ≤ (60 : Int32) then (if (0 : Int32) ≤ v then (if bf_ok (nI t) 6 then ((f_X8_become (144 + 2 * t) s v I L).bind (fun r11 => some (1, r11.1, r11.2))) else none) else some (-14, I, L)) else some (-2, I, L))))) = X) → f_X11_tape 0 (nI t) s v I L = X := by
      intro X hX
      rw [← hX _ rfl]
      unfold f_X11_tape
      rw [cl_isTape, if_pos ha]
      simp only [Option.bind_some, Nat.reduceAdd, Nat.zero_add, bp_cl (show t < 100000 by omega)]
      rw [if_neg bp_10]
    have hmt : ∀ I1 L1, f_X12_tape 156 (nI t) s v I1 L1 = (if -1 ≤ s.toInt ∧ s.toInt ≤ 4 then (if s = -1 then f_X12_tape_p42 156 (nI t) s v I1 L1 else (if v ≤ (60 : Int32) then f_X12_tape_p42 156 (nI t) s v I1 L1 else some (-2, I1, L1))) else some (-2, I1, L1)) := by
      intro I1 L1
      unfold f_X12_tape
      rw [bp_in_t (lo := 0) (hi := 5) ha]
      simp only [Option.bind_some]
      rw [if_neg bp_10]
      by_cases hq : -1 ≤ s.toInt ∧ s.toInt ≤ 4
      · rw [bp_in_t (lo := -1) (hi := 4) hq, if_pos hq]
        simp only [Option.bind_some]
        rw [if_neg bp_10]
      · rw [bp_in_f (lo := -1) (hi := 4) hq, if_neg hq]
        rfl
    by_cases s1 : s = -1
    · refine tp_fin hok hC hM (t := t) (by omega) s v 0 (by omega) (Or.inl ⟨s1, rfl⟩) (hct _ fun r hr => ?_) (fun I1 L1 => ?_)
      · rw [if_pos s1, if_pos (bp_ok (by omega) (by omega)), s1]
        rfl
      · rw [hmt, if_pos (by rw [s1]; decide), if_pos s1]
        unfold f_X12_tape_p42
        rw [if_pos s1]
    · by_cases s2 : 0 ≤ s.toInt ∧ s.toInt ≤ 4
      · have q1 : ¬ s < 0 := by rw [bp_lt0]; omega
        have q2 : ¬ (4 : Int32) < s := by rw [bp_ltI, show (4 : Int32).toInt = 4 from rfl]; omega
        obtain ⟨k, hk, rfl⟩ := bp_rg (n := 4) (by omega) s2.1 s2.2
        by_cases v1 : v ≤ (60 : Int32)
        · by_cases v2 : (0 : Int32) ≤ v
          · obtain ⟨m, hm, rfl⟩ := bp_rg (a := v) (n := 60) (by omega) (by rw [bp_leI] at v2; exact v2) (by rw [bp_leI] at v1; exact v1)
            refine tp_fin hok hC hM (t := t) (by omega) (nI k) (nI m) m hm (Or.inr ⟨s1, ⟨k, hk, rfl⟩, rfl⟩) (hct _ fun r hr => ?_) (fun I1 L1 => ?_)
            · rw [if_neg s1, if_neg q1, if_neg q2, if_pos v1, if_pos v2, if_pos (bp_ok (by omega) (by omega))]
            · rw [hmt, if_pos (by omega), if_neg s1, if_pos v1]
              unfold f_X12_tape_p42
              rw [if_neg s1, if_pos v2]
          · refine bo_same h (x := -14) (hct _ fun r hr => ?_) ?_
            · rw [if_neg s1, if_neg q1, if_neg q2, if_pos v1, if_neg v2]
            · rw [hmt, if_pos (by omega), if_neg s1, if_pos v1]
              unfold f_X12_tape_p42
              rw [if_neg s1, if_neg v2]
        · refine bo_same h (x := -2) (hct _ fun r hr => ?_) ?_
          · rw [if_neg s1, if_neg q1, if_neg q2, if_neg v1]
          · rw [hmt, if_pos (by omega), if_neg s1, if_neg v1]
      · refine bo_same h (x := -2) (hct _ fun r hr => ?_) ?_
        · rw [if_neg s1]
          by_cases q1 : s < 0
          · rw [if_pos q1]
          · rw [if_neg q1, if_pos (by rw [bp_lt0] at q1; rw [bp_ltI, show (4 : Int32).toInt = 4 from rfl]; omega)]
        · rw [hmt, if_neg (fun q => ?_)]
          have : s.toInt = -1 := by omega
          exact s1 (Int32.toInt_inj.mp this)
  · refine bo_same h (x := -1) ?_ ?_
    · unfold f_X11_tape
      rw [cl_isTape, if_neg ha]
      rfl
    · unfold f_X12_tape
      rw [bp_in_f (lo := 0) (hi := 5) ha]
      rfl
end OPS162
