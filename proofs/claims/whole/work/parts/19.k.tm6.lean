section TM7
variable {L : Nat → Nat → Int64}
theorem tm_l.cg {N : bn_N} (hok : bn_ok N) {b : Nat} (hb : b < 6) {t t2 : Nat → Nat} (h : tm_l N b t) (he : ∀ c, (lo_L N b).testBit c = true → t2 c = t c) : tm_l N b t2 := by
  obtain ⟨h1, h2, h3⟩ := h
  refine ⟨fun c hc => by rw [he c hc]; exact h1 c hc, fun w hw hh hl => ?_, fun d hd => h3 d (fun c hc => by rw [← he c hc]; exact hd c hc)⟩
  show t2 _ * _ = t2 _ * _
  rw [he _ hl, he _ ((lo_cl hok hb w hw hh).mp hl)]
  exact h2 w hw hh hl
theorem ml_isWhole {I : Nat → Nat → Int32} {o r : Nat} {A B : Nat → Nat} {N : bn_N} (hok : bn_ok N) (hr : r < 6) (hR : sp_R L o A B) (h : ∀ c, (lo_L N r).testBit c = true → 0 < A c ∧ 0 < B c ∧ A c ∣ 12 ^ 6 ∧ B c ∣ 12 ^ 6) (hc : ∀ w, w < 8 → bw_h (bn_wr N w) = true → (lo_L N r).testBit (bw_f (bn_wr N w)) = true → sp_c N A B w) : ∃ t v I1, tm_l N r t ∧ f_X12_isWhole o (nI (lo_L N r)) I L = some (v, I1, L) ∧ (v = 0 ∨ v = 1) ∧ (v = 1 ↔ ∀ c, (lo_L N r).testBit c = true → t c ≤ 60) ∧ (∀ c, (lo_L N r).testBit c = true → t c ≤ 60 → I1 (o + 8) c = nI (t c)) ∧ (∀ c, ¬ (lo_L N r).testBit c = true → I1 (o + 8) c = I (o + 8) c) ∧ ∀ q, q ≠ o + 8 → I1 q = I q := by
  have lt6 : ∀ c, (lo_L N r).testBit c = true → c < 6 := fun c => sb_lt6 (lo_Ll hok hr)
  have hS := wh_sol hok hr (fun c hl => ⟨(h c hl).1, (h c hl).2.1, (h c hl).2.2.2⟩) hc
  have l64 := lo_Ll hok hr
  have aI := wh_aI (lot := lo_L N r) (M := 12 ^ 6) (B := B) (fun b hb => (h b hb).2.2.2) 6
  obtain ⟨a, ha⟩ : ∃ a, a = wh_a (lo_L N r) B 6 := ⟨_, rfl⟩
  rw [← ha] at aI hS
  have a0 : 0 < a := Nat.pos_of_dvd_of_pos aI.1 (by decide)
  have al : a ≤ 2985984 := sp_le aI.1 (Nat.le_refl _)
  have hB : ∀ b, (lo_L N r).testBit b = true → L (o + 7) b = lN (B b) ∧ 0 < B b ∧ B b ≤ 2985984 ∧ L (o + 6) b = lN (A b) ∧ 0 < wh_m a A B b ∧ wh_m a A B b ≤ 8916100448256 := fun b hl => by
    obtain ⟨q1, q2, q3, q4⟩ := h b hl
    obtain ⟨r1, r2⟩ := hR b (lt6 b hl)
    refine ⟨r2 q1, q2, sp_le q4 (Nat.le_refl _), r1, Nat.mul_pos (Nat.div_pos (Nat.le_of_dvd a0 (aI.2 b (lt6 b hl) hl)) q2) q1, ?_⟩
    have := Nat.mul_le_mul (Nat.le_trans (Nat.div_le_self a (B b)) al) (sp_le q3 (Nat.le_refl _))
    exact Nat.le_trans this (by decide)
  have gI := wh_gI (lot := lo_L N r) (m := wh_m a A B) 6
  obtain ⟨g, hg⟩ : ∃ g, g = wh_g (lo_L N r) (wh_m a A B) 6 := ⟨_, rfl⟩
  rw [← hg] at gI hS
  have g0 : 0 < g := Nat.pos_of_dvd_of_pos (gI.1 r hr (lo_in hok)) (hB r (lo_in hok)).2.2.2.2.1
  have gl : g ≤ 8916100448256 := by rw [hg]; exact wh_gl (fun b hb => (hB b hb).2.2.2.2) 6
  obtain ⟨v1, I1, g1, g2, g3, g4, g5, g6⟩ := ml_wh118 (L := L) (o := o) l64 al g0 gl hB (fun k6_28 I28 L28 => (if k6_28 = 0 ∨ k6_28 = 1 then some (k6_28, I28, L28) else none)) 400 0 1 I (by omega) (by omega) (Or.inr rfl)
  refine ⟨fun c => wh_m a A B c / g, v1, I1, hS, ?_, g2, ⟨fun z c hl => (g3.mp z).2 c (by omega) (lt6 c hl) hl, fun z => g3.mpr ⟨rfl, fun c _ _ hl => z c hl⟩⟩, fun c hl h60 => g4 c (by omega) (lt6 c hl) hl h60, fun c hl => g5 c (Or.inr hl), g6⟩
  unfold f_X12_isWhole
  have e5 := ml_wh5 (L := L) (I := I) (o := o) (B := B) l64 (fun b hl => ⟨(hB b hl).1, (hB b hl).2.1, (h b hl).2.2.2⟩) (fun k2_8 I8 L8 => (f_X12_isWhole_p54 o (nI (lo_L N r)) k2_8 I8 L8)) 400 0 (by omega) (by omega)
  rw [← ha] at e5
  refine Eq.trans e5 ?_
  show f_X12_isWhole_p54 o (nI (lo_L N r)) (lN a) I L = _
  unfold f_X12_isWhole_p54
  have e6 := ml_wh60 (L := L) (I := I) (o := o) l64 al hB (fun k4_16 I16 L16 => (f_X12_isWhole_p112 o (nI (lo_L N r)) (lN a) k4_16 I16 L16)) 400 0 (by omega) (by omega)
  rw [← hg] at e6
  refine Eq.trans e6 ?_
  show f_X12_isWhole_p112 o (nI (lo_L N r)) (lN a) (lN g) I L = _
  unfold f_X12_isWhole_p112
  refine Eq.trans g1 ?_
  show (if v1 = 0 ∨ v1 = 1 then some (v1, I1, L) else none) = _
  rw [if_pos g2]
/-- the boxes done so far -/
def ev_I (N : bn_N) (o : Nat) (A B T : Nat → Nat) (I : Nat → Nat → Int32) : Prop := sp_Q N (fun b => 0 < A b) ∧ (∀ b, 0 < A b → b < bn_nb N ∧ 0 < B b ∧ A b ∣ 12 ^ sp_n A ∧ B b ∣ 12 ^ sp_n A) ∧ (∀ w, w < 8 → bw_h (bn_wr N w) = true → 0 < A (bw_f (bn_wr N w)) → sp_c N A B w) ∧ ∀ c, 0 < A c → tm_l N c T ∧ T c ≤ 60 ∧ I (o + 8) c = nI (T c)
theorem ev_st {N : bn_N} {o b : Nat} {A B T : Nat → Nat} {I : Nat → Nat → Int32} (hok : bn_ok N) (h : ev_I N o A B T I) (hb : b < bn_nb N) (h0 : A b = 0) : sp_I N b (fun c => 0 < A c) A B (va_up A b 1) (va_up B b 1) := by
  obtain ⟨h1, h2, h3, h4⟩ := h
  have o1 := hok.1
  have hn := sp_nu (A := A) (x := 1) (show b < 6 by omega) h0 (by omega)
  have ne : ∀ c, 0 < A c → c ≠ b := fun c hc z => by rw [z] at hc; omega
  refine ⟨fun c hc => ?_, fun c hc => ?_, fun w hw hh hq => ?_, fun c hc hq => ?_, by rw [vu_o]; omega⟩
  · rw [hn, Nat.pow_succ]
    by_cases e : c = b
    · subst e
      rw [vu_o, vu_o]
      exact ⟨hb, by omega, Nat.one_dvd _, Nat.one_dvd _⟩
    · rw [vu_n e] at hc
      rw [vu_n e, vu_n e]
      obtain ⟨z1, z2, z3, z4⟩ := h2 c hc
      exact ⟨z1, z2, Nat.dvd_trans z3 (Nat.dvd_mul_right _ _), Nat.dvd_trans z4 (Nat.dvd_mul_right _ _)⟩
  · rw [vu_n (ne c hc), vu_n (ne c hc)]
    exact ⟨hc, rfl, rfl⟩
  · have q2 := (h1 w hw hh).mp hq
    show va_up A b _ (bw_f (bn_wr N w)) * _ * va_up B b _ (bw_t (bn_wr N w)) = va_up A b _ (bw_t (bn_wr N w)) * _ * va_up B b _ (bw_f (bn_wr N w))
    rw [vu_n (ne _ hq), vu_n (ne _ hq), vu_n (ne _ q2), vu_n (ne _ q2)]
    exact h3 w hw hh hq
  · have e : c = b := by
      by_cases e : c = b
      · exact e
      · rw [vu_n e] at hc
        exact absurd hc hq
    subst e
    rw [vu_o, vu_o]
    exact ⟨lo_in hok, fun t _ => rfl⟩
theorem ml_ev23 {o : Nat} {N : bn_N} (hok : bn_ok N) (K : (Nat → Nat → Int32) → (Nat → Nat → Int64) → Option (Int32 × bf_St)) : ∀ (n b : Nat) (A B T : Nat → Nat) (I : Nat → Nat → Int32) (L : Nat → Nat → Int64), b ≤ bn_nb N → bn_nb N < b + n → bm_N (I (o + 1)) N → sp_R L o A B → ev_I N o A B T I → (∀ c, c < b → 0 < A c) → ∃ I1 L1, (∀ q, q ≠ o + 8 → I1 q = I q) ∧ (∀ q, q ≠ o + 6 → q ≠ o + 7 → L1 q = L q) ∧ (((¬ ∃ t, tm_ev N t) ∧ f_X12_isEven_23 o K n (nI b) I L = some (0, I1, L1)) ∨ ∃ t, tm_ev N t ∧ f_X12_isEven_23 o K n (nI b) I L = K I1 L1 ∧ ∀ c, c < bn_nb N → I1 (o + 8) c = nI (t c))
  | 0, b, A, B, T, I, L, h1, h2, hN, hR, hE, hA => by omega
  | n + 1, b, A, B, T, I, L, h1, h2, hN, hR, hE, hA => by
    have o1 := hok.1
    have o2 := hok.2.1
    rw [f_X12_isEven_23, bp_0, hN.1]
    by_cases h6 : b = bn_nb N
    · rw [if_pos (nI_le (by omega) (by omega))]
      refine ⟨I, L, fun _ _ => rfl, fun _ _ _ => rfl, Or.inr ⟨T, ⟨fun c hc => (hE.2.2.2 c (hA c (by omega))).1, fun c hc => (hE.2.2.2 c (hA c (by omega))).2.1⟩, rfl, fun c hc => (hE.2.2.2 c (hA c (by omega))).2.2⟩⟩
    · have b6 : b < 6 := by omega
      have bA : A b ≤ 2985984 := by
        by_cases q : 0 < A b
        · exact sp_le (hE.2.1 b q).2.2.1 (sp_n6 A)
        · omega
      rw [if_neg (nI_ge (by omega) (by omega)), bp_p1]
      simp only [if_pos (bp_ok b6 (show 6 ≤ 100000 by omega)), bp_cl (show b < 100000 by omega), (hR b b6).1, sp_z2 (show A b < 2 ^ 63 by omega)]
      by_cases e : A b = 0
      · rw [if_pos e]
        obtain ⟨L1, g1, g2⟩ := ml_spreads (I := I) (L := bf_u (bf_u L (o + 6) b (lN 1)) (o + 7) b (lN 1)) hok hN hE.1 b6 (hR.up (c := b) (x := 1) (y := 1)) (ev_st hok hE (by omega) e)
        have fr : ∀ q, q ≠ o + 6 → q ≠ o + 7 → L1 q = L q := fun q q1 q2 => by rw [g1 q q1 q2, bf_u_ne q2, bf_u_ne q1]
        rw [show (1 : Int64) = lN 1 from rfl]
        rcases g2 with ⟨z1, z2⟩ | ⟨A1, B1, z2, z3, z4, z5⟩
        · rw [z2]
          simp only [Option.bind_some, if_true]
          exact ⟨I, L1, fun _ _ => rfl, fr, Or.inl ⟨z1, rfl⟩⟩
        · rw [z2]
          simp only [Option.bind_some]
          rw [if_neg bp_10, ml_lo hok hN b6]
          simp only [Option.bind_some]
          obtain ⟨y1, y2, y3, y4, y5⟩ := z4
          have cl : sp_Q N (fun c => 0 < A1 c) := fun w hw hh => by
            have := z5 w (by
              refine Nat.lt_of_not_le (fun q => ?_)
              rw [hok.2.2.2.2 w q] at hh
              exact absurd hh (by decide)) hh
            rcases this with ⟨q1, q2⟩ | ⟨q1, q2, -⟩
            · exact ⟨fun z => by omega, fun z => by omega⟩
            · exact ⟨fun _ => q2, fun _ => q1⟩
          have co : ∀ w, w < 8 → bw_h (bn_wr N w) = true → 0 < A1 (bw_f (bn_wr N w)) → sp_c N A1 B1 w := fun w hw hh hf => by
            have := z5 w (by
              refine Nat.lt_of_not_le (fun q => ?_)
              rw [hok.2.2.2.2 w q] at hh
              exact absurd hh (by decide)) hh
            rcases this with ⟨q1, q2⟩ | ⟨-, -, q3⟩
            · omega
            · exact q3
          have lin : ∀ c, (lo_L N b).testBit c = true → 0 < A1 c := lo_min hok (P := fun c => 0 < A1 c) cl y5
          obtain ⟨t, v, I1, k1, k2, k3, k4, k5, k6, k7⟩ := ml_isWhole (I := I) (L := L1) (o := o) hok b6 z3 (fun c hl => by
            obtain ⟨q1, q2, q3, q4⟩ := y1 c (lin c hl)
            exact ⟨lin c hl, q2, Nat.dvd_trans q3 (Nat.pow_dvd_pow 12 (sp_n6 A1)), Nat.dvd_trans q4 (Nat.pow_dvd_pow 12 (sp_n6 A1))⟩) (fun w hw hh hl => co w hw hh (lin _ hl))
          rw [k2]
          simp only [Option.bind_some]
          rcases k3 with rfl | rfl
          · rw [if_pos rfl]
            refine ⟨I1, L1, k7, fr, Or.inl ⟨fun ⟨t', ht'⟩ => ?_, rfl⟩⟩
            have un := tm_un hok b6 (ht'.1 b (by omega)) k1
            refine absurd (k4.mpr (fun c hl => ?_)) (by decide)
            rw [← un c hl]
            exact ht'.2 c (y1 c (lin c hl)).1
          · rw [if_neg bp_10]
            have k4 := k4.mp rfl
            have dis : ∀ c, 0 < A c → ∀ d, (lo_L N c).testBit d = true → ¬ (lo_L N b).testBit d = true := fun c hc d hd hd2 => by
              have dA : 0 < A d := lo_min hok (P := fun c => 0 < A c) hE.1 hc d hd
              have := lo_eq hok b6 hd2
              have hbd : (lo_L N d).testBit b = true := by rw [this]; exact lo_in hok
              have : 0 < A b := lo_min hok (P := fun c => 0 < A c) hE.1 dA b hbd
              omega
            obtain ⟨I2, L2, m1, m2, m3⟩ := ml_ev23 hok K n (b + 1) A1 B1 (fun c => if (lo_L N b).testBit c = true then t c else T c) I1 L1 (by omega) (by omega) (by rw [k7 (o + 1) (by omega)]; exact hN) z3 (by
              refine ⟨cl, y1, co, fun c hc => ?_⟩
              have c6 : c < 6 := by have := (y1 c hc).1; omega
              dsimp only
              by_cases q : (lo_L N b).testBit c = true
              · rw [if_pos q]
                have eq := lo_eq hok b6 q
                refine ⟨?_, k4 c q, k5 c q (k4 c q)⟩
                refine tm_l.cg hok c6 (t := t) ?_ (fun d hd => by
                  rw [eq] at hd
                  exact if_pos hd)
                unfold tm_l
                rw [eq]
                exact k1
              · rw [if_neg q]
                have hcA : 0 < A c := by
                  by_cases z : 0 < A c
                  · exact z
                  · exact absurd (y4 c hc z).1 q
                obtain ⟨u1, u2, u3⟩ := hE.2.2.2 c hcA
                exact ⟨tm_l.cg hok c6 u1 (fun d hd => if_neg (dis c hcA d hd)), u2, by rw [k6 c q]; exact u3⟩) (fun c hc => by
              by_cases q : c = b
              · subst q; exact y5
              · exact (y2 c (hA c (by omega))).1)
            refine ⟨I2, L2, fun q q1 => (m1 q q1).trans (k7 q q1), fun q q1 q2 => (m2 q q1 q2).trans (fr q q1 q2), m3⟩
      · rw [if_neg e]
        exact ml_ev23 hok K n (b + 1) A B T I L (by omega) (by omega) hN hR hE (fun c hc => by
          by_cases q : c = b
          · subst q; omega
          · exact hA c (by omega))
theorem ml_ev2 {I : Nat → Nat → Int32} {o : Nat} (K : (Nat → Nat → Int32) → (Nat → Nat → Int64) → Option (Int32 × bf_St)) : ∀ (n j : Nat) (L : Nat → Nat → Int64), j ≤ 6 → 6 < j + n → (∀ b, b < j → L (o + 6) b = 0) → ∃ L1, f_X12_isEven_2 o K n (nI j) I L = K I L1 ∧ (∀ b, b < 6 → L1 (o + 6) b = 0) ∧ ∀ q, q ≠ o + 6 → L1 q = L q
  | 0, j, L, h1, h2, h3 => by omega
  | n + 1, j, L, h1, h2, h3 => by
    rw [f_X12_isEven_2]
    by_cases h6 : j = 6
    · subst h6
      rw [if_pos (by decide)]
      exact ⟨L, rfl, h3, fun _ _ => rfl⟩
    · rw [if_neg (show ¬ (6 : Int32) ≤ nI j from nI_ge (b := 6) (by omega) (by omega)), if_pos (bp_ok (by omega) (by omega)), bp_cl (by omega), bp_p1]
      obtain ⟨L1, g1, g2, g3⟩ := ml_ev2 (I := I) (o := o) K n (j + 1) (bf_u L (o + 6) j 0) (by omega) (by omega) (fun b hb => by
        by_cases q : b = j
        · subst q; rw [bf_u_at]
        · rw [bf_u_ni q]; exact h3 b (by omega))
      exact ⟨L1, g1, g2, fun q q1 => by rw [g3 q q1, bf_u_ne q1]⟩
theorem ml_even {I : Nat → Nat → Int32} {o : Nat} {N : bn_N} (hok : bn_ok N) (hN : bm_N (I (o + 1)) N) : ∃ I1 L1, (∀ q, q ≠ o + 8 → I1 q = I q) ∧ (∀ q, q ≠ o + 6 → q ≠ o + 7 → L1 q = L q) ∧ (((¬ ∃ t, tm_ev N t) ∧ f_X12_isEven o I L = some (0, I1, L1)) ∨ ∃ t, tm_ev N t ∧ f_X12_isEven o I L = some (1, I1, L1) ∧ ∀ c, c < bn_nb N → I1 (o + 8) c = nI (t c)) := by
  have o1 := hok.1
  unfold f_X12_isEven
  obtain ⟨L1, g1, g2, g3⟩ := ml_ev2 (I := I) (o := o) (fun I3 L3 => (f_X12_isEven_p21 o I3 L3)) 400 0 L (by omega) (by omega) (fun b hb => absurd hb (by omega))
  rw [show (0 : Int32) = nI 0 from rfl, g1]
  unfold f_X12_isEven_p21
  obtain ⟨I2, L2, m1, m2, m3⟩ := ml_ev23 (o := o) hok (fun I17 L17 => (some ((1 : Int32), I17, L17))) 400 0 (fun _ => 0) (fun _ => 0) (fun _ => 0) I L1 (by omega) (by omega) hN (fun b hb => ⟨g2 b hb, fun z => absurd z (Nat.lt_irrefl 0)⟩) ⟨fun w hw hh => Iff.rfl, fun b hb => absurd hb (Nat.lt_irrefl 0), fun w hw hh hq => absurd hq (Nat.lt_irrefl 0), fun c hc => absurd hc (Nat.lt_irrefl 0)⟩ (fun c hc => absurd hc (by omega))
  exact ⟨I2, L2, m1, fun q q1 q2 => (m2 q q1 q2).trans (g3 q q1), m3⟩
end TM7
