section OPT
/-- how many of so many by which it goes -/
def od_f (N : bn_N) (w : Nat) (t : Nat → Nat) : Nat → Nat → Nat → Nat
  | 0, _, c => c
  | k + 1, n, c => od_f N w t k (n + 1) (if pd_go (bn_wz N w n) t then c + 1 else c)
theorem od_le {N : bn_N} {w : Nat} {t : Nat → Nat} : ∀ (k n c : Nat), od_f N w t k n c ≤ c + k
  | 0, _, c => Nat.le_refl _
  | k + 1, n, c => by
    unfold od_f
    refine Nat.le_trans (od_le k (n + 1) _) ?_
    by_cases q : pd_go (bn_wz N w n) t
    · rw [if_pos q]; omega
    · rw [if_neg q]; omega
variable {L : Nat → Nat → Int64}
theorem cl_oddsF {w : Nat} {p : Int32} {N : bn_N} (hok : bn_ok N) (hw : w < bn_nw N) (hh : bw_h (bn_wr N w) = true) (hev : ¬ ∃ t, tm_ev N t) (K : Int32 → (Nat → Nat → Int32) → (Nat → Nat → Int64) → Option (Int64 × bf_St)) : ∀ (n j : Nat) (I : Nat → Nat → Int32), j ≤ 10 → 10 < j + n → bc_N I 2 N → ∃ I1, f_X11_odds_32 0 (nI w) p K n 0 (nI j) I L = K 0 I1 L ∧ ∀ q, q < 102 ∨ 109 < q → I1 q = I q
  | 0, j, I, h1, h2, hN => by omega
  | n + 1, j, I, h1, h2, hN => by
    rw [f_X11_odds_32]
    simp only [Nat.reduceAdd, Nat.zero_add]
    by_cases e : j = 10
    · subst e
      rw [if_pos (by decide)]
      exact ⟨I, rfl, fun _ _ => rfl⟩
    · rw [if_neg (show ¬ (9 : Int32) < nI j from nI_nlt (a := 9) (by omega) (by omega)), bp_p1]
      obtain ⟨I1, g1, g2, g3⟩ := cl_lookWith (L := L) (n := j) hok (show 2 + 25 ≤ 102 by omega) hN hw hh (by omega)
      rw [g1]
      simp only [Option.bind_some]
      rw [cl_goesF (g3.f hev).1]
      simp only [Option.bind_some, if_true]
      obtain ⟨I2, k1, k2⟩ := cl_oddsF (p := p) hok hw hh hev K n (j + 1) I1 (by omega) (by omega) (hN.cg (fun q a b => g2 q (by omega)) hok)
      exact ⟨I2, k1, fun q hq => (k2 q hq).trans (g2 q hq)⟩
theorem cl_oddsT {w : Nat} {p : Int32} {N : bn_N} {t : Nat → Nat} (hok : bn_ok N) (hw : w < bn_nw N) (hh : bw_h (bn_wr N w) = true) (hT : tm_T N t) (K : Int32 → (Nat → Nat → Int32) → (Nat → Nat → Int64) → Option (Int64 × bf_St)) : ∀ (n j c : Nat) (I : Nat → Nat → Int32), j ≤ 10 → 10 < j + n → bc_N I 2 N → ∃ I1, f_X11_odds_32 0 (nI w) p K n (nI c) (nI j) I L = K (nI (od_f N w t (10 - j) j c)) I1 L ∧ ∀ q, q < 102 ∨ 109 < q → I1 q = I q
  | 0, j, c, I, h1, h2, hN => by omega
  | n + 1, j, c, I, h1, h2, hN => by
    rw [f_X11_odds_32]
    simp only [Nat.reduceAdd, Nat.zero_add]
    by_cases e : j = 10
    · subst e
      rw [if_pos (by decide)]
      exact ⟨I, rfl, fun _ _ => rfl⟩
    · rw [if_neg (show ¬ (9 : Int32) < nI j from nI_nlt (a := 9) (by omega) (by omega)), bp_p1, bp_p1, show 10 - j = (10 - (j + 1)) + 1 by omega]
      obtain ⟨I1, g1, g2, g3⟩ := cl_lookWith (L := L) (n := j) hok (show 2 + 25 ≤ 102 by omega) hN hw hh (by omega)
      obtain ⟨z1, z2⟩ := g3.t hok hT
      rw [g1]
      simp only [Option.bind_some]
      rw [cl_goesT z1 z2]
      simp only [Option.bind_some]
      show ∃ I1, _ = K (nI (od_f N w t (10 - (j + 1)) (j + 1) (if pd_go (bn_wz N w j) t then c + 1 else c))) I1 L ∧ _
      by_cases y : pd_go (bn_wz N w j) t
      · rw [if_pos y, if_neg bp_10, if_pos y]
        obtain ⟨I2, k1, k2⟩ := cl_oddsT (p := p) hok hw hh hT K n (j + 1) (c + 1) I1 (by omega) (by omega) (hN.cg (fun q a b => g2 q (by omega)) hok)
        exact ⟨I2, k1, fun q hq => (k2 q hq).trans (g2 q hq)⟩
      · rw [if_neg y, if_pos rfl, if_neg y]
        obtain ⟨I2, k1, k2⟩ := cl_oddsT (p := p) hok hw hh hT K n (j + 1) c I1 (by omega) (by omega) (hN.cg (fun q a b => g2 q (by omega)) hok)
        exact ⟨I2, k1, fun q hq => (k2 q hq).trans (g2 q hq)⟩
theorem ml_oddsT {w : Nat} {p : Int32} {N : bn_N} {t : Nat → Nat} (hok : bn_ok N) (hw : w < bn_nw N) (hh : bw_h (bn_wr N w) = true) (hy : pd_y N t) (K : Int64 → (Nat → Nat → Int32) → (Nat → Nat → Int64) → Option (Int64 × bf_St)) : ∀ (n j c : Nat) (I : Nat → Nat → Int32), j ≤ 10 → 10 < j + n → bm_N (I 157) N → (∀ c, c < bn_nb N → I 164 c = nI (t c)) → ∃ I1, f_X12_odds_33 156 (nI w) p 1 K n (lN c) (nI j) I L = K (lN (od_f N w t (10 - j) j c)) I1 L ∧ mq_F I I1 L L ∧ ∀ k, k < 914 → I1 157 k = I 157 k
  | 0, j, c, I, h1, h2, hN, ht => by omega
  | n + 1, j, c, I, h1, h2, hN, ht => by
    rw [f_X12_odds_33]
    by_cases e : j = 10
    · subst e
      rw [if_pos (by decide)]
      exact ⟨I, rfl, mq_F.rf, fun _ _ => rfl⟩
    · rw [if_neg (show ¬ (10 : Int32) ≤ nI j from nI_ge (b := 10) (by omega) (by omega)), if_neg bp_10, bp_p1, show 10 - j = (10 - (j + 1)) + 1 by omega]
      obtain ⟨I1, g1, g2, g3, g4⟩ := ml_goesWith (L := L) (m := j) hok hy hw hh (by omega) hN ht
      rw [g1]
      simp only [Option.bind_some]
      show ∃ I1, _ = K (lN (od_f N w t (10 - (j + 1)) (j + 1) (if pd_go (bn_wz N w j) t then c + 1 else c))) I1 L ∧ _
      have hN1 : bm_N (I1 157) N := hN.cg hok (fun k hk => g3 k hk.2)
      by_cases y : pd_go (bn_wz N w j) t
      · rw [if_pos y, if_neg bp_10, if_pos y, lN_1]
        obtain ⟨I2, k1, k2, k3⟩ := ml_oddsT (p := p) hok hw hh hy K n (j + 1) (c + 1) I1 (by omega) (by omega) hN1 (fun c hc => by rw [g4]; exact ht c hc)
        exact ⟨I2, k1, g2.tr k2, fun k hk => (k3 k hk).trans (g3 k hk)⟩
      · rw [if_neg y, if_pos rfl, if_neg y, Int64.add_zero]
        obtain ⟨I2, k1, k2, k3⟩ := ml_oddsT (p := p) hok hw hh hy K n (j + 1) c I1 (by omega) (by omega) hN1 (fun c hc => by rw [g4]; exact ht c hc)
        exact ⟨I2, k1, g2.tr k2, fun k hk => (k3 k hk).trans (g3 k hk)⟩
variable {I : Nat → Nat → Int32}
theorem op_odds (h : bo_St I L) (a b : Int32) : bo_OK (f_X11_odds 0 a b I L) (f_X12_odds 156 a b) := by
  obtain ⟨A, hok, hC, hM⟩ := id h
  have hn : bn_ok A.1.1 := hok.1.1
  have hcN : bc_N I 2 A.1.1 := hC.1.1
  have hmN : bm_N (I (156 + 1)) A.1.1 := hM.1.1
  by_cases ha : bn_is A.1.1 a
  · obtain ⟨w, w8, hw, rfl, hh⟩ := bo_wi ha hn
    by_cases hb : 0 ≤ b.toInt ∧ b.toInt ≤ 1
    · have q1 : ¬ b < 0 := by rw [bp_lt0]; omega
      have q2 : b ≤ (1 : Int32) := by rw [bp_leI, show (1 : Int32).toInt = 1 from rfl]; exact hb.2
      have pC : ∀ c : Nat, c ≤ 10 → ∀ J : Nat → Nat → Int32, f_X11_lowestTerms (nI c).toInt64 10 b J L = some (bt_lw (lN c) 10 b, J, L) := fun c hc J => by
        rw [nI_l (by omega)]
        exact cl_low (b := 10) (by rw [pk_lT (by omega)]; omega) (by omega) (by omega) b
      have pM : ∀ c : Nat, c ≤ 10 → ∀ (J : Nat → Nat → Int32) (L1 : Nat → Nat → Int64), f_X12_lowest (lN c) 10 b J L1 = some (bt_lw (lN c) 10 b, J, L1) := fun c hc J L1 => ml_low (b := 10) (by rw [pk_lT (by omega)]; omega) (by omega) (by omega) b
      have eM : ∀ J : Nat → Nat → Int32, bm_N (J 157) A.1.1 → f_X12_odds 156 (nI w) b J L = ((f_X12_isEven 156 J L).bind (fun r8 => (f_X12_odds_33 156 (nI w) b r8.1 (fun k3_14 I14 L14 => ((f_X12_lowest k3_14 (10 : Int64) b I14 L14).bind (fun r16 => (some (r16.1, r16.2.1, r16.2.2))))) 400 (0 : Int64) (0 : Int32) r8.2.1 r8.2.2))) := fun J hJ => by
        unfold f_X12_odds
        rw [mm_isW_t hn hJ hw hh]
        simp only [Option.bind_some]
        rw [if_neg bp_10, bp_in_t (lo := 0) (hi := 1) hb]
        simp only [Option.bind_some]
        rw [if_neg bp_10]
      have eC : f_X11_odds 0 (nI w) b I L = f_X11_odds_32 0 (nI w) b (fun k3_12 I12 L12 => ((f_X11_lowestTerms (k3_12).toInt64 (10 : Int64) b I12 L12).bind (fun r14 => (some (r14.1, r14.2.1, r14.2.2))))) 400 (0 : Int32) (0 : Int32) I L := by
        unfold f_X11_odds
        simp only [Nat.reduceAdd, Nat.zero_add]
        rw [cc_hasW_t hn hcN hw hh]
        simp only [Option.bind_some]
        rw [if_neg bp_10, if_neg q1, if_pos q2]
      rcases tm_cs hn with hev | ⟨t, hT⟩
      · obtain ⟨I1, e1, e2⟩ := cl_oddsF (L := L) (p := b) hn hw hh hev (fun k3_12 I12 L12 => ((f_X11_lowestTerms (k3_12).toInt64 (10 : Int64) b I12 L12).bind (fun r14 => (some (r14.1, r14.2.1, r14.2.2))))) 400 0 I (by omega) (by omega) hcN
        have hmN1 : bm_N (I1 157) A.1.1 := by rw [e2 _ (by omega)]; exact hmN
        obtain ⟨I2, L2, k1, k2, k3⟩ := ml_evenF (L := L) hn hmN1 hev
        refine bo_quiet hok hC hM (x := bt_lw (lN 0) 10 b) (I1 := I1) (I2 := I2) (L2 := L2) ?_ (fun q hq => e2 q (by omega)) ?_ k2 (fun k _ => by rw [k3 _ (by omega)])
        · rw [show nI 0 = (0 : Int32) from rfl] at e1
          rw [eC, e1]
          have := pC 0 (by omega) I1
          rw [show nI 0 = (0 : Int32) from rfl] at this
          rw [this]
          rfl
        · rw [eM I1 hmN1, k1]
          simp only [Option.bind_some]
          rw [show (400 : Nat) = 399 + 1 from rfl, f_X12_odds_33, if_neg (by decide), if_pos rfl]
          rw [show (0 : Int64) = lN 0 from rfl, pM 0 (by omega) I2 L2]
          rfl
      · obtain ⟨I1, e1, e2⟩ := cl_oddsT (L := L) (p := b) hn hw hh hT (fun k3_12 I12 L12 => ((f_X11_lowestTerms (k3_12).toInt64 (10 : Int64) b I12 L12).bind (fun r14 => (some (r14.1, r14.2.1, r14.2.2))))) 400 0 0 I (by omega) (by omega) hcN
        have hmN1 : bm_N (I1 157) A.1.1 := by rw [e2 _ (by omega)]; exact hmN
        obtain ⟨I2, L2, k1, k2, k3, k4⟩ := ml_evenT (L := L) hn hmN1 hT
        obtain ⟨I3, n1, n2, n3⟩ := ml_oddsT (L := L2) (p := b) hn hw hh hT.y (fun k3_14 I14 L14 => ((f_X12_lowest k3_14 (10 : Int64) b I14 L14).bind (fun r16 => (some (r16.1, r16.2.1, r16.2.2))))) 400 0 0 I2 (by omega) (by omega) (by rw [k3 _ (by omega)]; exact hmN1) k4
        have ole : od_f A.1.1 w t (10 - 0) 0 0 ≤ 10 := od_le 10 0 0
        obtain ⟨x, hx⟩ : ∃ x, x = bt_lw (lN (od_f A.1.1 w t (10 - 0) 0 0)) 10 b := ⟨_, rfl⟩
        have pC1 := pC _ ole I1
        have pM1 := pM _ ole I3 L2
        rw [← hx] at pC1 pM1
        refine bo_quiet hok hC hM (x := x) (I1 := I1) (I2 := I3) (L2 := L2) ?_ (fun q hq => e2 q (by omega)) ?_ (k2.tr n2) (fun k hk => by rw [n3 k hk, k3 _ (by omega)])
        · rw [show nI 0 = (0 : Int32) from rfl] at e1
          rw [eC, e1, pC1]
          rfl
        · obtain ⟨v, hv⟩ : ∃ v : Int32, v = 1 := ⟨_, rfl⟩
          rw [show nI 0 = (0 : Int32) from rfl, show lN 0 = (0 : Int64) from rfl] at n1
          rw [← hv] at k1 n1
          rw [eM I1 hmN1, k1, Option.bind_some, n1, pM1]
          rfl
    · refine bo_same h (x := -9223372036854775808) ?_ ?_
      · unfold f_X11_odds
        simp only [Nat.reduceAdd, Nat.zero_add]
        rw [cc_hasW_t hn hcN hw hh]
        simp only [Option.bind_some]
        rw [if_neg bp_10]
        by_cases q1 : b < 0
        · rw [if_pos q1]
        · rw [if_neg q1, if_neg (fun q2 => hb ⟨by rw [bp_lt0] at q1; omega, by rw [bp_leI, show (1 : Int32).toInt = 1 from rfl] at q2; exact q2⟩)]
      · unfold f_X12_odds
        rw [mm_isW_t hn hmN hw hh]
        simp only [Option.bind_some]
        rw [if_neg bp_10, bp_in_f (lo := 0) (hi := 1) hb]
        rfl
  · refine bo_same h (x := -9223372036854775808) ?_ ?_
    · unfold f_X11_odds
      simp only [Nat.reduceAdd, Nat.zero_add]
      rw [cc_hasW_f hn hcN ha]
      rfl
    · unfold f_X12_odds
      rw [mm_isW_f hn hmN ha]
      rfl
end OPT
