section OPR
/-- the first of so many by which it goes -/
def nd_f (N : bn_N) (w : Nat) (t : Nat → Nat) : Nat → Nat → Int32
  | 0, _ => -5
  | k + 1, n => if pd_go (bn_wz N w n) t then nI n else nd_f N w t k (n + 1)
variable {L : Nat → Nat → Int64}
theorem cl_needF {w : Nat} {N : bn_N} (hok : bn_ok N) (hw : w < bn_nw N) (hh : bw_h (bn_wr N w) = true) (hev : ¬ ∃ t, tm_ev N t) : ∀ (n j : Nat) (I : Nat → Nat → Int32), j ≤ 21 → 21 < j + n → bc_N I 2 N → ∃ I1, f_X11_needOf_2 0 (nI w) (fun I7 L7 => (some ((-5 : Int32), I7, L7))) n (nI j) I L = some (-5, I1, L) ∧ ∀ q, q < 102 ∨ 109 < q → I1 q = I q
  | 0, j, I, h1, h2, hN => by omega
  | n + 1, j, I, h1, h2, hN => by
    rw [f_X11_needOf_2]
    simp only [Nat.reduceAdd, Nat.zero_add]
    by_cases e : j = 21
    · subst e
      rw [if_pos (by decide)]
      exact ⟨I, rfl, fun _ _ => rfl⟩
    · rw [if_neg (show ¬ (20 : Int32) < nI j from nI_nlt (a := 20) (by omega) (by omega)), bp_p1]
      obtain ⟨I1, g1, g2, g3⟩ := cl_lookWith (L := L) (n := j) hok (show 2 + 25 ≤ 102 by omega) hN hw hh (by omega)
      rw [g1]
      simp only [Option.bind_some]
      rw [cl_goesF (g3.f hev).1]
      simp only [Option.bind_some, if_true]
      obtain ⟨I2, k1, k2⟩ := cl_needF hok hw hh hev n (j + 1) I1 (by omega) (by omega) (hN.cg (fun q a b => g2 q (by omega)) hok)
      exact ⟨I2, k1, fun q hq => (k2 q hq).trans (g2 q hq)⟩
theorem cl_needT {w : Nat} {N : bn_N} {t : Nat → Nat} (hok : bn_ok N) (hw : w < bn_nw N) (hh : bw_h (bn_wr N w) = true) (hT : tm_T N t) : ∀ (n j : Nat) (I : Nat → Nat → Int32), j ≤ 21 → 21 < j + n → bc_N I 2 N → ∃ I1, f_X11_needOf_2 0 (nI w) (fun I7 L7 => (some ((-5 : Int32), I7, L7))) n (nI j) I L = some (nd_f N w t (21 - j) j, I1, L) ∧ ∀ q, q < 102 ∨ 109 < q → I1 q = I q
  | 0, j, I, h1, h2, hN => by omega
  | n + 1, j, I, h1, h2, hN => by
    rw [f_X11_needOf_2]
    simp only [Nat.reduceAdd, Nat.zero_add]
    by_cases e : j = 21
    · subst e
      rw [if_pos (by decide)]
      exact ⟨I, rfl, fun _ _ => rfl⟩
    · rw [if_neg (show ¬ (20 : Int32) < nI j from nI_nlt (a := 20) (by omega) (by omega)), bp_p1, show 21 - j = (21 - (j + 1)) + 1 by omega]
      obtain ⟨I1, g1, g2, g3⟩ := cl_lookWith (L := L) (n := j) hok (show 2 + 25 ≤ 102 by omega) hN hw hh (by omega)
      obtain ⟨z1, z2⟩ := g3.t hok hT
      rw [g1]
      simp only [Option.bind_some]
      rw [cl_goesT z1 z2]
      simp only [Option.bind_some]
      by_cases c : pd_go (bn_wz N w j) t
      · rw [if_pos c, if_neg bp_10, show nd_f N w t (21 - (j + 1) + 1) j = nI j from if_pos c]
        exact ⟨I1, rfl, g2⟩
      · rw [if_neg c, if_pos rfl, show nd_f N w t (21 - (j + 1) + 1) j = nd_f N w t (21 - (j + 1)) (j + 1) from if_neg c]
        obtain ⟨I2, k1, k2⟩ := cl_needT hok hw hh hT n (j + 1) I1 (by omega) (by omega) (hN.cg (fun q a b => g2 q (by omega)) hok)
        exact ⟨I2, k1, fun q hq => (k2 q hq).trans (g2 q hq)⟩
theorem ml_needT {w : Nat} {N : bn_N} {t : Nat → Nat} (hok : bn_ok N) (hw : w < bn_nw N) (hh : bw_h (bn_wr N w) = true) (hy : pd_y N t) : ∀ (n j : Nat) (I : Nat → Nat → Int32), j ≤ 21 → 21 < j + n → bm_N (I 157) N → (∀ c, c < bn_nb N → I 164 c = nI (t c)) → ∃ I1, f_X12_need_2 156 (nI w) (fun I5 L5 => (some ((-5 : Int32), I5, L5))) n (nI j) I L = some (nd_f N w t (21 - j) j, I1, L) ∧ mq_F I I1 L L ∧ ∀ k, k < 914 → I1 157 k = I 157 k
  | 0, j, I, h1, h2, hN, ht => by omega
  | n + 1, j, I, h1, h2, hN, ht => by
    rw [f_X12_need_2]
    by_cases e : j = 21
    · subst e
      rw [if_pos (by decide)]
      exact ⟨I, rfl, mq_F.rf, fun _ _ => rfl⟩
    · rw [if_neg (show ¬ (20 : Int32) < nI j from nI_nlt (a := 20) (by omega) (by omega)), bp_p1, show 21 - j = (21 - (j + 1)) + 1 by omega]
      obtain ⟨I1, g1, g2, g3, g4⟩ := ml_goesWith (L := L) (m := j) hok hy hw hh (by omega) hN ht
      rw [g1]
      simp only [Option.bind_some]
      by_cases c : pd_go (bn_wz N w j) t
      · rw [if_pos c, if_neg bp_10, show nd_f N w t (21 - (j + 1) + 1) j = nI j from if_pos c]
        exact ⟨I1, rfl, g2, g3⟩
      · rw [if_neg c, if_pos rfl, show nd_f N w t (21 - (j + 1) + 1) j = nd_f N w t (21 - (j + 1)) (j + 1) from if_neg c]
        obtain ⟨I2, k1, k2, k3⟩ := ml_needT hok hw hh hy n (j + 1) I1 (by omega) (by omega) (hN.cg hok (fun k hk => g3 k hk.2)) (fun c hc => by rw [g4]; exact ht c hc)
        exact ⟨I2, k1, g2.tr k2, fun k hk => (k3 k hk).trans (g3 k hk)⟩
variable {I : Nat → Nat → Int32}
theorem op_about (h : bo_St I L) (a v : Int32) : bo_OK (f_X11_about 0 a v I L) (f_X12_about 156 a v) := by
  obtain ⟨A, hok, hC, hM⟩ := id h
  have hn : bn_ok A.1.1 := hok.1.1
  have o1 := hn.1
  have o2 := hn.2.1
  have hcN : bc_N I 2 A.1.1 := hC.1.1
  have hmN : bm_N (I (156 + 1)) A.1.1 := hM.1.1
  by_cases ha : bn_is A.1.1 a
  · obtain ⟨w, w8, hw, rfl, hh⟩ := bo_wi ha hn
    have cw := hcN.2.2.2 w w8
    have mw := hmN.2.2.2 w hw
    obtain ⟨c1, c2, c3, c4⟩ := cw.1 hh
    obtain ⟨d1, d2, d3, d4⟩ := mw.1 hh
    have eC : f_X11_about 0 (nI w) v I L = (if v = 0 then some (nI (bw_f (bn_wr A.1.1 w)), I, L) else if v = 1 then some (nI (bw_t (bn_wr A.1.1 w)), I, L) else if v = 2 then some (nI (bw_p (bn_wr A.1.1 w)), I, L) else if v = 3 then some (nI (bw_k (bn_wr A.1.1 w)), I, L) else if v = 4 then some (nI (bn_q A.1.1 w), I, L) else if v = 5 then f_X11_heldBy 0 (nI w) I L else if v = 6 then f_X11_needOf 0 (nI w) I L else some (-1, I, L)) := by
      unfold f_X11_about
      simp only [Nat.reduceAdd, Nat.zero_add]
      rw [cc_hasW_t hn hcN hw hh]
      simp only [Option.bind_some]
      rw [if_neg bp_10, if_pos (bp_ok w8 (by omega)), bp_cl (by omega), show I (11 + 2 * w) 0 = _ from c1, show I (11 + 2 * w) 1 = _ from c2, show I (11 + 2 * w) 2 = _ from c3, show I (11 + 2 * w) 3 = _ from c4, show I (11 + 2 * w) 5 = _ from cw.2.2.1]
      by_cases v5 : v = 5
      · rw [v5]
        cases f_X11_heldBy 0 (nI w) I L <;> rfl
      · by_cases v6 : v = 6
        · rw [v6]
          cases f_X11_needOf 0 (nI w) I L <;> rfl
        · rw [if_neg v5, if_neg v6, if_neg v5, if_neg v6]
    rw [eC]
    have eM : ∀ J : Nat → Nat → Int32, bm_N (J 157) A.1.1 → f_X12_about 156 (nI w) v J L = ((f_X12_in v.toInt64 0 3 J L).bind (fun r5 => (if r5.1 = 0 then (if v = (4 : Int32) then some (nI (bn_q A.1.1 w), J, L) else (if v = (5 : Int32) then (f_X12_about_p61 156 (nI w) v J L) else (if v = (6 : Int32) then (f_X12_about_p61 156 (nI w) v J L) else (some ((-1 : Int32), J, L))))) else (if bf_ok (nI (74 + 105 * w) + v) 914 then (some ((J 157 (nI (74 + 105 * w) + v).toNatClampNeg), J, L)) else none)))) := fun J hJ => by
      unfold f_X12_about
      rw [mm_isW_t hn hJ hw hh]
      simp only [Option.bind_some]
      rw [if_neg bp_10, bp_ix, bp_in]
      simp only [Option.bind_some]
      rw [me_tokens w8, show J (156 + 1) (74 + 105 * w + 5) = _ from (hJ.2.2.2 w hw).2.2.1]
      rfl
    have small : ∀ k : Nat, k ≤ 3 → v = nI k → ∀ x : Int32, I 157 (74 + 105 * w + k) = x → f_X12_about 156 (nI w) v I L = some (x, I, L) := fun k hk hv x hx => by
      rw [eM I hmN, hv, bp_in_t (lo := 0) (hi := 3) ⟨by rw [bp_toI (by omega)]; exact Int.natCast_nonneg k, by
        rw [bp_toI (by omega), show (3 : Int64).toInt = 3 from rfl]
        omega⟩]
      simp only [Option.bind_some]
      rw [if_neg bp_10, nI_add, if_pos (bp_ok (by omega) (by omega)), bp_cl (by omega), hx]
    by_cases h0 : v = 0
    · rw [if_pos h0]
      exact bo_same h rfl (small 0 (by omega) h0 _ d1)
    by_cases h1 : v = 1
    · rw [if_neg h0, if_pos h1]
      exact bo_same h rfl (small 1 (by omega) h1 _ d2)
    by_cases h2 : v = 2
    · rw [if_neg h0, if_neg h1, if_pos h2]
      exact bo_same h rfl (small 2 (by omega) h2 _ d3)
    by_cases h3 : v = 3
    · rw [if_neg h0, if_neg h1, if_neg h2, if_pos h3]
      exact bo_same h rfl (small 3 (by omega) h3 _ d4)
    have hin : ∀ J : Nat → Nat → Int32, f_X12_in v.toInt64 0 3 J L = some (0, J, L) := fun J => bp_in_f (lo := 0) (hi := 3) (fun z => by
      rw [show (3 : Int64).toInt = 3 from rfl, show (0 : Int64).toInt = 0 from rfl] at z
      obtain ⟨j, hj, hv⟩ := bp_rg (n := 3) (by omega) z.1 z.2
      rcases (show j = 0 ∨ j = 1 ∨ j = 2 ∨ j = 3 by omega) with rfl | rfl | rfl | rfl
      · exact h0 hv
      · exact h1 hv
      · exact h2 hv
      · exact h3 hv)
    by_cases h4 : v = 4
    · rw [if_neg h0, if_neg h1, if_neg h2, if_neg h3, if_pos h4]
      refine bo_same h rfl ?_
      rw [eM I hmN, hin]
      simp only [Option.bind_some, if_true]
      rw [if_pos h4]
    by_cases h5 : v = 5
    · rw [if_neg h0, if_neg h1, if_neg h2, if_neg h3, if_neg h4, if_pos h5]
      obtain ⟨I1, e1, e2, e3⟩ := cl_look (L := L) hn (show 2 + 25 ≤ 102 by omega) hcN
      have hmN1 : bm_N (I1 157) A.1.1 := by rw [e2 _ (by omega)]; exact hmN
      have eM1 : f_X12_about 156 (nI w) v I1 L = f_X12_about_p61 156 (nI w) v I1 L := by
        rw [eM I1 hmN1, hin]
        simp only [Option.bind_some, if_true]
        rw [if_neg h4, if_pos h5]
      rcases tm_cs hn with hev | ⟨t, hT⟩
      · obtain ⟨z1, z2⟩ := e3.f hev
        obtain ⟨I2, L2, k1, k2, k3⟩ := ml_evenF (L := L) hn hmN1 hev
        refine bo_quiet hok hC hM (x := -5) (I1 := I1) (I2 := I2) (L2 := L2) ?_ (fun q hq => e2 q (by omega)) ?_ k2 (fun k _ => by rw [k3 _ (by omega)])
        · unfold f_X11_heldBy
          simp only [Nat.reduceAdd, Nat.zero_add]
          rw [e1]
          simp only [Option.bind_some]
          rw [z1, if_neg bp_10]
        · rw [eM1]
          unfold f_X12_about_p61
          rw [k1]
          rfl
      · obtain ⟨z1, z2⟩ := e3.t hn hT
        obtain ⟨I2, L2, k1, k2, k3, k4⟩ := ml_evenT (L := L) hn hmN1 hT
        obtain ⟨I3, n1, n2, n3, n4, n5, n6⟩ := ml_thinks (L := L2) (I := I2) hn hT.y (by rw [k3 _ (by omega)]; exact hmN1) k4
        refine bo_quiet hok hC hM (x := nI (pd_H (pd_O A.1.1 t) A.1.1 (bn_q A.1.1) w)) (I1 := I1) (I2 := I3) (L2 := L2) ?_ (fun q hq => e2 q (by omega)) ?_ (k2.tr n2) (fun k hk => by rw [n3 k hk, k3 _ (by omega)])
        · unfold f_X11_heldBy
          simp only [Nat.reduceAdd, Nat.zero_add]
          rw [e1]
          simp only [Option.bind_some]
          rw [z1, if_pos rfl, if_pos (bp_ok w8 (by omega)), bp_cl (by omega)]
          exact congrArg (fun z => some (z, I1, L)) (z2.2.2.2.2.2 w w8).1
        · rw [eM1]
          unfold f_X12_about_p61
          rw [k1]
          simp only [Option.bind_some]
          rw [if_neg bp_10, if_neg (by rw [h5]; decide), n1]
          simp only [Option.bind_some]
          rw [if_pos (bp_ok w8 (by omega)), bp_cl (by omega)]
          exact congrArg (fun z => some (z, I3, L2)) (n4 w w8)
    by_cases h6 : v = 6
    · rw [if_neg h0, if_neg h1, if_neg h2, if_neg h3, if_neg h4, if_neg h5, if_pos h6]
      have eM1 : ∀ I1 : Nat → Nat → Int32, bm_N (I1 157) A.1.1 → f_X12_about 156 (nI w) v I1 L = f_X12_about_p61 156 (nI w) v I1 L := fun I1 hmN1 => by
        rw [eM I1 hmN1, hin]
        simp only [Option.bind_some, if_true]
        rw [if_neg h4, if_neg h5, if_pos h6]
      rcases tm_cs hn with hev | ⟨t, hT⟩
      · obtain ⟨I1, e1, e2⟩ := cl_needF (L := L) hn hw hh hev 400 0 I (by omega) (by omega) hcN
        have hmN1 : bm_N (I1 157) A.1.1 := by rw [e2 _ (by omega)]; exact hmN
        obtain ⟨I2, L2, k1, k2, k3⟩ := ml_evenF (L := L) hn hmN1 hev
        refine bo_quiet hok hC hM (x := -5) (I1 := I1) (I2 := I2) (L2 := L2) ?_ (fun q hq => e2 q (by omega)) ?_ k2 (fun k _ => by rw [k3 _ (by omega)])
        · unfold f_X11_needOf
          exact e1
        · rw [eM1 I1 hmN1]
          unfold f_X12_about_p61
          rw [k1]
          rfl
      · obtain ⟨I1, e1, e2⟩ := cl_needT (L := L) hn hw hh hT 400 0 I (by omega) (by omega) hcN
        have hmN1 : bm_N (I1 157) A.1.1 := by rw [e2 _ (by omega)]; exact hmN
        obtain ⟨I2, L2, k1, k2, k3, k4⟩ := ml_evenT (L := L) hn hmN1 hT
        obtain ⟨I3, n1, n2, n3⟩ := ml_needT (L := L2) hn hw hh hT.y 400 0 I2 (by omega) (by omega) (by rw [k3 _ (by omega)]; exact hmN1) k4
        refine bo_quiet hok hC hM (x := nd_f A.1.1 w t (21 - 0) 0) (I1 := I1) (I2 := I3) (L2 := L2) ?_ (fun q hq => e2 q (by omega)) ?_ (k2.tr n2) (fun k hk => by rw [n3 k hk, k3 _ (by omega)])
        · unfold f_X11_needOf
          exact e1
        · rw [eM1 I1 hmN1]
          unfold f_X12_about_p61
          rw [k1]
          simp only [Option.bind_some]
          rw [if_neg bp_10, if_pos h6]
          unfold f_X12_need
          rw [show nI 0 = (0 : Int32) from rfl] at n1
          rw [n1]
          rfl
    rw [if_neg h0, if_neg h1, if_neg h2, if_neg h3, if_neg h4, if_neg h5, if_neg h6]
    refine bo_same h rfl ?_
    rw [eM I hmN, hin]
    simp only [Option.bind_some, if_true]
    rw [if_neg h4, if_neg h5, if_neg h6]
  · refine bo_same h (x := -1) ?_ ?_
    · unfold f_X11_about
      simp only [Nat.reduceAdd, Nat.zero_add]
      rw [cc_hasW_f hn hcN ha]
      rfl
    · unfold f_X12_about
      rw [mm_isW_f hn hmN ha]
      rfl
end OPR
