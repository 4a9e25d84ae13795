theorem bp_isB {n : Nat} {a : Int32} (hn : n < 100000) : (∃ b, b < n ∧ a = nI b) ↔ (0 ≤ a.toInt ∧ a.toInt < (n : Int)) := by
  constructor
  · rintro ⟨b, hb, rfl⟩
    rw [bp_toI (by omega)]
    omega
  · rintro ⟨h0, h1⟩
    obtain ⟨j, hj, rfl⟩ := nI_of (x := a) (by rw [bp_lt0]; omega)
    rw [nI_toInt hj] at h1
    exact ⟨j, by omega, rfl⟩
theorem cc_hasBox {o : Nat} {I : Nat → Nat → Int32} {L : Nat → Nat → Int64} {N : bn_N} (hok : bn_ok N) (hN : bc_N I o N) (a : Int32) : f_X3_hasBox o a I L = some ((if 0 ≤ a.toInt ∧ a.toInt < (bn_nb N : Int) then 1 else 0), I, L) := by
  have h6 := hok.1
  by_cases h : 0 ≤ a.toInt ∧ a.toInt < (bn_nb N : Int)
  · rw [if_pos h]
    obtain ⟨b, hb, rfl⟩ := (bp_isB (by omega)).mpr h
    exact cc_hasBox_t hok hN hb
  · rw [if_neg h]
    exact cc_hasBox_f hok hN (fun q => h ((bp_isB (by omega)).mp q))
theorem mm_isBox {o : Nat} {I : Nat → Nat → Int32} {L : Nat → Nat → Int64} {N : bn_N} (hok : bn_ok N) (hN : bm_N (I (o + 1)) N) (a : Int32) : f_X12_isBox o a I L = some ((if 0 ≤ a.toInt ∧ a.toInt < (bn_nb N : Int) then 1 else 0), I, L) := by
  have h6 := hok.1
  by_cases h : 0 ≤ a.toInt ∧ a.toInt < (bn_nb N : Int)
  · rw [if_pos h]
    obtain ⟨b, hb, rfl⟩ := (bp_isB (by omega)).mpr h
    exact mm_isBox_t hok hN hb
  · rw [if_neg h]
    exact mm_isBox_f hok hN (fun q => h ((bp_isB (by omega)).mp q))
abbrev bw_v1 (N : bn_N) (a b : Int32) : Prop := (0 ≤ a.toInt ∧ a.toInt < (bn_nb N : Int)) ∧ (0 ≤ b.toInt ∧ b.toInt < (bn_nb N : Int))
abbrev bw_v2 (c d : Int32) : Prop := (1 ≤ c.toInt ∧ c.toInt ≤ 4) ∧ (1 ≤ d.toInt ∧ d.toInt ≤ 4)
/-- a wire more -/
abbrev bn_aW (N : bn_N) (x : bn_W) : bn_N := (N.1, N.2.1, bn_nw N + 1, va_up N.2.2.2 (bn_nw N) x)
theorem bn_ok.addW {N : bn_N} {x : bn_W} (h : bn_ok N) (hw : bn_nw N < 8) (hx : bw_ok (bn_nb N) x) : bn_ok (bn_aW N x) := by
  obtain ⟨h1, h2, h3, h4, h5⟩ := h
  refine ⟨h1, hw, h3, fun v => ?_, fun v hv => ?_⟩
  · show bw_ok _ (va_up _ (bn_nw N) x v)
    by_cases q : v = bn_nw N
    · subst q; rw [vu_o]; exact hx
    · rw [vu_n q]; exact h4 v
  · show bw_h (va_up _ (bn_nw N) x v) = false
    have hv : bn_nw N + 1 ≤ v := hv
    rw [vu_n (by omega)]
    exact h5 v (by omega)
/-- what a refused wire answers -/
def bn_wc (N : bn_N) (a b c d : Int32) : Int32 := if bw_v1 N a b then (if bw_v2 c d then -4 else -2) else -1
theorem cl_addWire {o : Nat} {I : Nat → Nat → Int32} {L : Nat → Nat → Int64} {N : bn_N} (hok : bn_ok N) (hN : bc_N I o N) (a b c d : Int32) : (¬ (bw_v1 N a b ∧ bw_v2 c d ∧ bn_nw N < 8) ∧ f_X3_addWire o a b c d I L = some (bn_wc N a b c d, I, L)) ∨ ∃ f t p k I1, (f < bn_nb N ∧ t < bn_nb N ∧ 1 ≤ p ∧ p ≤ 4 ∧ 1 ≤ k ∧ k ≤ 4) ∧ (a = nI f ∧ b = nI t ∧ c = nI p ∧ d = nI k) ∧ bn_nw N < 8 ∧ f_X3_addWire o a b c d I L = some (nI (bn_nw N), I1, L) ∧ bc_N I1 o (bn_aW N (f, t, p, k, true, [])) ∧ ∀ q, q < o ∨ o + 24 < q → I1 q = I q := by
  have o1 := hok.1
  have o2 := hok.2.1
  unfold bn_wc f_X3_addWire
  rw [cc_hasBox hok hN]
  simp only [Option.bind_some]
  by_cases ha : 0 ≤ a.toInt ∧ a.toInt < (bn_nb N : Int)
  · rw [if_pos ha, if_neg bp_10, cc_hasBox hok hN]
    simp only [Option.bind_some]
    by_cases hb : 0 ≤ b.toInt ∧ b.toInt < (bn_nb N : Int)
    · have hv1 : bw_v1 N a b := ⟨ha, hb⟩
      rw [if_pos hb, if_neg bp_10, if_pos hv1]
      by_cases hcd : bw_v2 c d
      · have k1 : ¬ c < (1 : Int32) := by rw [bp_ltI]; exact Int.not_lt.mpr hcd.1.1
        have k2 : ¬ (4 : Int32) < c := by rw [bp_ltI]; exact Int.not_lt.mpr hcd.1.2
        have k3 : ¬ d < (1 : Int32) := by rw [bp_ltI]; exact Int.not_lt.mpr hcd.2.1
        have k4 : d ≤ (4 : Int32) := by rw [bp_leI]; exact hcd.2.2
        rw [if_neg k1, if_neg k2, if_neg k3, if_pos k4, if_pos hcd, hN.2.1]
        by_cases h8 : bn_nw N < 8
        · right
          rw [if_pos (show nI (bn_nw N) < (8 : Int32) from nI_lt (b := 8) h8 (by omega)), if_pos (bp_ok h8 (by omega)), bp_cl (by omega)]
          obtain ⟨f, hf, rfl⟩ := (bp_isB (by omega)).mpr ha
          obtain ⟨t, ht, rfl⟩ := (bp_isB (by omega)).mpr hb
          obtain ⟨p, hp, rfl⟩ := bp_rg (a := c) (n := 4) (by omega) (by have := hcd.1.1; omega) hcd.1.2
          obtain ⟨k, hk, rfl⟩ := bp_rg (a := d) (n := 4) (by omega) (by have := hcd.2.1; omega) hcd.2.2
          have hp1 : 1 ≤ p := by have := hcd.1.1; rw [bp_toI (by omega)] at this; omega
          have hk1 : 1 ≤ k := by have := hcd.2.1; rw [bp_toI (by omega)] at this; omega
          unfold f_X10_become f_X10_clear
          simp only [Option.bind_some]
          simp (disch := omega) only [bf_u_at, bf_u_ne, hN.2.1, nI_1, nI_pred]
          refine ⟨f, t, p, k, _, ⟨hf, ht, hp1, hp, hk1, hk⟩, ⟨rfl, rfl, rfl, rfl⟩, h8, rfl, ⟨?_, ?_, fun c hc => ?_, fun v hv => ?_⟩, fun q hq => ?_⟩
          · simp (disch := omega) only [bf_u_ni, bf_u_ne]
            exact hN.1
          · simp (disch := omega) only [bf_u_at]
          · have hc : c < bn_nb N := hc
            simp (disch := omega) only [bf_u_ne]
            exact hN.2.2.1 c hc
          · show bc_W _ _ (va_up _ (bn_nw N) _ v)
            by_cases q : v = bn_nw N
            · subst q
              rw [vu_o]
              refine ⟨fun _ => ?_, ?_, ?_, 0, by omega, ?_, fun i hi => absurd hi (Nat.not_lt_zero _)⟩
              · simp (disch := omega) only [bf_u_ni, bf_u_ne, bf_u_at]
                exact ⟨trivial, trivial, trivial, trivial⟩
              · simp (disch := omega) only [bf_u_ni, bf_u_ne, bf_u_at]
                rfl
              · simp (disch := omega) only [bf_u_ni, bf_u_ne, bf_u_at]
                rfl
              · simp (disch := omega) only [bf_u_ni, bf_u_ne, bf_u_at]
                rfl
            · rw [vu_n q]
              refine (hN.2.2.2 v hv).cg ?_ ?_
              · simp (disch := omega) only [bf_u_ne]
              · simp (disch := omega) only [bf_u_ne]
          · simp (disch := omega) only [bf_u_ne]
        · left
          refine ⟨fun q => h8 q.2.2, ?_⟩
          rw [if_neg (show ¬ nI (bn_nw N) < (8 : Int32) from nI_nlt (b := 8) (by omega) (by omega))]
      · left
        refine ⟨fun q => hcd q.2.1, ?_⟩
        rw [if_neg hcd]
        by_cases q1 : c < (1 : Int32)
        · rw [if_pos q1]
        · rw [if_neg q1]
          by_cases q2 : (4 : Int32) < c
          · rw [if_pos q2]
          · rw [if_neg q2]
            by_cases q3 : d < (1 : Int32)
            · rw [if_pos q3]
            · have q5 : ¬ d ≤ (4 : Int32) := by
                intro q4
                rw [bp_ltI] at q1 q2 q3
                rw [bp_leI] at q4
                exact hcd ⟨⟨Int.not_lt.mp q1, Int.not_lt.mp q2⟩, Int.not_lt.mp q3, q4⟩
              rw [if_neg q3, if_neg q5]
    · left
      refine ⟨fun q => hb q.1.2, ?_⟩
      rw [if_neg hb, if_pos rfl, if_neg (show ¬ bw_v1 N a b from fun q => hb q.2)]
  · left
    refine ⟨fun q => ha q.1.1, ?_⟩
    rw [if_neg ha, if_pos rfl, if_neg (show ¬ bw_v1 N a b from fun q => ha q.1)]
theorem ml_wire {o : Nat} {I : Nat → Nat → Int32} {L : Nat → Nat → Int64} {N : bn_N} (hok : bn_ok N) (hN : bm_N (I (o + 1)) N) (a b c d : Int32) : (¬ (bw_v1 N a b ∧ bw_v2 c d ∧ bn_nw N < 8) ∧ f_X12_wire o a b c d I L = some (bn_wc N a b c d, I, L)) ∨ ∃ f t p k I1, (f < bn_nb N ∧ t < bn_nb N ∧ 1 ≤ p ∧ p ≤ 4 ∧ 1 ≤ k ∧ k ≤ 4) ∧ (a = nI f ∧ b = nI t ∧ c = nI p ∧ d = nI k) ∧ bn_nw N < 8 ∧ f_X12_wire o a b c d I L = some (nI (bn_nw N), I1, L) ∧ bm_N (I1 (o + 1)) (bn_aW N (f, t, p, k, true, [])) ∧ (∀ q, q ≠ o + 1 → I1 q = I q) ∧ ∀ k, (2 ≤ k ∧ k < 5) ∨ (23 ≤ k ∧ k < 74) → I1 (o + 1) k = I (o + 1) k := by
  have o1 := hok.1
  have o2 := hok.2.1
  unfold bn_wc f_X12_wire
  rw [mm_isBox hok hN]
  simp only [Option.bind_some]
  by_cases ha : 0 ≤ a.toInt ∧ a.toInt < (bn_nb N : Int)
  · rw [if_pos ha, if_neg bp_10, mm_isBox hok hN]
    simp only [Option.bind_some]
    by_cases hb : 0 ≤ b.toInt ∧ b.toInt < (bn_nb N : Int)
    · have hv1 : bw_v1 N a b := ⟨ha, hb⟩
      rw [if_pos hb, if_neg bp_10, if_pos hv1]
      by_cases hc : 1 ≤ c.toInt ∧ c.toInt ≤ 4
      · rw [bp_in_t (lo := 1) (hi := 4) hc]
        simp only [Option.bind_some]
        rw [if_neg bp_10]
        by_cases hd : 1 ≤ d.toInt ∧ d.toInt ≤ 4
        · rw [bp_in_t (lo := 1) (hi := 4) hd]
          simp only [Option.bind_some]
          rw [if_neg bp_10, bp_1, hN.2.1, if_pos (show bw_v2 c d from ⟨hc, hd⟩)]
          by_cases h8 : bn_nw N < 8
          · right
            rw [if_neg (show ¬ nI (bn_nw N) = (8 : Int32) from fun q => by rw [show (8 : Int32) = nI 8 from rfl, bp_eq (by omega) (by omega)] at q; omega), bp_ix, bp_p1, bp_p2, bp_p3, bp_p4, bp_p5, if_pos (bp_ok (by omega) (by omega)), if_pos (bp_ok (by omega) (by omega)), if_pos (bp_ok (by omega) (by omega)), if_pos (bp_ok (by omega) (by omega)), if_pos (bp_ok (by omega) (by omega)), if_pos (bp_ok (by omega) (by omega)), bp_cl (by omega), bp_cl (by omega), bp_cl (by omega), bp_cl (by omega), bp_cl (by omega), bp_cl (by omega), bp_p1]
            obtain ⟨f, hf, rfl⟩ := (bp_isB (by omega)).mpr ha
            obtain ⟨t, ht, rfl⟩ := (bp_isB (by omega)).mpr hb
            obtain ⟨p, hp, rfl⟩ := bp_rg (a := c) (n := 4) (by omega) (by omega) hc.2
            obtain ⟨k, hk, rfl⟩ := bp_rg (a := d) (n := 4) (by omega) (by omega) hd.2
            have hp1 : 1 ≤ p := by have := hc.1; rw [bp_toI (by omega)] at this; omega
            have hk1 : 1 ≤ k := by have := hd.1; rw [bp_toI (by omega)] at this; omega
            refine ⟨f, t, p, k, _, ⟨hf, ht, hp1, hp, hk1, hk⟩, ⟨rfl, rfl, rfl, rfl⟩, h8, rfl, ⟨?_, ?_, fun c hc => ?_, fun v hv => ?_⟩, fun q hq => ?_, fun k hk => ?_⟩
            · simp (disch := omega) only [bf_u_ni]
              exact hN.1
            · simp (disch := omega) only [bf_u_at]
            · have hc : c < bn_nb N := hc
              simp (disch := omega) only [bf_u_ni]
              exact hN.2.2.1 c hc
            · have hv : v < bn_nw N + 1 := hv
              show bm_W _ _ (va_up _ (bn_nw N) _ v)
              by_cases q : v = bn_nw N
              · subst q
                rw [vu_o]
                refine ⟨fun _ => ?_, ?_, ?_, fun i hi => absurd hi (Nat.not_lt_zero _)⟩
                · simp (disch := omega) only [bf_u_ni, bf_u_at]
                  exact ⟨trivial, trivial, trivial, trivial⟩
                · simp (disch := omega) only [bf_u_ni, bf_u_at]
                  rfl
                · simp (disch := omega) only [bf_u_ni, bf_u_at]
                  rfl
              · rw [vu_n q]
                refine (hN.2.2.2 v (by omega)).cg (hok.2.2.2.1 v).2.1 (fun k ka kb => ?_)
                simp (disch := omega) only [bf_u_ni]
            · simp (disch := omega) only [bf_u_ne]
            · simp (disch := omega) only [bf_u_ni]
          · left
            have e8 : bn_nw N = 8 := by omega
            refine ⟨fun q => h8 q.2.2, ?_⟩
            rw [e8, if_pos (by decide)]
        · left
          refine ⟨fun q => hd q.2.1.2, ?_⟩
          rw [bp_in_f (lo := 1) (hi := 4) hd, if_neg (show ¬ bw_v2 c d from fun q => hd q.2)]
          rfl
      · left
        refine ⟨fun q => hc q.2.1.1, ?_⟩
        rw [bp_in_f (lo := 1) (hi := 4) hc, if_neg (show ¬ bw_v2 c d from fun q => hc q.1)]
        rfl
    · left
      refine ⟨fun q => hb q.1.2, ?_⟩
      rw [if_neg hb, if_pos rfl, if_neg (show ¬ bw_v1 N a b from fun q => hb q.2)]
  · left
    refine ⟨fun q => ha q.1.1, ?_⟩
    rw [if_neg ha, if_pos rfl, if_neg (show ¬ bw_v1 N a b from fun q => ha q.1)]
