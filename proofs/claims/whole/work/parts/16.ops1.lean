theorem cc_hasWn {o w : Nat} {I : Nat → Nat → Int32} {L : Nat → Nat → Int64} {N : bn_N} (hN : bc_N I o N) (hw : w < 8) : f_X3_hasWire o (nI w) I L = some ((if bw_h (bn_wr N w) = true then 1 else 0), I, L) := by
  unfold f_X3_hasWire
  rw [if_neg (nI_pos (by omega)), if_neg (show ¬ (8 : Int32) ≤ nI w from nI_ge (b := 8) (by omega) (by omega)), if_pos (bp_ok (by omega) (by omega)), bp_cl (by omega), (hN.2.2.2 w (by omega)).2.1]
  by_cases hh : bw_h (bn_wr N w) = true
  · rw [if_pos hh, if_neg bp_10]
  · rw [if_neg hh, if_pos rfl]
theorem mm_isWn {o w : Nat} {I : Nat → Nat → Int32} {L : Nat → Nat → Int64} {N : bn_N} (hok : bn_ok N) (hN : bm_N (I (o + 1)) N) (hw : w < 8) : f_X12_isWire o (nI w) I L = some ((if bw_h (bn_wr N w) = true then 1 else 0), I, L) := by
  have o2 := hok.2.1
  by_cases h : w < bn_nw N
  · exact mm_isWire hok hN h
  · rw [mm_isWire_f hok hN, if_neg]
    · rw [hok.2.2.2.2 w (by omega)]
      exact Bool.false_ne_true
    · rintro ⟨v, hv, e⟩
      rw [bp_eq (by omega) (by omega)] at e
      omega
theorem bn_isI {N : bn_N} {a : Int32} (hok : bn_ok N) : bn_is N a ↔ (0 ≤ a.toInt ∧ a.toInt < (bn_nw N : Int) ∧ bw_h (bn_wr N a.toNatClampNeg) = true) := by
  have o2 := hok.2.1
  constructor
  · rintro ⟨w, h1, rfl, h2⟩
    rw [bp_toI (by omega), bp_cl (by omega)]
    exact ⟨by omega, by omega, h2⟩
  · rintro ⟨h1, h2, h3⟩
    obtain ⟨w, hw, rfl⟩ := (bp_isB (n := bn_nw N) (by omega)).mpr ⟨h1, h2⟩
    rw [bp_cl (by omega)] at h3
    exact ⟨w, hw, rfl, h3⟩
/-- the token that is read -/
def bn_rd (N : bn_N) (a k : Int32) : Int64 := if (0 ≤ a.toInt ∧ a.toInt < (bn_nw N : Int) ∧ bw_h (bn_wr N a.toNatClampNeg) = true) ∧ (0 ≤ k.toInt ∧ k.toInt < ((bw_q (bn_wr N a.toNatClampNeg)).length : Int)) then ((bw_q (bn_wr N a.toNatClampNeg)).getD k.toNatClampNeg 0).toInt64 else -9223372036854775808
theorem cl_tokenIn {o : Nat} {I : Nat → Nat → Int32} {L : Nat → Nat → Int64} {N : bn_N} (hok : bn_ok N) (hN : bc_N I o N) (a k : Int32) : f_X11_tokenIn o a k I L = some (bn_rd N a k, I, L) := by
  unfold f_X11_tokenIn bn_rd
  by_cases ha : bn_is N a
  · have ha' := (bn_isI hok).mp ha
    obtain ⟨w, hw8, hw, rfl, hh⟩ := bo_wi ha hok
    have hl := (hok.2.2.2.1 w).2.1
    rw [cc_hasW_t hok hN hw hh]
    simp only [Option.bind_some]
    rw [if_neg bp_10, if_pos (bp_ok hw8 (by omega))]
    simp only [bp_cl (show w < 100000 by omega)] at ha' ⊢
    have hx := hN.2.2.2 w hw8
    rcases rg_holds (a := k) (L := L) hx with ⟨j, hj, rfl, e⟩ | ⟨hj, e⟩ | hj
    · rw [e]
      simp only [Option.bind_some]
      rw [if_neg bp_10, rg_at hx hj hl]
      simp only [Option.bind_some]
      rw [bp_cl (by omega), if_pos ⟨ha', by rw [bp_toI (by omega)]; omega⟩]
    · rw [e]
      simp only [Option.bind_some]
      rw [if_pos trivial, if_neg (fun q => hj ((bp_isB (by omega)).mpr q.2))]
    · omega
  · rw [cc_hasW_f hok hN ha, if_neg (fun q => ha ((bn_isI hok).mpr q.1))]
    rfl
theorem ml_read {o : Nat} {I : Nat → Nat → Int32} {L : Nat → Nat → Int64} {N : bn_N} (hok : bn_ok N) (hN : bm_N (I (o + 1)) N) (a k : Int32) : f_X12_read o a k I L = some (bn_rd N a k, I, L) := by
  unfold f_X12_read bn_rd
  by_cases ha : bn_is N a
  · have ha' := (bn_isI hok).mp ha
    obtain ⟨w, hw8, hw, rfl, hh⟩ := bo_wi ha hok
    have hl := (hok.2.2.2.1 w).2.1
    rw [mm_isW_t hok hN hw hh]
    simp only [Option.bind_some]
    rw [if_neg bp_10, me_tokens hw8]
    simp only [Option.bind_some]
    rw [(hN.2.2.2 w hw).2.2.1, bp_in]
    simp only [bp_cl (show w < 100000 by omega), Option.bind_some] at ha' ⊢
    by_cases hk : ∃ j, j < (bw_q (bn_wr N w)).length ∧ k = nI j
    · rw [if_pos ((bp_inN (by omega)).mpr hk)]
      obtain ⟨j, hj, rfl⟩ := hk
      rw [if_neg bp_10, bp_ix, bp_p6, nI_add, if_pos (bp_ok (by omega) (by omega)), bp_cl (by omega), bp_cl (by omega), if_pos ⟨ha', by rw [bp_toI (by omega)]; omega⟩, (hN.2.2.2 w hw).2.2.2 j hj]
    · rw [if_neg (fun q => hk ((bp_inN (by omega)).mp q)), if_pos rfl, if_neg (fun q => hk ((bp_isB (by omega)).mpr q.2))]
  · rw [mm_isW_f hok hN ha, if_neg (fun q => ha ((bn_isI hok).mpr q.1))]
    rfl
theorem bp_nar : ∀ k : Fin 128, vp_nar .byte ((nI k.1).toInt8.toInt32) = nI k.1 := by decide +kernel
/-- the first row of the book that isn't so -/
def bn_lk (N : bn_N) : List (Nat × Nat) → Nat → Int32
  | [], _ => -5
  | x :: t, r => if bw_h (bn_wr N x.1) = true ∧ (bw_q (bn_wr N x.1)).length = x.2 then bn_lk N t (r + 1) else nI r
theorem bl_drop {α : Type} {l : List α} {r : Nat} (h : r < l.length) : ∃ x, l[r]? = some x ∧ x ∈ l ∧ l.drop r = x :: l.drop (r + 1) := ⟨l[r], List.getElem?_eq_getElem h, List.getElem_mem h, List.drop_eq_getElem_cons h⟩
section OPS161
variable {I : Nat → Nat → Int32} {L : Nat → Nat → Int64}
theorem op_feed (h : bo_St I L) (a : Int32) : bo_OK (f_X11_feed 0 a I L) (f_X12_feed 156 a) := by
  obtain ⟨A, hok, hC, hM⟩ := id h
  have hl : (ba_x A).length ≤ 100 := hok.2.2.1
  have c1 : I 124 0 = nI (ba_x A).length := hC.2.2.2.1
  have m1 : I 156 5 = nI (ba_x A).length := hM.2.2.2.1
  by_cases ha : 0 ≤ a.toInt ∧ a.toInt ≤ 127
  · have q1 : ¬ a < 0 := by rw [bp_lt0]; omega
    have q2 : a ≤ (127 : Int32) := by rw [bp_leI]; exact ha.2
    by_cases h1 : (ba_x A).length < 100
    · obtain ⟨c, hc, rfl⟩ := bp_rg (n := 127) (by omega) ha.1 ha.2
      have hM1 := hM.fc (I2 := bf_u (bf_u I 125 (ba_x A).length (nI c)) 124 0 (nI ((ba_x A).length + 1))) (L2 := L) (fun q hq => ⟨by simp (disch := omega) only [bf_u_ne], rfl⟩)
      refine bo_mk (A := (A.1, A.2.1, ba_x A ++ [c], A.2.2.2)) (x := nI ((ba_x A).length + 1)) (I1 := bf_u (bf_u I 125 (ba_x A).length (nI c)) 124 0 (nI ((ba_x A).length + 1))) (L1 := L) (I2 := bf_u (bf_u (bf_u (bf_u I 125 (ba_x A).length (nI c)) 124 0 (nI ((ba_x A).length + 1))) 160 (ba_x A).length (nI c)) 156 5 (nI ((ba_x A).length + 1))) (L2 := L) ?_ ?_ ?_ ?_ ?_ ?_
      · unfold f_X11_feed f_X9_append
        simp only [Nat.reduceAdd, Nat.zero_add]
        rw [if_neg q1, if_pos q2, c1, if_pos (show nI (ba_x A).length < (100 : Int32) from nI_lt (b := 100) h1 (by omega)), if_neg (show ¬ (100 : Int32) ≤ nI (ba_x A).length from nI_ge (b := 100) h1 (by omega)), if_pos (bp_ok h1 (by omega)), bp_cl (by omega), bp_nar ⟨c, by omega⟩]
        simp (disch := omega) only [Option.bind_some, bf_u_ne, bf_u_at, c1, bp_p1]
      · unfold f_X12_feed
        rw [bp_in_t (lo := 0) (hi := 127) ha]
        simp only [Option.bind_some, Nat.reduceAdd]
        rw [if_neg bp_10]
        have m2 : bf_u (bf_u I 125 (ba_x A).length (nI c)) 124 0 (nI ((ba_x A).length + 1)) 156 5 = nI (ba_x A).length := hM1.2.2.2.1
        rw [m2, if_neg (show ¬ nI (ba_x A).length = (100 : Int32) from fun q => by rw [show (100 : Int32) = nI 100 from rfl, bp_eq (by omega) (by omega)] at q; omega), if_pos (bp_ok h1 (by omega)), bp_cl (by omega)]
        simp (disch := omega) only [bf_u_ne, bf_u_at, m1, bp_p1]
      · exact fun q hq => ⟨by simp (disch := omega) only [bf_u_ne], rfl⟩
      · obtain ⟨k1, k2, k3, k4, k5⟩ := hok
        exact ⟨k1, k2, by rw [bl_len]; exact h1, fun y hy => (bl_mem hy).elim (k4 y) (fun e => by omega), k5⟩
      · obtain ⟨k1, k2, k3, k4, k5, k6⟩ := hC
        refine ⟨k1.cg hok.1 (fun q qa qb => by simp (disch := omega) only [bf_u_ne]), by simp (disch := omega) only [bf_u_ne]; exact k2, fun S hS => (k3 S hS).cg (hok.2.1 S hS) (fun q qa qb => by simp (disch := omega) only [bf_u_ne]), ?_, fun k y hk => ?_, fun t ht => ?_⟩
        · show _ = nI (ba_x A ++ [c]).length
          rw [bl_len, bf_u_at]
        · rcases bl_app hk with ⟨q, hk⟩ | ⟨q, e⟩
          · simp (disch := omega) only [bf_u_ne, bf_u_ni]
            exact k5 k y hk
          · subst e
            subst q
            simp (disch := omega) only [bf_u_ne, bf_u_at]
        · simp (disch := omega) only [bf_u_ne]
          exact k6 t ht
      · obtain ⟨k1, k2, k3, k4, k5, k6⟩ := hM1
        refine ⟨?_, ?_, ?_, ?_, fun k y hk => ?_, fun t ht => ?_⟩
        · simp (disch := omega) only [bf_u_ne] at k1 ⊢
          exact k1
        · simp (disch := omega) only [bf_u_ne, bf_u_ni] at k2 ⊢
          exact k2
        · simp (disch := omega) only [bf_u_ne] at k3 ⊢
          exact k3
        · show _ = nI (ba_x A ++ [c]).length
          rw [bl_len, bf_u_at]
        · rcases bl_app hk with ⟨q, hk⟩ | ⟨q, e⟩
          · have := k5 k y hk
            simp (disch := omega) only [bf_u_ne, bf_u_ni] at this ⊢
            exact this
          · subst e
            subst q
            simp (disch := omega) only [bf_u_ne, bf_u_at]
        · have := k6 t ht
          simp (disch := omega) only [bf_u_ne] at this ⊢
          exact this
    · have e1 : (ba_x A).length = 100 := by omega
      refine bo_same h (x := -4) ?_ ?_
      · unfold f_X11_feed
        simp only [Nat.reduceAdd, Nat.zero_add]
        rw [if_neg q1, if_pos q2, c1, e1, if_neg (by decide)]
      · unfold f_X12_feed
        rw [bp_in_t (lo := 0) (hi := 127) ha]
        simp only [Option.bind_some]
        rw [if_neg bp_10, m1, e1, if_pos (by decide)]
  · refine bo_same h (x := -2) ?_ ?_
    · unfold f_X11_feed
      by_cases q1 : a < 0
      · rw [if_pos q1]
      · rw [if_neg q1, if_neg (by rw [bp_lt0] at q1; rw [bp_leI]; exact fun z => ha ⟨by omega, z⟩)]
    · unfold f_X12_feed
      rw [bp_in_f (lo := 0) (hi := 127) ha]
      rfl
theorem op_read (h : bo_St I L) (a k : Int32) : bo_OK (f_X11_read 0 a k I L) (f_X12_read 156 a k) := by
  obtain ⟨A, hok, hC, hM⟩ := id h
  have hn : bn_ok A.1.1 := hok.1.1
  refine bo_same h (x := bn_rd A.1.1 a k) ?_ (ml_read hn hM.1.1 a k)
  unfold f_X11_read
  simp only [Nat.reduceAdd, Nat.zero_add]
  rw [cl_tokenIn hn hC.1.1 a k]
  rfl
theorem cl_looked {A : bn_A} (hok : ba_ok A) (hC : bc_A I L A) : ∀ (n r : Nat), r ≤ (bs_b A.1).length → (bs_b A.1).length < r + n → f_X11_looked_10 0 35 (fun I L => some (-5, I, L)) n (nI r) I L = some (bn_lk A.1.1 ((bs_b A.1).drop r) r, I, L)
  | 0, r, h1, h2 => by omega
  | n + 1, r, h1, h2 => by
    have h8 : (bs_b A.1).length ≤ 8 := hok.1.2.2.2.1
    have hcN : bc_N I 2 A.1.1 := hC.1.1
    have c0 : I 35 0 = nI (bs_b A.1).length := hC.1.2.2.2.1
    rw [f_X11_looked_10]
    simp only [Nat.reduceAdd, Nat.zero_add]
    rw [c0]
    by_cases hr : r < (bs_b A.1).length
    · obtain ⟨x, e1, e2, e3⟩ := bl_drop hr
      have hx := hok.1.2.2.2.2.2.2 x e2
      obtain ⟨k1, k2⟩ := hC.1.2.2.2.2.2.2 r x e1
      have k1 : I 36 r = nI x.1 := k1
      have k2 : I 37 r = nI x.2 := k2
      have hl : (bw_q (bn_wr A.1.1 x.1)).length ≤ 99 := (hok.1.1.2.2.2.1 x.1).2.1
      rw [if_neg (nI_ge hr (by omega)), e3, bn_lk, show bf_le 36 = 8 by decide +kernel, show bf_le 37 = 8 by decide +kernel, if_pos (bp_ok (by omega) (by omega))]
      simp only [bp_cl (show r < 100000 by omega), k1]
      rw [cc_hasWn hcN hx.1]
      simp only [Option.bind_some]
      by_cases hh : bw_h (bn_wr A.1.1 x.1) = true
      · rw [if_pos hh, if_neg bp_10, if_pos (bp_ok hx.1 (by omega)), if_pos (bp_ok (by omega) (by omega)), bp_cl (by omega), k2, (hcN.2.2.2 x.1 hx.1).2.2.1, bp_p1, cl_looked hok hC n (r + 1) (by omega) (by omega)]
        by_cases hq : (bw_q (bn_wr A.1.1 x.1)).length = x.2
        · rw [if_pos (congrArg nI hq), if_pos ⟨hh, hq⟩]
        · rw [if_neg (fun z => hq (by rwa [bp_eq (by omega) (by omega)] at z)), if_neg (fun z => hq z.2)]
      · rw [if_neg hh, if_pos rfl, if_neg (fun z => hh z.1)]
    · rw [if_pos (nI_le (by omega) (by omega)), List.drop_eq_nil_of_le (by omega)]
      rfl
theorem ml_looked {A : bn_A} (hok : ba_ok A) (hM : bm_A I L A) : ∀ (n r : Nat), r ≤ (bs_b A.1).length → (bs_b A.1).length < r + n → f_X12_looked_2 156 (fun I L => some (-5, I, L)) n (nI r) I L = some (bn_lk A.1.1 ((bs_b A.1).drop r) r, I, L)
  | 0, r, h1, h2 => by omega
  | n + 1, r, h1, h2 => by
    have h8 : (bs_b A.1).length ≤ 8 := hok.1.2.2.2.1
    have hn : bn_ok A.1.1 := hok.1.1
    have hmN : bm_N (I (156 + 1)) A.1.1 := hM.1.1
    have c0 : I 157 4 = nI (bs_b A.1).length := hM.1.2.2.2.1
    rw [f_X12_looked_2, bp_4]
    simp only [Nat.reduceAdd]
    rw [c0]
    by_cases hr : r < (bs_b A.1).length
    · obtain ⟨x, e1, e2, e3⟩ := bl_drop hr
      have hx := hok.1.2.2.2.2.2.2 x e2
      obtain ⟨k1, k2⟩ := hM.1.2.2.2.2.2.2 r x e1
      have hl : (bw_q (bn_wr A.1.1 x.1)).length ≤ 99 := (hok.1.1.2.2.2.1 x.1).2.1
      rw [if_neg (nI_ge hr (by omega)), e3, bn_lk, show (58 : Int32) = nI 58 from rfl, show (2 : Int32) = nI 2 from rfl, pk_mul, nI_add, bp_p1 (58 + 2 * r), if_pos (bp_ok (by omega) (by omega)), bp_cl (by omega), k1, mm_isWn hn hmN hx.1]
      simp only [Option.bind_some]
      by_cases hh : bw_h (bn_wr A.1.1 x.1) = true
      · have hw : x.1 < bn_nw A.1.1 := by
          by_cases q : x.1 < bn_nw A.1.1
          · exact q
          · rw [hn.2.2.2.2 x.1 (by omega)] at hh
            exact absurd hh Bool.false_ne_true
        rw [if_pos hh, if_neg bp_10, me_tokens hx.1]
        simp only [Option.bind_some]
        rw [if_pos (bp_ok (by omega) (by omega)), bp_cl (by omega), k2, (hmN.2.2.2 x.1 hw).2.2.1, bp_p1, ml_looked hok hM n (r + 1) (by omega) (by omega)]
        by_cases hq : (bw_q (bn_wr A.1.1 x.1)).length = x.2
        · rw [if_pos (congrArg nI hq), if_pos ⟨hh, hq⟩]
        · rw [if_neg (fun z => hq (by rwa [bp_eq (by omega) (by omega)] at z)), if_neg (fun z => hq z.2)]
      · rw [if_neg hh, if_pos rfl, if_neg (fun z => hh z.1)]
    · rw [if_pos (nI_le (by omega) (by omega)), List.drop_eq_nil_of_le (by omega)]
      rfl
theorem op_looked (h : bo_St I L) : bo_OK (f_X11_looked 0 I L) (f_X12_looked 156) := by
  obtain ⟨A, hok, hC, hM⟩ := id h
  have h8 : (bs_b A.1).length ≤ 8 := hok.1.2.2.2.1
  exact bo_same h (x := bn_lk A.1.1 ((bs_b A.1).drop 0) 0) (cl_looked hok hC 400 0 (by omega) (by omega)) (ml_looked hok hM 400 0 (by omega) (by omega))
end OPS161
