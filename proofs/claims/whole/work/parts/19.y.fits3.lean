section OPY
variable {L : Nat → Nat → Int64}
theorem bp_is (k : Nat) : (23 : Int32) + (3 : Int32) * nI k = nI (23 + 3 * k) := by
  rw [show (23 : Int32) = nI 23 from rfl, show (3 : Int32) = nI 3 from rfl, pk_mul, nI_add]
theorem bp_l2 {a b : Int32} : (lg_cmp a.toInt64 b.toInt64 = 0) = (a = b) := propext (by
  rw [lg_cmp_eq]
  constructor
  · intro h
    have := congrArg Int64.toInt32 h
    rwa [lg_l2i_i2l, lg_l2i_i2l] at this
  · intro h
    rw [h])
theorem bn_rdl {M : bn_N} {w y : Nat} (hok : bn_ok M) (hh : bw_h (bn_wr M w) = true) (hy : (bw_q (bn_wr M w)).length = y + 1) : bn_rd M (nI w) (nI y) = ((bw_q (bn_wr M w)).getD y 0).toInt64 := by
  have hw := bn_w8 hok hh
  have o2 := hok.2.1
  have hl : (bw_q (bn_wr M w)).length ≤ 99 := (hok.2.2.2.1 w).2.1
  unfold bn_rd
  rw [bp_cl (by omega), bp_cl (by omega), bp_toI (by omega), bp_toI (by omega), if_pos ⟨⟨by omega, by omega, hh⟩, by omega, by rw [hy]; omega⟩]
theorem ml_isSeen {I : Nat → Nat → Int32} {k w n m : Nat} {x : Int32} {N M : bn_N} (hok : bn_ok N) (hN : bm_N (I 157) N) (hk : k < 5) (hw : w < 8) (hn : n ≤ 4) (r1 : I 157 (23 + 3 * k) = nI w) (r2 : I 157 (23 + 3 * k + 1) = nI n) (r3 : I 157 (23 + 3 * k + 2) = x) (hG : pd_gr N n m M) : ∃ I1 L1, f_X12_isSeen 156 (nI k) I L = some ((if m = n ∧ lt_ok M w x then 1 else 0), I1, L1) ∧ mq_F I I1 L L1 ∧ ∀ j, j < 914 → I1 157 j = I 157 j := by
  obtain ⟨g1, g2, g3⟩ := hG.ok hok
  have eh : bw_h (bn_wr M w) = bw_h (bn_wr N w) := by rw [g2.2.2 w]
  have m9 : m ≤ 9 := by
    rcases hG with ⟨-, e, -⟩ | ⟨t, -, ⟨-, e, -⟩ | ⟨-, e, -⟩⟩ <;> omega
  unfold f_X12_isSeen
  rw [bp_is, bp_p1, bp_p2, if_pos (bp_ok (by omega) (by omega)), if_pos (bp_ok (by omega) (by omega)), if_pos (bp_ok (by omega) (by omega)), bp_cl (by omega), bp_cl (by omega), bp_cl (by omega), show I (156 + 1) (23 + 3 * k) = _ from r1, show I (156 + 1) (23 + 3 * k + 1) = _ from r2, show I (156 + 1) (23 + 3 * k + 2) = _ from r3, mm_isWn hok hN hw]
  simp only [Option.bind_some]
  by_cases hh : bw_h (bn_wr N w) = true
  · obtain ⟨I1, L1, k1, k2, k3, k4⟩ := ml_goesOn (L := L) hok (show n ≤ 9 by omega) hG hN
    obtain ⟨I2, m1, m2, m3⟩ := ml_back (L := L1) (I := I1)
    have back : ∀ u : Int32, ((f_X12_copies (156 + 13) (156 + 1) I1 L1).bind (fun r => some (u, r.1, r.2))) = some (u, I2, L1) := fun u => by
      rw [show 156 + 13 = 169 from rfl, show 156 + 1 = 157 from rfl, m1]
      rfl
    have f7 : ∀ j, j < 914 → I2 157 j = I 157 j := fun j hj => by rw [m2 j hj, k4 j hj]
    have F2 : mq_F I I2 L L1 := by
      refine k2.tr ⟨fun q hq => m3 q (by omega), m3 _ (by omega), m3 _ (by omega), m3 _ (by omega), m3 _ (by omega), by rw [m3 _ (by omega)], by rw [m3 _ (by omega)], fun _ _ _ => rfl, fun p hp => ?_⟩
      rw [f7 p (by omega), k2.2.2.2.2.2.2.2.2 p hp]
    rw [if_pos hh, if_neg bp_10, k1]
    simp only [Option.bind_some, bp_eq (show m < 100000 by omega) (show n < 100000 by omega)]
    by_cases e : m = n
    · have hhM : bw_h (bn_wr M w) = true := by rw [eh]; exact hh
      have hwM := bn_w8 g1 hhM
      have hl : (bw_q (bn_wr M w)).length ≤ 99 := (g1.2.2.2.1 w).2.1
      have etok : I1 (156 + 1) (74 + 105 * w + 5) = nI (bw_q (bn_wr M w)).length := (k3.2.2.2 w hwM).2.2.1
      rw [if_pos e, me_tokens hw, etok]
      simp only [Option.bind_some]
      by_cases hq : (bw_q (bn_wr M w)).length = 0
      · rw [hq, if_pos (by decide), back 0, if_neg (fun z => by have : 0 < (bw_q (bn_wr M w)).length := z.2.2.1; omega)]
        exact ⟨I2, L1, rfl, F2, f7⟩
      · obtain ⟨y, hy⟩ : ∃ y, (bw_q (bn_wr M w)).length = y + 1 := ⟨_, (Nat.succ_pred_eq_of_ne_zero hq).symm⟩
        rw [if_neg (nI_nle (by omega) (by omega)), me_tokens hw, etok]
        simp only [Option.bind_some]
        rw [hy, nI_pred, ml_read g1 k3, bn_rdl g1 hhM hy]
        simp only [Option.bind_some, bp_l2]
        by_cases ex : (bw_q (bn_wr M w)).getD y 0 = x
        · rw [if_pos ex, back 1, if_pos ⟨e, hhM, by show 0 < (bw_q (bn_wr M w)).length; omega, by
            show (bw_q (bn_wr M w)).getD ((bw_q (bn_wr M w)).length - 1) 0 = x
            rw [hy]; exact ex⟩]
          exact ⟨I2, L1, rfl, F2, f7⟩
        · rw [if_neg ex, back 0, if_neg (fun z => ex (by
            have z3 : (bw_q (bn_wr M w)).getD ((bw_q (bn_wr M w)).length - 1) 0 = x := z.2.2.2
            rw [hy] at z3
            exact z3))]
          exact ⟨I2, L1, rfl, F2, f7⟩
    · rw [if_neg e, back 0, if_neg (fun z => e z.1)]
      exact ⟨I2, L1, rfl, F2, f7⟩
  · rw [if_neg hh, if_pos rfl, if_neg (fun z => hh (by rw [← eh]; exact z.2.1))]
    exact ⟨I, L, rfl, mq_F.rf, fun _ _ => rfl⟩
/-- the rows as the reference holds them -/
def sn_m (r : Nat → Int32) (S : List sn_r) : Prop := r 2 = nI S.length ∧ S.length ≤ 5 ∧ (∀ x ∈ S, x.1 < 8 ∧ x.2.1 ≤ 4) ∧ ∀ k x, S[k]? = some x → r (23 + 3 * k) = nI x.1 ∧ r (23 + 3 * k + 1) = nI x.2.1 ∧ r (23 + 3 * k + 2) = x.2.2
theorem sn_m.cg {r r2 : Nat → Int32} {S : List sn_r} (h : sn_m r S) (hr : ∀ j, j = 2 ∨ 23 ≤ j ∧ j < 74 → r2 j = r j) : sn_m r2 S := by
  obtain ⟨h1, h2, h3, h4⟩ := h
  refine ⟨by rw [hr 2 (by omega)]; exact h1, h2, h3, fun k x hk => ?_⟩
  have := bs_get hk
  rw [hr _ (by omega), hr _ (by omega), hr _ (by omega)]
  exact h4 k x hk
theorem sn_1i {N M : bn_N} (hok : bn_ok N) {r : sn_r} {m : Nat} (hG : pd_gr N r.2.1 m M) : sn_1 N r ↔ (m = r.2.1 ∧ lt_ok M r.1 r.2.2) := by
  constructor
  · rintro ⟨m', M', hG', hm, hl⟩
    obtain ⟨rfl, rfl⟩ := hG.un hok hG'
    exact ⟨hm, hl⟩
  · rintro ⟨hm, hl⟩
    exact ⟨m, M, hG, hm, hl⟩
theorem ml_fits69 {S : List sn_r} {N : bn_N} {a1 a2 a3 a4 a5 a6 : Int32} (hok : bn_ok N) (K : Int32 → (Nat → Nat → Int32) → (Nat → Nat → Int64) → Option (Int32 × bf_St)) : ∀ (l : List sn_r) (n k : Nat) (u : Int32) (I : Nat → Nat → Int32) (L : Nat → Nat → Int64), S.drop k = l → k + l.length = S.length → l.length < n → (u = 0 ∨ u = 1) → bm_N (I 157) N → sn_m (I 157) S → ∃ u1 I1 L1, f_X12_fits_69 156 a1 a2 a3 a4 a5 a6 K n u (nI k) I L = K u1 I1 L1 ∧ (u1 = 0 ∨ u1 = 1) ∧ (u1 = 1 ↔ u = 1 ∧ ∀ r ∈ l, sn_1 N r) ∧ mq_F I I1 L L1 ∧ ∀ j, j < 914 → I1 157 j = I 157 j
  | l, 0, k, u, I, L, h1, h2, h3, hu, hN, hS => by omega
  | [], n + 1, k, u, I, L, h1, h2, h3, hu, hN, hS => by
    rw [List.length_nil] at h2
    have h5 := hS.2.1
    rw [f_X12_fits_69, bp_2, show I (156 + 1) 2 = _ from hS.1, if_pos (nI_le (by omega) (by omega))]
    exact ⟨u, I, L, rfl, hu, ⟨fun z => ⟨z, fun r hr => absurd hr (List.not_mem_nil)⟩, fun z => z.1⟩, mq_F.rf, fun _ _ => rfl⟩
  | x :: l, n + 1, k, u, I, L, h1, h2, h3, hu, hN, hS => by
    rw [List.length_cons] at h2 h3
    have h5 := hS.2.1
    have hk : k < S.length := by omega
    obtain ⟨y, y1, y2, y3⟩ := bl_drop hk
    rw [h1] at y3
    obtain ⟨rfl, e2⟩ := List.cons.inj y3
    have hx := hS.2.2.1 x y2
    obtain ⟨r1, r2, r3⟩ := hS.2.2.2 k x y1
    rw [f_X12_fits_69, bp_2, show I (156 + 1) 2 = _ from hS.1, if_neg (nI_ge (by omega) (by omega)), bp_p1]
    rcases hu with rfl | rfl
    · rw [if_pos rfl]
      exact ⟨0, I, L, rfl, Or.inl rfl, ⟨fun z => absurd z (by decide), fun z => absurd z.1 (by decide)⟩, mq_F.rf, fun _ _ => rfl⟩
    · rw [if_neg bp_10]
      obtain ⟨m, M, hG⟩ := pd_gx hok x.2.1
      obtain ⟨I1, L1, g1, g2, g3⟩ := ml_isSeen (L := L) hok hN (by omega) hx.1 hx.2 r1 r2 r3 hG
      have hi := sn_1i hok hG
      have hN1 : bm_N (I1 157) N := hN.cg hok (fun j hj => g3 j hj.2)
      have hS1 : sn_m (I1 157) S := hS.cg (fun j hj => g3 j (by omega))
      rw [g1]
      simp only [Option.bind_some]
      by_cases c : m = x.2.1 ∧ lt_ok M x.1 x.2.2
      · rw [if_pos c]
        obtain ⟨u1, I2, L2, k1, k2, k3, k4, k5⟩ := ml_fits69 (a1 := a1) (a2 := a2) (a3 := a3) (a4 := a4) (a5 := a5) (a6 := a6) hok K l n (k + 1) 1 I1 L1 e2.symm (by omega) (by omega) (Or.inr rfl) hN1 hS1
        refine ⟨u1, I2, L2, k1, k2, k3.trans ⟨fun z => ⟨trivial, fun r hr => ?_⟩, fun z => ⟨rfl, fun r hr => z.2 r (List.mem_cons_of_mem _ hr)⟩⟩, g2.tr k4, fun j hj => (k5 j hj).trans (g3 j hj)⟩
        rcases List.mem_cons.mp hr with e | e
        · rw [e]; exact hi.mpr c
        · exact z.2 r e
      · rw [if_neg c]
        obtain ⟨u1, I2, L2, k1, k2, k3, k4, k5⟩ := ml_fits69 (a1 := a1) (a2 := a2) (a3 := a3) (a4 := a4) (a5 := a5) (a6 := a6) hok K l n (k + 1) 0 I1 L1 e2.symm (by omega) (by omega) (Or.inl rfl) hN1 hS1
        refine ⟨u1, I2, L2, k1, k2, k3.trans ⟨fun z => absurd z.1 (by decide), fun z => absurd (hi.mp (z.2 x List.mem_cons_self)) c⟩, g2.tr k4, fun j hj => (k5 j hj).trans (g3 j hj)⟩
theorem ml_fits44 {S : List sn_r} {N : bn_N} {R : Nat → Int32} {b : Nat} {a2 a3 : Int32} (hok : bn_ok N) (hb : b < bn_nb N) (hR : bm_N R N) (hS : sn_m R S) (K : Int32 → Int32 → (Nat → Nat → Int32) → (Nat → Nat → Int64) → Option (Int32 × bf_St)) : ∀ (j n : Nat) (I : Nat → Nat → Int32) (L : Nat → Nat → Int64), j ≤ 10 → j < n → (∀ k, k < 914 → k ≠ 5 + 3 * b + 1 → I 157 k = R k) → ∃ I1 L1, f_X12_fits_44 156 (nI b) a2 a3 K n (nI (fi_F N b S (10 - j) j).1) (fi_F N b S (10 - j) j).2 (nI j + (-1)) I L = K (nI (fi_F N b S 10 0).1) (fi_F N b S 10 0).2 I1 L1 ∧ mq_F I I1 L L1 ∧ ∀ k, k < 914 → k ≠ 5 + 3 * b + 1 → I1 157 k = R k
  | j, 0, I, L, h1, h2, hI => by omega
  | 0, n + 1, I, L, h1, h2, hI => by
    rw [f_X12_fits_44, if_pos (by decide)]
    exact ⟨I, L, rfl, mq_F.rf, hI⟩
  | j + 1, n + 1, I, L, h1, h2, hI => by
    have o1 := hok.1
    have h5 := hS.2.1
    rw [f_X12_fits_44, pk_m1, if_neg (nI_pos (by omega)), bp_ib, bp_p1, if_pos (bp_ok (by omega) (by omega)), bp_cl (by omega)]
    have hN1 : bm_N (bf_u I 157 (5 + 3 * b + 1) (nI j) 157) (bn_sV N b (nI j)) := hR.setV hok hb bf_u_at (fun k k1 k2 => by rw [bf_u_ni k2]; exact hI k k1 k2)
    have hS1 : sn_m (bf_u I 157 (5 + 3 * b + 1) (nI j) 157) S := hS.cg (fun k hk => by rw [bf_u_ni (by omega)]; exact hI k (by omega) (by omega))
    have F1 : mq_F I (bf_u I 157 (5 + 3 * b + 1) (nI j)) L L := ⟨fun q hq => bf_u_ne (by omega), bf_u_ne (by omega), bf_u_ne (by omega), bf_u_ne (by omega), bf_u_ne (by omega), by rw [bf_u_ne (by omega)], by rw [bf_u_ne (by omega)], fun _ _ _ => rfl, fun p hp => bf_u_ni (by omega)⟩
    obtain ⟨u, I1, L1, g1, g2, g3, g4, g5⟩ := ml_fits69 (S := S) (a1 := nI b) (a2 := a2) (a3 := a3) (a4 := nI (fi_F N b S (10 - (j + 1)) (j + 1)).1) (a5 := (fi_F N b S (10 - (j + 1)) (j + 1)).2) (a6 := nI j) (bn_sV_ok (b := b) (v := nI j) hok) (fun k7_14 I14 L14 => (if k7_14 = 0 then (if k7_14 = 0 then (f_X12_fits_44 156 (nI b) a2 a3 K n ((nI (fi_F N b S (10 - (j + 1)) (j + 1)).1) + (0 : Int32)) (fi_F N b S (10 - (j + 1)) (j + 1)).2 (nI j + (-1 : Int32)) I14 L14) else (f_X12_fits_44 156 (nI b) a2 a3 K n ((nI (fi_F N b S (10 - (j + 1)) (j + 1)).1) + (0 : Int32)) (nI j) (nI j + (-1 : Int32)) I14 L14)) else (if k7_14 = 0 then (f_X12_fits_44 156 (nI b) a2 a3 K n ((nI (fi_F N b S (10 - (j + 1)) (j + 1)).1) + (1 : Int32)) (fi_F N b S (10 - (j + 1)) (j + 1)).2 (nI j + (-1 : Int32)) I14 L14) else (f_X12_fits_44 156 (nI b) a2 a3 K n ((nI (fi_F N b S (10 - (j + 1)) (j + 1)).1) + (1 : Int32)) (nI j) (nI j + (-1 : Int32)) I14 L14)))) S 400 0 1 (bf_u I 157 (5 + 3 * b + 1) (nI j)) L rfl (by omega) (by omega) (Or.inr rfl) hN1 hS1
    rw [show nI 0 = (0 : Int32) from rfl] at g1
    rw [show 156 + 1 = 157 from rfl, g1]
    have hI1 : ∀ k, k < 914 → k ≠ 5 + 3 * b + 1 → I1 157 k = R k := fun k k1 k2 => by rw [g5 k k1, bf_u_ni k2]; exact hI k k1 k2
    obtain ⟨I2, L2, m1, m2, m3⟩ := ml_fits44 (a2 := a2) (a3 := a3) hok hb hR hS K j n I1 L1 (by omega) (by omega) hI1
    have eF : fi_F N b S (10 - j) j = if fi_b N b S j = true then ((fi_F N b S (10 - (j + 1)) (j + 1)).1 + 1, nI j) else fi_F N b S (10 - (j + 1)) (j + 1) := by
      rw [show 10 - j = (10 - (j + 1)) + 1 by omega]
      rfl
    by_cases q : fi_b N b S j = true
    · have u1 : u = 1 := g3.mpr ⟨rfl, fi_bI.mp q⟩
      rw [if_pos q] at eF
      rw [eF] at m1
      rw [u1, if_neg bp_10, if_neg bp_10, bp_p1]
      exact ⟨I2, L2, m1, (F1.tr g4).tr m2, m3⟩
    · have u0 : u = 0 := g2.resolve_right (fun z => q (fi_bI.mpr (g3.mp z).2))
      rw [if_neg q] at eF
      rw [eF] at m1
      rw [u0, if_pos rfl, if_pos rfl, Int32.add_zero]
      exact ⟨I2, L2, m1, (F1.tr g4).tr m2, m3⟩
variable {I : Nat → Nat → Int32}
theorem op_fits (h : bo_St I L) (a p : Int32) : bo_OK (f_X11_fits 0 a p I L) (f_X12_fits 156 a p) := by
  obtain ⟨A, hok, hC, hM⟩ := id h
  have hn : bn_ok A.1.1 := hok.1.1
  have o1 := hn.1
  have hcN : bc_N I 2 A.1.1 := hC.1.1
  have hmN : bm_N (I (156 + 1)) A.1.1 := hM.1.1
  by_cases hb : 0 ≤ a.toInt ∧ a.toInt < (bn_nb A.1.1 : Int)
  · obtain ⟨b, hb1, rfl⟩ := (bp_isB (by omega)).mpr hb
    by_cases hp : 0 ≤ p.toInt ∧ p.toInt ≤ 1
    · have q1 : ¬ p < 0 := by rw [bp_lt0]; omega
      have q2 : p ≤ (1 : Int32) := by rw [bp_leI, show (1 : Int32).toInt = 1 from rfl]; exact hp.2
      have hSc : sn_c I (bs_s A.1) := ⟨hC.1.2.1, hok.1.2.1, hok.1.2.2.2.2.1, hC.1.2.2.2.2.1⟩
      obtain ⟨I1, e1, e2, e3⟩ := cl_look (L := L) hn (show 2 + 25 ≤ 102 by omega) hcN
      obtain ⟨I2, k1, k2⟩ := cl_fits48 (L := L) (S := bs_s A.1) (p := p) hb1 hn (fun k3_13 k4_13 I13 L13 => (if p = 0 then (some (k3_13, I13, L13)) else (some (k4_13, I13, L13)))) 10 400 0 0 (-5) I1 (by omega) (by omega) (by omega) (hcN.cg (fun q z1 z2 => e2 q (by omega)) hn) (hSc.cg (fun q hq => e2 q (by omega))) e3
      have fr : ∀ q, q < 77 ∨ 124 ≤ q → I2 q = I q := fun q hq => by rw [k2 q (by omega), e2 q (by omega)]
      have hM2 : bm_A I2 L A := hM.fc (fun q hq => ⟨fr q (by omega), rfl⟩)
      have hSm : sn_m (I2 157) (bs_s A.1) := ⟨hM2.1.2.1, hok.1.2.1, hok.1.2.2.2.2.1, hM2.1.2.2.2.2.1⟩
      obtain ⟨I3, L3, g1, g2, g3⟩ := ml_fits44 (S := bs_s A.1) (b := b) (a2 := p) (a3 := I2 157 (5 + 3 * b + 1)) hn hb1 hM2.1.1 hSm (fun k4_18 k5_18 I18 L18 => (f_X12_fits_p134 156 (nI b) p (I2 157 (5 + 3 * b + 1)) k4_18 k5_18 I18 L18)) 10 400 I2 L (by omega) (by omega) (fun _ _ _ => rfl)
      have F3 : mq_F I3 (bf_u I3 157 (5 + 3 * b + 1) (I2 157 (5 + 3 * b + 1))) L3 L3 := ⟨fun q hq => bf_u_ne (by omega), bf_u_ne (by omega), bf_u_ne (by omega), bf_u_ne (by omega), bf_u_ne (by omega), by rw [bf_u_ne (by omega)], by rw [bf_u_ne (by omega)], fun _ _ _ => rfl, fun q hq => bf_u_ni (by omega)⟩
      have eL := fi_le (N := A.1.1) (b := b) (S := bs_s A.1) 10 0
      obtain ⟨c, hc⟩ : ∃ c, c = nI (fi_F A.1.1 b (bs_s A.1) 10 0).1 := ⟨_, rfl⟩
      obtain ⟨e, he⟩ : ∃ e, e = (fi_F A.1.1 b (bs_s A.1) 10 0).2 := ⟨_, rfl⟩
      have ee : (if (0 : Nat) = 0 then (if (fi_F A.1.1 b (bs_s A.1) 10 0).1 = 0 then (-5 : Int32) else (fi_F A.1.1 b (bs_s A.1) 10 0).2) else -5) = e := by
        rw [if_pos rfl, he]
        by_cases z : (fi_F A.1.1 b (bs_s A.1) 10 0).1 = 0
        · rw [if_pos z, eL.2 z]
        · rw [if_neg z]
      rw [Nat.zero_add, ← hc, ee, show nI 0 = (0 : Int32) from rfl] at k1
      rw [← hc, ← he, show (10 - 10 : Nat) = 0 from rfl, show fi_F A.1.1 b (bs_s A.1) 0 10 = (0, -5) from rfl, show nI 10 + (-1 : Int32) = 9 from by decide, show nI ((0 : Nat), (-5 : Int32)).1 = (0 : Int32) from rfl, show ((0 : Nat), (-5 : Int32)).2 = (-5 : Int32) from rfl] at g1
      refine bo_quiet hok hC hM (x := if p = 0 then c else e) (I1 := I2) (I2 := bf_u I3 157 (5 + 3 * b + 1) (I2 157 (5 + 3 * b + 1))) (L2 := L3) ?_ fr ?_ (g2.tr F3) (fun k hk => ?_)
      · unfold f_X11_fits
        simp only [Nat.reduceAdd, Nat.zero_add]
        rw [cc_hasBox_t hn hcN hb1]
        simp only [Option.bind_some]
        rw [if_neg bp_10, if_neg q1, if_pos q2, e1]
        simp only [Option.bind_some]
        rw [k1]
        by_cases p0 : p = 0
        · rw [if_pos p0, if_pos p0]
        · rw [if_neg p0, if_neg p0]
      · unfold f_X12_fits
        rw [mm_isBox_t hn hM2.1.1 hb1]
        simp only [Option.bind_some]
        rw [if_neg bp_10, bp_in_t (lo := 0) (hi := 1) hp]
        simp only [Option.bind_some]
        rw [if_neg bp_10, bp_ib, bp_p1, if_pos (bp_ok (by omega) (by omega)), bp_cl (by omega), show 156 + 1 = 157 from rfl, g1]
        unfold f_X12_fits_p134
        rw [bp_ib, bp_p1, if_pos (bp_ok (by omega) (by omega)), bp_cl (by omega)]
        by_cases p0 : p = 0
        · rw [if_pos p0, if_pos p0]
        · rw [if_neg p0, if_neg p0]
      · by_cases z : k = 5 + 3 * b + 1
        · rw [z, bf_u_at]
        · rw [bf_u_ni z]
          exact g3 k hk z
    · refine bo_same h (x := -1) ?_ ?_
      · unfold f_X11_fits
        simp only [Nat.reduceAdd, Nat.zero_add]
        rw [cc_hasBox_t hn hcN hb1]
        simp only [Option.bind_some]
        rw [if_neg bp_10]
        by_cases q1 : p < 0
        · rw [if_pos q1]
        · rw [if_neg q1, if_neg (fun q2 => hp ⟨by rw [bp_lt0] at q1; omega, by rw [bp_leI, show (1 : Int32).toInt = 1 from rfl] at q2; exact q2⟩)]
      · unfold f_X12_fits
        rw [mm_isBox_t hn hmN hb1]
        simp only [Option.bind_some]
        rw [if_neg bp_10, bp_in_f (lo := 0) (hi := 1) hp]
        rfl
  · refine bo_same h (x := -1) ?_ ?_
    · unfold f_X11_fits
      simp only [Nat.reduceAdd, Nat.zero_add]
      rw [cc_hasBox hn hcN, if_neg hb]
      rfl
    · unfold f_X12_fits
      rw [mm_isBox hn hmN, if_neg hb]
      rfl
end OPY
