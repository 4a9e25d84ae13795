section OPS
theorem pd_ag : ∀ (s : List Nat) (j k : Nat) (x : Int32), j + s.length < 2 ^ 31 → k < 2 ^ 31 → pd_a s j (nI k) x = if j ≤ k ∧ k < j + s.length then nI (s.getD (k - j) 0) else x
  | [], j, k, x, _, _ => by
    rw [if_neg (fun z => by rw [List.length_nil] at z; omega)]
    rfl
  | b :: s, j, k, x, h1, h2 => by
    rw [List.length_cons] at h1
    show pd_a s (j + 1) (nI k) (if nI j = nI k then nI b else x) = _
    rw [pd_ag s (j + 1) k _ (by omega) h2, List.length_cons]
    by_cases e : j = k
    · subst e
      rw [if_neg (fun z => by omega), if_pos rfl, if_pos ⟨by omega, by omega⟩, Nat.sub_self]
      rfl
    · rw [if_neg (show ¬ nI j = nI k from fun z => e ((nI_eq (by omega) h2).mp z))]
      by_cases q : j + 1 ≤ k ∧ k < j + 1 + s.length
      · rw [if_pos q, if_pos ⟨by omega, by omega⟩, show k - j = (k - (j + 1)) + 1 by omega]
        rfl
      · rw [if_neg q, if_neg (fun z => q ⟨by omega, by omega⟩)]
variable {I : Nat → Nat → Int32} {L : Nat → Nat → Int64}
theorem op_when (h : bo_St I L) (a : Int32) : bo_OK (f_X11_when 0 a I L) (f_X12_when 156 a) := by
  obtain ⟨A, hok, hC, hM⟩ := id h
  have hn : bn_ok A.1.1 := hok.1.1
  have hcN : bc_N I 2 A.1.1 := hC.1.1
  have hmN : bm_N (I (156 + 1)) A.1.1 := hM.1.1
  by_cases h0 : 0 ≤ a
  · obtain ⟨k, hk, rfl⟩ := nI_of (Int32.not_lt.mpr h0)
    obtain ⟨I1, e1, e2, e3⟩ := cl_look (L := L) hn (show 2 + 25 ≤ 102 by omega) hcN
    have hmN1 : bm_N (I1 157) A.1.1 := by rw [e2 _ (by omega)]; exact hmN
    rcases tm_cs hn with hev | ⟨t, hT⟩
    · obtain ⟨z1, z2⟩ := e3.f hev
      obtain ⟨I2, L2, k1, k2, k3⟩ := ml_evenF (L := L) hn hmN1 hev
      refine bo_quiet hok hC hM (x := -5) (I1 := I1) (I2 := I2) (L2 := L2) ?_ (fun q hq => e2 q (by omega)) ?_ k2 (fun k _ => by rw [k3 _ (by omega)])
      · unfold f_X11_when
        simp only [Nat.reduceAdd, Nat.zero_add]
        rw [if_pos h0, e1]
        simp only [Option.bind_some]
        rw [z2, if_pos h0]
      · unfold f_X12_when
        rw [if_pos h0, k1]
        rfl
    · obtain ⟨z1, z2⟩ := e3.t hn hT
      have hs : (pd_O A.1.1 t).length ≤ 360 := Nat.le_trans (pd_len _ _ _) hT.s
      obtain ⟨I2, L2, k1, k2, k3, k4⟩ := ml_evenT (L := L) hn hmN1 hT
      obtain ⟨I3, n1, n2, n3, n4, n5, n6⟩ := ml_thinks (L := L2) (I := bf_u I2 156 19 (nI k)) hn hT.y (by rw [bf_u_ne (by omega), k3 _ (by omega)]; exact hmN1) (fun c hc => by rw [bf_u_ne (by omega)]; exact k4 c hc)
      have F2 : mq_F I2 (bf_u I2 156 19 (nI k)) L2 L2 := ⟨fun q hq => bf_u_ne (by omega), bf_u_ne (by omega), bf_u_ne (by omega), bf_u_ne (by omega), bf_u_ne (by omega), bf_u_ni (by omega), bf_u_ni (by omega), fun _ _ _ => rfl, fun p _ => by rw [bf_u_ne (by omega)]⟩
      rw [bf_u_at, pd_ag _ _ _ _ (by omega) hk] at n5
      refine bo_quiet hok hC hM (x := I3 156 20) (I1 := I1) (I2 := I3) (L2 := L2) ?_ (fun q hq => e2 q (by omega)) ?_ ((k2.tr F2).tr n2) (fun k hk => by rw [n3 k hk, bf_u_ne (by omega), k3 _ (by omega)])
      · unfold f_X11_when
        simp only [Nat.reduceAdd, Nat.zero_add]
        rw [if_pos h0, e1]
        simp only [Option.bind_some]
        rw [z2.2.2.2.1, n5]
        by_cases q : k < (pd_O A.1.1 t).length
        · rw [if_neg (nI_ge q (by omega)), if_pos (bp_ok (by omega) (by omega)), bp_cl (by omega), if_pos ⟨by omega, by omega⟩, Nat.sub_zero]
          exact congrArg (fun z => some (z, I1, L)) (z2.2.2.2.2.1 k q)
        · rw [if_pos (nI_le (by omega) hk), if_neg (fun z => q (by omega))]
      · unfold f_X12_when
        rw [if_pos h0, k1]
        simp only [Option.bind_some]
        rw [if_neg bp_10, n1]
        rfl
  · refine bo_same h (x := -1) ?_ ?_
    · unfold f_X11_when
      rw [if_neg h0]
    · unfold f_X12_when
      rw [if_neg h0]
/-- the class goes on a net -/
theorem cl_goesOn {I : Nat → Nat → Int32} {a n : Nat} {N : bn_N} (hok : bn_ok N) (hd : a + 25 ≤ 102) (hn : n ≤ 9) (hN : bc_N I a N) : ∃ I1 I2 m M, f_X6_look 102 a I L = some (I1, L) ∧ f_X11_playPeriods 0 a (nI n) I1 L = some (nI m, I2, L) ∧ pd_gr N n m M ∧ bc_N I2 a M ∧ (∀ q, q < a ∨ (a + 25 ≤ q ∧ (q < 102 ∨ 109 < q)) → I2 q = I q) ∧ (I1 102 0 = 1 ∨ I1 102 0 = 0) ∧ (I1 102 0 = 0 ↔ ∃ t, tm_ev N t) := by
  obtain ⟨I1, e1, e2, e3⟩ := cl_look (L := L) hok hd hN
  have hN1 : bc_N I1 a N := hN.cg (fun q q1 q2 => e2 q (by omega)) hok
  rcases tm_cs hok with hev | ⟨t, hT⟩
  · obtain ⟨z1, z2⟩ := e3.f hev
    exact ⟨I1, I1, 0, N, e1, cl_ppF z1, Or.inl ⟨hev, rfl, rfl⟩, hN1, fun q hq => e2 q (by omega), Or.inl z1, ⟨fun z => absurd (z1.symm.trans z) (by decide), fun z => absurd z hev⟩⟩
  · obtain ⟨z1, z2⟩ := e3.t hok hT
    by_cases hg : pd_go N t
    · obtain ⟨I2, g1, g2, g3⟩ := cl_ppT (L := L) hd hn hok hT z1 z2 hg hok bn_sta.rf (fun _ _ => rfl) hN1
      exact ⟨I1, I2, n, _, e1, g1, Or.inr ⟨t, hT, Or.inr ⟨hg, rfl, rfl⟩⟩, g2, fun q hq => by rw [g3 q (by omega), e2 q (by omega)], Or.inr z1, ⟨fun _ => ⟨t, hT.1⟩, fun _ => z1⟩⟩
    · exact ⟨I1, I1, 0, N, e1, cl_ppN z1 z2 hg, Or.inr ⟨t, hT, Or.inl ⟨hg, rfl, rfl⟩⟩, hN1, fun q hq => e2 q (by omega), Or.inr z1, ⟨fun _ => ⟨t, hT.1⟩, fun _ => z1⟩⟩
theorem op_period (h : bo_St I L) (a : Int32) : bo_OK (f_X11_period 0 a I L) (f_X12_period 156 a) := by
  obtain ⟨A, hok, hC, hM⟩ := id h
  have hn : bn_ok A.1.1 := hok.1.1
  have hcN : bc_N I 2 A.1.1 := hC.1.1
  have hmN : bm_N (I (156 + 1)) A.1.1 := hM.1.1
  by_cases ha : 0 ≤ a.toInt ∧ a.toInt ≤ 9
  · have q1 : ¬ a < 0 := by rw [bp_lt0]; omega
    have q2 : a ≤ (9 : Int32) := by rw [bp_leI, show (9 : Int32).toInt = 9 from rfl]; exact ha.2
    obtain ⟨n, hn9, rfl⟩ := bp_rg (n := 9) (by omega) ha.1 ha.2
    obtain ⟨I1, I2, m, M, e1, e2, e3, e4, e5, e6, e7⟩ := cl_goesOn (L := L) hn (show 2 + 25 ≤ 102 by omega) hn9 hcN
    obtain ⟨g1, g2, g3⟩ := e3.ok hn
    by_cases hev : ∃ t, tm_ev A.1.1 t
    · have z0 := e7.mpr hev
      have hM2 : bm_A I2 L A := hM.fc (fun q hq => ⟨e5 q (by omega), rfl⟩)
      rcases e3 with ⟨e3, -⟩ | ⟨t, hT, e3⟩
      · exact absurd hev e3
      obtain ⟨I3, L3, k1, k2, k3, k4⟩ := ml_evenT (L := L) (I := I2) hn hM2.1.1 hT
      have hN3 : bm_N (I3 157) A.1.1 := by rw [k3 _ (by omega)]; exact hM2.1.1
      have fin : ∃ I4, f_X12_periods 156 (nI n) I3 L3 = some (nI m, I4, L3) ∧ mq_F I3 I4 L3 L3 ∧ bm_N (I4 157) M := by
        rcases e3 with ⟨w1, rfl, rfl⟩ | ⟨w1, rfl, rfl⟩
        · obtain ⟨I4, n1, n2, n3, -⟩ := ml_perN (L := L3) hn hT.y hn9 w1 hN3 k4
          exact ⟨I4, n1, n2, hN3.cg hn (fun k hk => n3 k hk.2)⟩
        · obtain ⟨I4, n1, n2, n3, -⟩ := ml_perT (L := L3) hn hT w1 hn9 hN3 k4
          exact ⟨I4, n1, n2, n3⟩
      obtain ⟨I4, n1, n2, n3⟩ := fin
      refine bo_mk (A := bn_sN A M) (x := nI m) (I1 := I2) (L1 := L) (I2 := I4) (L2 := L3) ?_ ?_ (k2.tr n2).fm (hok.setN g1 (by rw [g2.1]; exact Nat.le_refl _)) ?_ ((k2.tr n2).AN hok hM2 n3)
      · unfold f_X11_period
        simp only [Nat.reduceAdd, Nat.zero_add]
        rw [if_neg q1, if_pos q2, e1]
        simp only [Option.bind_some]
        rw [if_pos z0, e2]
        rfl
      · unfold f_X12_period
        rw [bp_in_t (lo := 0) (hi := 9) ha]
        simp only [Option.bind_some]
        rw [if_neg bp_10, k1]
        simp only [Option.bind_some]
        rw [if_neg bp_10, n1]
        rfl
      · obtain ⟨J, hJ⟩ : ∃ J : Nat → Nat → Int32, J = fun q => if q < 2 ∨ 26 < q then I2 q else I q := ⟨_, rfl⟩
        have hCJ : bc_A J L A := hC.cg hok (fun q hq => ⟨by
          rw [hJ]
          dsimp only
          by_cases z : q < 2 ∨ 26 < q
          · rw [if_pos z, e5 q (by omega)]
          · rw [if_neg z], rfl⟩)
        exact hCJ.setN hok (fun q hq => by rw [hJ]; exact (if_pos hq).symm) e4
    · have z1 : I1 102 0 = 1 := e6.resolve_right (fun z => hev (e7.mp z))
      obtain ⟨I1', d1, d2, d3⟩ := cl_look (L := L) hn (show 2 + 25 ≤ 102 by omega) hcN
      obtain rfl : I1 = I1' := by
        rw [e1] at d1
        exact (Prod.mk.inj (Option.some.inj d1)).1
      have hmN1 : bm_N (I1 157) A.1.1 := by rw [d2 _ (by omega)]; exact hmN
      obtain ⟨I3, L3, k1, k2, k3⟩ := ml_evenF (L := L) hn hmN1 hev
      refine bo_quiet hok hC hM (x := -3) (I1 := I1) (I2 := I3) (L2 := L3) ?_ (fun q hq => d2 q (by omega)) ?_ k2 (fun k _ => by rw [k3 _ (by omega)])
      · unfold f_X11_period
        simp only [Nat.reduceAdd, Nat.zero_add]
        rw [if_neg q1, if_pos q2, e1]
        simp only [Option.bind_some]
        rw [z1, if_neg bp_10]
      · unfold f_X12_period
        rw [bp_in_t (lo := 0) (hi := 9) ha]
        simp only [Option.bind_some]
        rw [if_neg bp_10, k1]
        rfl
  · refine bo_same h (x := -2) ?_ ?_
    · unfold f_X11_period
      by_cases q1 : a < 0
      · rw [if_pos q1]
      · rw [if_neg q1, if_neg (fun q2 => ha ⟨by rw [bp_lt0] at q1; omega, by rw [bp_leI, show (9 : Int32).toInt = 9 from rfl] at q2; exact q2⟩)]
    · unfold f_X12_period
      rw [bp_in_f (lo := 0) (hi := 9) ha]
      rfl
theorem pd_gx {N : bn_N} (hok : bn_ok N) (n : Nat) : ∃ m M, pd_gr N n m M := by
  rcases tm_cs hok with hev | ⟨t, hT⟩
  · exact ⟨0, N, Or.inl ⟨hev, rfl, rfl⟩⟩
  · by_cases hg : pd_go N t
    · exact ⟨n, _, Or.inr ⟨t, hT, Or.inr ⟨hg, rfl, rfl⟩⟩⟩
    · exact ⟨0, N, Or.inr ⟨t, hT, Or.inl ⟨hg, rfl, rfl⟩⟩⟩
theorem op_on (h : bo_St I L) (a b : Int32) : bo_OK (f_X11_on 0 a b I L) (f_X12_on 156 a b) := by
  obtain ⟨A, hok, hC, hM⟩ := id h
  have hn : bn_ok A.1.1 := hok.1.1
  have hcN : bc_N I 2 A.1.1 := hC.1.1
  have hmN : bm_N (I (156 + 1)) A.1.1 := hM.1.1
  by_cases hb : bn_is A.1.1 b
  · obtain ⟨w, w8, hw, rfl, hh⟩ := bo_wi hb hn
    by_cases ha : 0 ≤ a.toInt ∧ a.toInt ≤ 9
    · have q1 : ¬ a < 0 := by rw [bp_lt0]; omega
      have q2 : a ≤ (9 : Int32) := by rw [bp_leI, show (9 : Int32).toInt = 9 from rfl]; exact ha.2
      obtain ⟨n, hn9, rfl⟩ := bp_rg (n := 9) (by omega) ha.1 ha.2
      obtain ⟨m, M, hG⟩ := pd_gx hn n
      obtain ⟨g1, g2, g3⟩ := hG.ok hn
      obtain ⟨I1, L1, k1, k2, k3, k4⟩ := ml_goesOn (L := L) hn hn9 hG hmN
      obtain ⟨I2, m1, m2, m3⟩ := ml_back (L := L1) (I := I1)
      have F2 : mq_F I I2 L L1 := by
        refine k2.tr ⟨fun q hq => m3 q (by omega), m3 _ (by omega), m3 _ (by omega), m3 _ (by omega), m3 _ (by omega), by rw [m3 _ (by omega)], by rw [m3 _ (by omega)], fun _ _ _ => rfl, fun p hp => ?_⟩
        rw [m2 p (by omega), k4 p (by omega), k2.2.2.2.2.2.2.2.2 p hp]
      refine bo_quiet hok hC hM (x := nI (bn_q A.1.1 w)) (I1 := I) (I2 := I2) (L2 := L1) ?_ (fun q _ => rfl) ?_ F2 (fun k hk => by rw [m2 k hk, k4 k hk])
      · unfold f_X11_on
        simp only [Nat.reduceAdd, Nat.zero_add]
        rw [cc_hasW_t hn hcN hw hh]
        simp only [Option.bind_some]
        rw [if_neg bp_10, if_neg q1, if_pos q2, if_pos (bp_ok w8 (by omega)), bp_cl (by omega)]
        exact congrArg (fun z => some (z, I, L)) (hcN.2.2.2 w w8).2.2.1
      · unfold f_X12_on
        rw [mm_isW_t hn hmN hw hh]
        simp only [Option.bind_some]
        rw [if_neg bp_10, bp_in_t (lo := 0) (hi := 9) ha]
        simp only [Option.bind_some]
        rw [if_neg bp_10, k1]
        simp only [Option.bind_some]
        rw [me_tokens w8]
        simp only [Option.bind_some]
        rw [show 156 + 13 = 169 from rfl, show 156 + 1 = 157 from rfl, m1]
        simp only [Option.bind_some]
        have := (k3.2.2.2 w (by rw [g2.2.1]; exact hw)).2.2.1
        rw [this]
        exact congrArg (fun z => some (nI z, I2, L1)) (g3 w w8)
    · refine bo_same h (x := -2) ?_ ?_
      · unfold f_X11_on
        simp only [Nat.reduceAdd, Nat.zero_add]
        rw [cc_hasW_t hn hcN hw hh]
        simp only [Option.bind_some]
        rw [if_neg bp_10]
        by_cases q1 : a < 0
        · rw [if_pos q1]
        · rw [if_neg q1, if_neg (fun q2 => ha ⟨by rw [bp_lt0] at q1; omega, by rw [bp_leI, show (9 : Int32).toInt = 9 from rfl] at q2; exact q2⟩)]
      · unfold f_X12_on
        rw [mm_isW_t hn hmN hw hh]
        simp only [Option.bind_some]
        rw [if_neg bp_10, bp_in_f (lo := 0) (hi := 9) ha]
        rfl
  · refine bo_same h (x := -1) ?_ ?_
    · unfold f_X11_on
      simp only [Nat.reduceAdd, Nat.zero_add]
      rw [cc_hasW_f hn hcN hb]
      rfl
    · unfold f_X12_on
      rw [mm_isW_f hn hmN hb]
      rfl
theorem lk_tr : ∀ w : Fin 8, bf_le (77 + 8 + 1 + 2 * w.1 + 1) = 99 := by decide +kernel
theorem lk_nw : ∀ w : Fin 8, bf_le (2 + 8 + 1 + 2 * w.1 + 1) = 99 := by decide +kernel
theorem op_then (h : bo_St I L) (a b k : Int32) : bo_OK (f_X11_then 0 a b k I L) (f_X12_then 156 a b k) := by
  obtain ⟨A, hok, hC, hM⟩ := id h
  have hn : bn_ok A.1.1 := hok.1.1
  have hcN : bc_N I 2 A.1.1 := hC.1.1
  have hmN : bm_N (I (156 + 1)) A.1.1 := hM.1.1
  by_cases hb : bn_is A.1.1 b
  · obtain ⟨w, w8, hw, rfl, hh⟩ := bo_wi hb hn
    by_cases ha : 0 ≤ a.toInt ∧ a.toInt ≤ 9
    · have q1 : ¬ a < 0 := by rw [bp_lt0]; omega
      have q2 : ¬ (9 : Int32) < a := by rw [bp_ltI, show (9 : Int32).toInt = 9 from rfl]; omega
      obtain ⟨n, hn9, rfl⟩ := bp_rg (n := 9) (by omega) ha.1 ha.2
      obtain ⟨I1, c1, c2, c3⟩ := cp_net (L := L) (o := 77) (a := 2) hn (by omega) lk_tr lk_nw I hcN
      obtain ⟨I2, I3, m, M, e1, e2, e3, e4, e5, -, -⟩ := cl_goesOn (L := L) (a := 77) hn (by omega) hn9 c2
      obtain ⟨g1, g2, g3⟩ := e3.ok hn
      have fr : ∀ q, q < 77 ∨ 124 ≤ q → I3 q = I q := fun q hq => by rw [e5 q (by omega), c3 q (by omega)]
      have hmN3 : bm_N (I3 157) A.1.1 := by rw [fr _ (by omega)]; exact hmN
      obtain ⟨I4, L1, k1, k2, k3, k4⟩ := ml_goesOn (L := L) (I := I3) hn hn9 e3 hmN3
      obtain ⟨I5, m1, m2, m3⟩ := ml_back (L := L1) (I := I4)
      have F2 : mq_F I3 I5 L L1 := by
        refine k2.tr ⟨fun q hq => m3 q (by omega), m3 _ (by omega), m3 _ (by omega), m3 _ (by omega), m3 _ (by omega), by rw [m3 _ (by omega)], by rw [m3 _ (by omega)], fun _ _ _ => rfl, fun p hp => ?_⟩
        rw [m2 p (by omega), k4 p (by omega), k2.2.2.2.2.2.2.2.2 p hp]
      refine bo_quiet hok hC hM (x := bn_rd M (nI w) k) (I1 := I3) (I2 := I5) (L2 := L1) ?_ fr ?_ F2 (fun k hk => by rw [m2 k hk, k4 k hk])
      · unfold f_X11_then
        simp only [Nat.reduceAdd, Nat.zero_add]
        rw [if_neg q1, if_neg q2, cc_hasW_t hn hcN hw hh]
        simp only [Option.bind_some]
        rw [if_neg bp_10, c1]
        simp only [Option.bind_some]
        rw [e1]
        simp only [Option.bind_some]
        rw [e2]
        simp only [Option.bind_some]
        rw [cl_tokenIn g1 e4]
        rfl
      · unfold f_X12_then
        rw [mm_isW_t hn hmN3 hw hh]
        simp only [Option.bind_some]
        rw [if_neg bp_10, bp_in_t (lo := 0) (hi := 9) ha]
        simp only [Option.bind_some]
        rw [if_neg bp_10, k1]
        simp only [Option.bind_some]
        rw [ml_read g1 k3]
        simp only [Option.bind_some]
        rw [show 156 + 13 = 169 from rfl, show 156 + 1 = 157 from rfl, m1]
        rfl
    · refine bo_same h (x := -9223372036854775808) ?_ ?_
      · unfold f_X11_then
        simp only [Nat.reduceAdd, Nat.zero_add]
        by_cases q1 : a < 0
        · rw [if_pos q1]
        · rw [if_neg q1, if_pos (by rw [bp_lt0] at q1; rw [bp_ltI, show (9 : Int32).toInt = 9 from rfl]; omega)]
      · unfold f_X12_then
        rw [mm_isW_t hn hmN hw hh]
        simp only [Option.bind_some]
        rw [if_neg bp_10, bp_in_f (lo := 0) (hi := 9) ha]
        rfl
  · refine bo_same h (x := -9223372036854775808) ?_ ?_
    · unfold f_X11_then
      simp only [Nat.reduceAdd, Nat.zero_add]
      by_cases q1 : a < 0
      · rw [if_pos q1]
      · rw [if_neg q1]
        by_cases q2 : (9 : Int32) < a
        · rw [if_pos q2]
        · rw [if_neg q2, cc_hasW_f hn hcN hb]
          rfl
    · unfold f_X12_then
      rw [mm_isW_f hn hmN hb]
      rfl
end OPS
