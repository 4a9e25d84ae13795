section LS4
variable {L : Nat → Nat → Int64}
def tr_R (I : Nat → Nat → Int32) (N0 : bn_N) (d : Nat) (l q m : Nat → Nat) (a : Option Nat) : Prop := tr_N (I 157) N0 q ∧ (∀ b, b < 6 → I 165 b = nI (l b) ∧ l b ≤ 60) ∧ (∀ w, w < 8 → I 168 (8 * d + w) = nI (m w) ∧ m w ≤ 99) ∧ I 156 23 = le_v a
def tr_F (I I1 : Nat → Nat → Int32) (d : Nat) : Prop := (∀ k, I1 157 k = I 157 k) ∧ (∀ i, i < 8 * d + 8 → I1 168 i = I 168 i) ∧ (∀ r, r ≠ 156 → r ≠ 157 → r ≠ 165 → r ≠ 168 → I1 r = I r) ∧ ∀ j, j ≠ 23 → I1 156 j = I 156 j
def tr_P (N0 : bn_N) (d : Nat) (rc : Nat → Int32 → (Nat → Nat → Int32) → (Nat → Nat → Int64) → Option bf_St) : Prop := ∀ (e : Nat) (l q m : Nat → Nat) (a : Option Nat) (I : Nat → Nat → Int32) (L : Nat → Nat → Int64), e + d ≤ 8 → tm_p l 6 = d → pd_z N0 l → (∀ w, w < 8 → ¬ bw_h (bn_wr N0 w) = true → m w = 0) → tr_R I N0 e l q m a → (∀ x, a = some x → x ≤ 792) → ∃ I1, rc 156 (nI e) I L = some (I1, L) ∧ tr_R I1 N0 e l q m (om a (sr N0 d l q m)) ∧ tr_F I I1 e
theorem sl_z {rc : (Nat → Nat) → (Nat → Nat) → (Nat → Nat) → Option Nat} {N : bn_N} {l q m : Nat → Nat} : ∀ (k b : Nat) (a : Option Nat), (∀ c, b ≤ c → l c = 0) → sl rc N l q m k b a = a
  | 0, _, _, _ => rfl
  | k + 1, b, a, h => by
    show sl rc N l q m k (b + 1) _ = a
    rw [if_neg (fun z => by have := h b (by omega); omega)]
    exact sl_z k (b + 1) a (fun c hc => h c (by omega))
theorem ml_tr65 {N0 : bn_N} {d e : Nat} {rc : Nat → Int32 → (Nat → Nat → Int32) → (Nat → Nat → Int64) → Option bf_St} (hok0 : bn_ok N0) (hd : e + (d + 1) ≤ 8) (hrc : tr_P N0 d rc) {l q m : Nat → Nat} (hl : tm_p l 6 = d + 1) (hz : pd_z N0 l) (hm0 : ∀ w, w < 8 → ¬ bw_h (bn_wr N0 w) = true → m w = 0) (K : (Nat → Nat → Int32) → (Nat → Nat → Int64) → Option bf_St) : ∀ (n b : Nat) (a : Option Nat) (I : Nat → Nat → Int32), b ≤ bn_nb N0 → bn_nb N0 < b + n → tr_R I N0 e l q m a → (∀ x, a = some x → x ≤ 792) → ∃ I1, f_X12_tries_65 rc 156 (nI e) K n (nI b) I L = K I1 L ∧ tr_R I1 N0 e l q m (sl (sr N0 d) N0 l q m (6 - b) b a) ∧ tr_F I I1 e
  | 0, b, a, I, h1, h2, hR, ha => by omega
  | n + 1, b, a, I, h1, h2, hR, ha => by
    have o1 := hok0.1
    obtain ⟨r1, r2, r3, r4⟩ := hR
    obtain ⟨M, m1, m2, m3, m4⟩ := id r1
    have nbM : bn_nb M = bn_nb N0 := m3.1
    rw [f_X12_tries_65, bp_0, show I (156 + 1) 0 = nI (bn_nb N0) by rw [← nbM]; exact m1.1]
    by_cases h6 : b = bn_nb N0
    · rw [if_pos (nI_le (by omega) (by omega)), sl_z (6 - b) b a (fun c hc => hz c (by omega))]
      exact ⟨I, rfl, ⟨r1, r2, r3, r4⟩, fun _ => rfl, fun _ _ => rfl, fun _ _ _ _ _ => rfl, fun _ _ => rfl⟩
    · have b6 : b < 6 := by omega
      have hlb := r2 b b6
      rw [if_neg (nI_ge (by omega) (by omega)), bp_p1, bp_p1, show 6 - b = (6 - (b + 1)) + 1 by omega]
      simp only [if_pos (bp_ok b6 (show 6 ≤ 100000 by omega)), bp_cl (show b < 100000 by omega), Nat.reduceAdd, hlb.1]
      show ∃ I1, _ = K I1 L ∧ tr_R I1 N0 e l q m (sl (sr N0 d) N0 l q m (6 - (b + 1)) (b + 1) (if 0 < l b ∧ cf_q N0 q b then om a (sr N0 d (pd_d l b) (sq N0 q b) (sm m (sq N0 q b))) else a)) ∧ tr_F I I1 e
      by_cases l0 : l b = 0
      · rw [if_pos (by rw [l0]; decide), if_neg (fun z => by omega)]
        exact ml_tr65 hok0 hd hrc hl hz hm0 K n (b + 1) a I (by omega) (by omega) ⟨r1, r2, r3, r4⟩ ha
      · have hcc : cf_q N0 q b ↔ bn_can M b := m3.can (fun v hv => (m4 v hv).symm) b
        rw [if_neg (nI_nle (by omega) (by omega)), ml_canFire (o := 156) m2 m1 b6]
        simp only [Option.bind_some]
        by_cases hc : cf_q N0 q b
        · rw [if_pos (hcc.mp hc), if_neg bp_10, if_pos ⟨by omega, hc⟩]
          have sqb : ∀ v, v < 8 → sq N0 q b v ≤ 99 := fun v hv => sq_l hc hv (r1.b v hv)
          have sqz : ∀ v, v < 8 → ¬ bw_h (bn_wr N0 v) = true → sq N0 q b v = 0 := fun v hv hh => by rw [sq_0 hh]; exact r1.z v hv hh
          obtain ⟨I1, g1, g2, g3, g4⟩ := ml_moves (L := L) (v2 := 1) (q2 := sq N0 q b) hok0 b6 (fun v hv => by
            rw [Int32.one_mul]
            exact bp_as (sq_e hc hv)) sqb sqz r1
          rw [g1]
          simp only [Option.bind_some]
          have e5 : I1 165 b - 1 = nI (l b - 1) := by
            rw [g4 _ (by omega), hlb.1]
            obtain ⟨y, hy⟩ : ∃ y, l b = y + 1 := ⟨l b - 1, by omega⟩
            rw [hy, nI_pred]
            rfl
          rw [e5]
          have smb : ∀ v, v < 8 → sm m (sq N0 q b) v ≤ 99 := fun v hv => Nat.max_le.mpr ⟨(r3 v hv).2, sqb v hv⟩
          have smz : ∀ v, v < 8 → ¬ bw_h (bn_wr N0 v) = true → sm m (sq N0 q b) v = 0 := fun v hv hh => by
            show max (m v) (sq N0 q b v) = 0
            rw [hm0 v hv hh, sqz v hv hh, Nat.max_self]
          obtain ⟨I2, k1, k2, k3, k4⟩ := ml_tr110 (L := L) (rc := rc) (d := e) (m := m) (q := sq N0 q b) (v2 := nI b) hok0 (by omega) (fun w hw => (r3 w hw).2) hm0 (fun I25 L25 => ((rc 156 (nI (e + 1)) I25 L25).bind (fun r27 => ((f_X12_moves 156 (nI b) (-1) (bf_u r27.1 165 b ((r27.1 165 b) + 1)) r27.2).bind (fun r31 => (f_X12_tries_65 rc 156 (nI e) K n (nI (b + 1)) r31.1 r31.2)))))) 400 0 (bf_u I1 165 b (nI (l b - 1))) (by omega) (by omega) (by rw [bf_u_ne (by omega)]; exact g2) (fun w hw => by rw [bf_u_ne (by omega), g4 _ (by omega)]; exact (r3 w hw).1) (fun w hw => absurd hw (by omega))
          rw [show nI 0 = (0 : Int32) from rfl] at k1
          rw [k1]
          have l2I : ∀ c, c < 6 → I2 165 c = nI (pd_d l b c) ∧ pd_d l b c ≤ 60 := fun c c6 => by
            rw [k4 _ (by omega)]
            by_cases y : c = b
            · subst y
              rw [bf_u_at, pd_do]
              exact ⟨rfl, by have := hlb.2; omega⟩
            · rw [bf_u_ni y, pd_dn y, g4 _ (by omega)]
              exact r2 c c6
          have I2N : I2 157 = I1 157 := by rw [k4 _ (by omega), bf_u_ne (by omega)]
          obtain ⟨I3, s1, s2, s3⟩ := hrc (e + 1) (pd_d l b) (sq N0 q b) (sm m (sq N0 q b)) a I2 L (by omega) (by have := pd_dS b6 (show 0 < l b by omega); omega) (hz.d b) smz ⟨by rw [I2N]; exact g2, l2I, fun w hw => ⟨by rw [show 8 * (e + 1) + w = 8 * e + 8 + w by omega]; exact k2 w hw, smb w hw⟩, by rw [k4 _ (by omega), bf_u_ne (by omega), g4 _ (by omega)]; exact r4⟩ ha
          rw [s1]
          simp only [Option.bind_some]
          obtain ⟨t1, t2, t3, t4⟩ := s2
          have e6 : I3 165 b + 1 = nI (l b) := by rw [(t2 b b6).1, pd_do, nI_1, show l b - 1 + 1 = l b by omega]
          rw [e6]
          obtain ⟨I4, p1, p2, p3, p4⟩ := ml_moves (L := L) (I := bf_u I3 165 b (nI (l b))) (v2 := -1) (q := sq N0 q b) (q2 := q) hok0 b6 (fun v hv => bp_as3 (sq_e hc hv)) r1.b r1.z (by rw [bf_u_ne (by omega)]; exact t1)
          rw [p1]
          simp only [Option.bind_some]
          have row : ∀ k, I4 157 k = I 157 k := fun k => by
            by_cases y : ∃ w, w < bn_nw N0 ∧ k = 74 + 105 * w + 5
            · obtain ⟨w, w1, rfl⟩ := y
              have o2 := hok0.2.1
              rw [p2.t w w1 (by omega), r1.t w w1 (by omega)]
            · have y2 : ∀ w, w < bn_nw N0 → k ≠ 74 + 105 * w + 5 := fun w w1 w2 => y ⟨w, w1, w2⟩
              rw [p3 k y2, bf_u_ne (by omega), s3.1 k, I2N, g3 k y2]
          have oth : ∀ z, z ≠ 156 → z ≠ 157 → z ≠ 165 → z ≠ 168 → I4 z = I z := fun z z1 z2 z3 z4 => by rw [p4 z z2, bf_u_ne z3, s3.2.2.1 z z1 z2 z3 z4, k4 z z4, bf_u_ne z3, g4 z z2]
          have mo : ∀ i, i < 8 * e + 8 → I4 168 i = I 168 i := fun i hi => by rw [p4 _ (by omega), bf_u_ne (by omega), s3.2.1 i (by omega), k3 i hi, bf_u_ne (by omega), g4 _ (by omega)]
          have fj : ∀ j, j ≠ 23 → I4 156 j = I 156 j := fun j hj => by rw [p4 _ (by omega), bf_u_ne (by omega), s3.2.2.2 j hj, k4 _ (by omega), bf_u_ne (by omega), g4 _ (by omega)]
          have sra := sr_le (N := N0) d (pd_d l b) (sq N0 q b) (sm m (sq N0 q b)) (fun w hw => ⟨sqb w hw, smb w hw⟩)
          obtain ⟨I5, u1, u2, u3⟩ := ml_tr65 hok0 hd hrc hl hz hm0 K n (b + 1) (om a (sr N0 d (pd_d l b) (sq N0 q b) (sm m (sq N0 q b)))) I4 (by omega) (by omega) ⟨p2, fun c c6 => by
            rw [p4 _ (by omega)]
            by_cases y : c = b
            · subst y
              rw [bf_u_at]
              exact ⟨rfl, hlb.2⟩
            · rw [bf_u_ni y, (t2 c c6).1, pd_dn y]
              exact ⟨rfl, (r2 c c6).2⟩, fun w hw => by rw [mo _ (by omega)]; exact r3 w hw, by rw [p4 _ (by omega), bf_u_ne (by omega)]; exact t4⟩ (om_le ha sra)
          exact ⟨I5, u1, u2, fun k => (u3.1 k).trans (row k), fun i hi => (u3.2.1 i hi).trans (mo i hi), fun z z1 z2 z3 z4 => (u3.2.2.1 z z1 z2 z3 z4).trans (oth z z1 z2 z3 z4), fun j hj => (u3.2.2.2 j hj).trans (fj j hj)⟩
        · rw [if_neg (fun z => hc (hcc.mpr z)), if_pos rfl, if_neg (fun z => hc z.2)]
          exact ml_tr65 hok0 hd hrc hl hz hm0 K n (b + 1) a I (by omega) (by omega) ⟨r1, r2, r3, r4⟩ ha
theorem ml_tr {N0 : bn_N} (hok0 : bn_ok N0) : ∀ (d D : Nat), d < D → tr_P N0 d (f_X12_tries D)
  | d, 0, h => by omega
  | 0, D + 1, h => by
    intro e l q m a I L h1 h2 hz hm0 hR ha
    obtain ⟨r1, r2, r3, r4⟩ := hR
    show ∃ I1, f_X12_tries_b (f_X12_tries D) 156 (nI e) I L = some (I1, L) ∧ _
    unfold f_X12_tries_b
    rw [ml_leftAll (o := 156) (fun b hb => (r2 b hb).1), h2]
    simp only [Option.bind_some]
    rw [if_pos (show nI 0 = (0 : Int32) from rfl)]
    have e1 := ml_tr11 (L := L) (I := I) (d := e) (m := m) (rc := f_X12_tries D) (by omega) (fun w hw => (r3 w hw).1) (fun k2_35 I35 L35 => (f_X12_tries_p37 (f_X12_tries D) 156 k2_35 I35 L35)) 400 0 (by omega) (by omega)
    rw [show nI (bfold (fun v a => a + m v) 0 0 0) = (0 : Int32) from rfl, show nI 0 = (0 : Int32) from rfl] at e1
    rw [e1]
    unfold f_X12_tries_p37
    rw [r4]
    have tb := tm8_b (fun v hv => (r3 v hv).2)
    have fin : ∀ z : Int32, z = le_v (om a (sr N0 0 l q m)) → tr_R (bf_u I 156 23 z) N0 e l q m (om a (sr N0 0 l q m)) ∧ tr_F I (bf_u I 156 23 z) e := fun z hzz => ⟨⟨by rw [bf_u_ne (by omega)]; exact r1, fun b hb => by rw [bf_u_ne (by omega)]; exact r2 b hb, fun w hw => by rw [bf_u_ne (by omega)]; exact r3 w hw, by rw [bf_u_at]; exact hzz⟩, fun k => by rw [bf_u_ne (by omega)], fun i _ => by rw [bf_u_ne (by omega)], fun r a1 _ _ _ => bf_u_ne a1, fun j hj => bf_u_ni hj⟩
    cases a with
    | none =>
      rw [if_pos (show le_v none = (-5 : Int32) from rfl)]
      exact ⟨_, rfl, fin _ rfl⟩
    | some x =>
      have hx := ha x rfl
      rw [if_neg (show ¬ le_v (some x) = (-5 : Int32) from fun z => by
        have := congrArg Int32.toInt z
        rw [show (-5 : Int32).toInt = -5 from by decide, show (le_v (some x)).toInt = (x : Int) from bp_toI (by omega)] at this
        omega)]
      refine ⟨_, rfl, fin _ ?_⟩
      show bf_min (nI x) (nI (tm8 m)) = nI (min x (tm8 m))
      unfold bf_min
      by_cases y : tm8 m < x
      · rw [if_pos (nI_lt y (by omega)), Nat.min_eq_right (by omega)]
      · rw [if_neg (nI_nlt (by omega) (by omega)), Nat.min_eq_left (by omega)]
  | d + 1, D + 1, h => by
    intro e l q m a I L h1 h2 hz hm0 hR ha
    have o1 := hok0.1
    show ∃ I1, f_X12_tries_b (f_X12_tries D) 156 (nI e) I L = some (I1, L) ∧ _
    unfold f_X12_tries_b
    rw [ml_leftAll (o := 156) (fun b hb => (hR.2.1 b hb).1), h2]
    simp only [Option.bind_some]
    rw [if_neg (nI_ne0 (by omega) (by omega))]
    obtain ⟨I1, g1, g2, g3⟩ := ml_tr65 (L := L) hok0 h1 (ml_tr hok0 d D (by omega)) h2 hz hm0 (fun I32 L32 => (some (I32, L32))) 400 0 a I (by omega) (by omega) hR ha
    rw [show nI 0 = (0 : Int32) from rfl] at g1
    rw [show (6 - 0 : Nat) = 6 from rfl, sl_om0] at g2
    exact ⟨I1, g1, g2, g3⟩
theorem ml_lh24 {N0 : bn_N} {q : Nat → Nat} (hok0 : bn_ok N0) (K : (Nat → Nat → Int32) → (Nat → Nat → Int64) → Option (Int32 × bf_St)) : ∀ (n j : Nat) (I : Nat → Nat → Int32), j ≤ 8 → 8 < j + n → tr_N (I 157) N0 q → (∀ w, w < j → I 168 w = nI (q w)) → ∃ I1, f_X12_leastHold_24 156 K n (nI j) I L = K I1 L ∧ (∀ w, w < 8 → I1 168 w = nI (q w)) ∧ ∀ r, r ≠ 168 → I1 r = I r
  | 0, j, I, h1, h2, hN, hj => by omega
  | n + 1, j, I, h1, h2, hN, hj => by
    have o2 := hok0.2.1
    rw [f_X12_leastHold_24]
    by_cases h8 : j = 8
    · subst h8
      rw [if_pos (by decide)]
      exact ⟨I, rfl, hj, fun _ _ => rfl⟩
    · have j8 : j < 8 := by omega
      have go : ∀ z : Int32, z = nI (q j) → ∃ I1, f_X12_leastHold_24 156 K n (nI (j + 1)) (bf_u I 168 j z) L = K I1 L ∧ (∀ w, w < 8 → I1 168 w = nI (q w)) ∧ ∀ r, r ≠ 168 → I1 r = I r := fun z hzz => by
        obtain ⟨I1, g1, g2, g3⟩ := ml_lh24 hok0 K n (j + 1) (bf_u I 168 j z) (by omega) (by omega) (by rw [bf_u_ne (by omega)]; exact hN) (fun w hw => by
          by_cases e : w = j
          · subst e; rw [bf_u_at]; exact hzz
          · rw [bf_u_ni e]; exact hj w (by omega))
        exact ⟨I1, g1, g2, fun r hr => by rw [g3 r hr, bf_u_ne hr]⟩
      obtain ⟨M, m1, m2, m3, m4⟩ := id hN
      have nwM : bn_nw M = bn_nw N0 := m3.2.1
      rw [if_neg (show ¬ (8 : Int32) ≤ nI j from nI_ge (b := 8) (by omega) (by omega)), bp_1, show I (156 + 1) 1 = nI (bn_nw N0) by rw [← nwM]; exact m1.2.1, bp_p1]
      simp only [if_pos (bp_ok (show j < 72 by omega) (show 72 ≤ 100000 by omega)), bp_cl (show j < 100000 by omega), Nat.reduceAdd]
      have z0 : ¬ bw_h (bn_wr N0 j) = true → (0 : Int32) = nI (q j) := fun hh => by rw [hN.z j j8 hh]; rfl
      by_cases hw : bn_nw N0 ≤ j
      · rw [if_pos (nI_le hw (by omega))]
        exact go 0 (z0 (by rw [hok0.2.2.2.2 j hw]; decide))
      · rw [if_neg (nI_ge (by omega) (by omega)), mm_isWire (o := 156) m2 m1 (by omega)]
        simp only [Option.bind_some]
        by_cases hh : bw_h (bn_wr M j) = true
        · rw [if_pos hh, if_neg bp_10, me_tokens (o := 156) j8, show I (156 + 1) (74 + 105 * j + 5) = nI (q j) from hN.t j (by omega) j8]
          simp only [Option.bind_some]
          exact go _ rfl
        · rw [if_neg hh, if_pos rfl]
          exact go 0 (z0 (by rw [m3.2.2 j] at hh; exact hh))
theorem ml_ta4 {I : Nat → Nat → Int32} {N : bn_N} {t : Nat → Nat} (hok : bn_ok N) (hN : bm_N (I 157) N) (ht : ∀ c, c < bn_nb N → I 164 c = nI (t c)) (K : Int32 → (Nat → Nat → Int32) → (Nat → Nat → Int64) → Option (Int32 × bf_St)) : ∀ (n j : Nat), j ≤ bn_nb N → bn_nb N < j + n → f_X12_timesAll_4 156 K n (nI (tm_p t j)) (nI j) I L = K (nI (tm_p t (bn_nb N))) I L
  | 0, j, h1, h2 => by omega
  | n + 1, j, h1, h2 => by
    have o1 := hok.1
    rw [f_X12_timesAll_4, bp_0, show I (156 + 1) 0 = nI (bn_nb N) from hN.1]
    by_cases h6 : j = bn_nb N
    · rw [if_pos (nI_le (by omega) (by omega)), h6]
    · rw [if_neg (nI_ge (by omega) (by omega)), if_pos (bp_ok (by omega) (by omega)), bp_cl (by omega), show I (156 + 8) j = nI (t j) from ht j (by omega), nI_add, bp_p1, ← tm_ps]
      exact ml_ta4 hok hN ht K n (j + 1) (by omega) (by omega)
theorem tm_pz {N : bn_N} {t : Nat → Nat} (hok : bn_ok N) (hz : pd_z N t) : tm_p t (bn_nb N) = tm_p t 6 := by
  have h : ∀ k, bn_nb N + k ≤ 6 → tm_p t (bn_nb N + k) = tm_p t (bn_nb N) := by
    intro k
    induction k with
    | zero => intro _; rfl
    | succ k ih =>
      intro hk
      rw [show bn_nb N + (k + 1) = (bn_nb N + k) + 1 by omega, tm_ps, ih (by omega), hz _ (by omega), Nat.add_zero]
  have := h (6 - bn_nb N) (by have := hok.1; omega)
  rw [show bn_nb N + (6 - bn_nb N) = 6 by have := hok.1; omega] at this
  exact this.symm
theorem ml_timesAll {I : Nat → Nat → Int32} {N : bn_N} {t : Nat → Nat} (hok : bn_ok N) (hz : pd_z N t) (hN : bm_N (I 157) N) (ht : ∀ c, c < bn_nb N → I 164 c = nI (t c)) : f_X12_timesAll 156 I L = some (nI (tm_p t 6), I, L) := by
  have o1 := hok.1
  have e1 := ml_ta4 (L := L) hok hN ht (fun k I L => some (k, I, L)) 400 0 (by omega) (by omega)
  rw [show nI (tm_p t 0) = (0 : Int32) from rfl, show nI 0 = (0 : Int32) from rfl, tm_pz hok hz] at e1
  unfold f_X12_timesAll
  exact e1
theorem ml_leastHold {I : Nat → Nat → Int32} {N : bn_N} {t : Nat → Nat} (hok : bn_ok N) (hT : tm_T N t) (hN : bm_N (I 157) N) (ht : ∀ c, c < bn_nb N → I 164 c = nI (t c)) : ∃ I1, f_X12_leastHold 156 I L = some ((if tm_p t 6 ≤ 8 then le_v (sr N (tm_p t 6) t (bn_q N) (bn_q N)) else -5), I1, L) ∧ mq_F I I1 L L ∧ ∀ k, I1 157 k = I 157 k := by
  have hs := hT.s
  have q99 : ∀ w, bn_q N w ≤ 99 := fun w => (hok.2.2.2.1 w).2.1
  unfold f_X12_leastHold
  rw [ml_timesAll hok hT.2 hN ht]
  simp only [Option.bind_some]
  by_cases h8 : tm_p t 6 ≤ 8
  · rw [if_pos (show nI (tm_p t 6) ≤ (8 : Int32) from nI_le (b := 8) h8 (by omega)), if_pos h8]
    obtain ⟨I1, g1, g2, g3⟩ := ml_starts (L := L) (o := 156) hok hT.2 hN ht
    rw [g1]
    simp only [Option.bind_some]
    have tN : tr_N (bf_u I1 156 23 (-5) 157) N (bn_q N) := ⟨N, by rw [bf_u_ne (by omega), g3 _ (by omega)]; exact hN, hok, bn_sta.rf, fun _ _ => rfl⟩
    obtain ⟨I2, k1, k2, k3⟩ := ml_lh24 (L := L) hok (fun I16 L16 => ((f_X12_tries 9 156 (0 : Int32) I16 L16).bind (fun r18 => (some ((r18.1 156 23), r18.1, r18.2))))) 400 0 (bf_u I1 156 23 (-5)) (by omega) (by omega) tN (fun w hw => absurd hw (by omega))
    rw [show nI 0 = (0 : Int32) from rfl] at k1
    rw [k1]
    obtain ⟨I3, s1, s2, s3⟩ := ml_tr hok (tm_p t 6) 9 (by omega) 0 t (bn_q N) (bn_q N) none I2 L (by omega) rfl hT.2 (fun w hw hh => bn_q0 hok hh) ⟨by rw [k3 _ (by omega)]; exact tN, fun b hb => ⟨by rw [k3 _ (by omega), bf_u_ne (by omega)]; exact g2 b hb, hT.le b⟩, fun w hw => ⟨by rw [show 8 * 0 + w = w by omega]; exact k2 w hw, q99 w⟩, by rw [k3 _ (by omega), bf_u_at]; rfl⟩ (fun x hx => by cases hx)
    rw [show nI 0 = (0 : Int32) from rfl] at s1
    rw [s1]
    simp only [Option.bind_some]
    have e23 : I3 156 23 = le_v (sr N (tm_p t 6) t (bn_q N) (bn_q N)) := s2.2.2.2
    have fr : ∀ r, r ≠ 156 → r ≠ 157 → r ≠ 165 → r ≠ 168 → I3 r = I r := fun r a b c d => by rw [s3.2.2.1 r a b c d, k3 r d, bf_u_ne a, g3 r c]
    have f0 : ∀ j, j ≠ 23 → I3 156 j = I 156 j := fun j hj => by rw [s3.2.2.2 j hj, k3 _ (by omega), bf_u_ni hj, g3 _ (by omega)]
    have f7 : ∀ k, I3 157 k = I 157 k := fun k => by rw [s3.1 k, k3 _ (by omega), bf_u_ne (by omega), g3 _ (by omega)]
    refine ⟨I3, by rw [e23], ⟨fun q hq => fr q (by omega) (by omega) (by omega) (by omega), fr _ (by omega) (by omega) (by omega) (by omega), fr _ (by omega) (by omega) (by omega) (by omega), fr _ (by omega) (by omega) (by omega) (by omega), fr _ (by omega) (by omega) (by omega) (by omega), f0 3 (by omega), f0 5 (by omega), fun _ _ _ => rfl, fun p _ => f7 p⟩, f7⟩
  · rw [if_neg (show ¬ nI (tm_p t 6) ≤ (8 : Int32) from nI_ge (a := 8) (by omega) (by omega)), if_neg h8]
    exact ⟨I, rfl, mq_F.rf, fun _ => rfl⟩
end LS4
