section LS2
variable {L : Nat → Nat → Int64}
/-- the class's rows while it looks for LEAST -/
def fa_R (I : Nat → Nat → Int32) (N0 : bn_N) (T d : Nat) (l q m : Nat → Nat) (a : Option Nat) : Prop := bc_N I 2 N0 ∧ I 110 3 = nI T ∧ I 110 4 = be a ∧ (∀ w, w < 8 → I 112 w = nI (q w) ∧ q w ≤ 99) ∧ (∀ b, b < 6 → I 113 b = nI (l b) ∧ l b ≤ 60) ∧ ∀ w, w < 8 → I (115 + d) w = nI (m w) ∧ m w ≤ 99
def fa_F (I I1 : Nat → Nat → Int32) (d : Nat) : Prop := (∀ q, q < 110 ∨ 123 < q → I1 q = I q) ∧ (∀ r, r ≤ d → r ≤ 8 → I1 (115 + r) = I (115 + r)) ∧ ∀ j, j ≠ 4 → I1 110 j = I 110 j
def fa_P (N0 : bn_N) (T d : Nat) (rc : Nat → Nat → Int32 → Int32 → (Nat → Nat → Int32) → (Nat → Nat → Int64) → Option bf_St) : Prop := ∀ (made : Nat) (l q m : Nat → Nat) (a : Option Nat) (I : Nat → Nat → Int32) (L : Nat → Nat → Int64), made + d = T → tm_p l 6 = d → fa_R I N0 T made l q m a → (∀ x, a = some x → tm8 m < x ∧ x ≤ 792) → ∃ I1, rc 110 2 (nI made) (nI (tm8 m)) I L = some (I1, L) ∧ fa_R I1 N0 T made l q m (om a (sr N0 d l q m)) ∧ fa_F I I1 made
theorem sr_le {N : bn_N} : ∀ (d : Nat) (l q m : Nat → Nat), (∀ w, w < 8 → q w ≤ 99 ∧ m w ≤ 99) → ∀ h, sr N d l q m = some h → h ≤ 792
  | 0, l, q, m, hb, h, e => by
    have e : some (tm8 m) = some h := e
    rw [← Option.some.inj e]
    exact tm8_b (fun v hv => (hb v hv).2)
  | d + 1, l, q, m, hb, h, e => by
    have go : ∀ (k b : Nat) (a : Option Nat), b + k = 6 → (∀ x, a = some x → x ≤ 792) → ∀ h, sl (sr N d) N l q m k b a = some h → h ≤ 792 := by
      intro k
      induction k with
      | zero => intro b a _ ha h e; exact ha h e
      | succ k ih =>
        intro b a hbk ha h e
        refine ih (b + 1) _ (by omega) (fun x hx => ?_) h e
        by_cases z : 0 < l b ∧ cf_q N q b
        · rw [if_pos z] at hx
          have hr := sr_le (N := N) d (pd_d l b) (sq N q b) (sm m (sq N q b)) (fun w hw => ⟨sq_l z.2 hw (hb w hw).1, Nat.max_le.mpr ⟨(hb w hw).2, sq_l z.2 hw (hb w hw).1⟩⟩)
          cases a with
          | none => exact hr x hx
          | some y =>
            cases hs : sr N d (pd_d l b) (sq N q b) (sm m (sq N q b)) with
            | none => rw [hs] at hx; exact ha x hx
            | some y2 =>
              rw [hs] at hx
              have hx : some (min y y2) = some x := hx
              rw [← Option.some.inj hx]
              exact Nat.le_trans (Nat.min_le_left _ _) (ha y rfl)
        · rw [if_neg z] at hx
          exact ha x hx
    exact go 6 0 none (by omega) (fun x hx => by cases hx) h e
theorem om_le {a b : Option Nat} {t : Nat} (ha : ∀ x, a = some x → x ≤ t) (hb : ∀ x, b = some x → x ≤ t) : ∀ x, om a b = some x → x ≤ t := by
  intro x hx
  cases a with
  | none => exact hb x hx
  | some y =>
    cases b with
    | none => exact ha x hx
    | some z =>
      have hx : some (min y z) = some x := hx
      rw [← Option.some.inj hx]
      exact Nat.le_trans (Nat.min_le_left _ _) (ha y rfl)
theorem be_le {a : Option Nat} {g : Nat} (hg : g ≤ 792) (ha : ∀ x, a = some x → x ≤ 792) : (be a ≤ nI g) = (∃ x, a = some x ∧ x ≤ g) := propext (by
  cases a with
  | none => exact ⟨fun z => absurd z (by
      show ¬ (2147483647 : Int32) ≤ nI g
      rw [bp_leI, show (2147483647 : Int32).toInt = 2147483647 from by decide, bp_toI (by omega)]
      omega), fun ⟨x, hx, _⟩ => by cases hx⟩
  | some y =>
    have := ha y rfl
    show nI y ≤ nI g ↔ _
    rw [nI_leI (by omega) (by omega)]
    exact ⟨fun z => ⟨y, rfl, z⟩, fun ⟨x, hx, z⟩ => by rw [Option.some.inj hx]; exact z⟩)
theorem cl_fa24 {N0 : bn_N} {T d made : Nat} {rc : Nat → Nat → Int32 → Int32 → (Nat → Nat → Int32) → (Nat → Nat → Int64) → Option bf_St} (hok0 : bn_ok N0) (hT : T ≤ 8) (hd : made + (d + 1) = T) (hrc : fa_P N0 T d rc) {l q m : Nat → Nat} (hl : tm_p l 6 = d + 1) (K : (Nat → Nat → Int32) → (Nat → Nat → Int64) → Option bf_St) : ∀ (n b : Nat) (a : Option Nat) (I : Nat → Nat → Int32), b ≤ 6 → 6 < b + n → fa_R I N0 T made l q m a → (∀ x, a = some x → x ≤ 792) → ∃ I1, f_X4_followAll_24 rc 110 2 (nI made) K n (nI b) I L = K I1 L ∧ fa_R I1 N0 T made l q m (sl (sr N0 d) N0 l q m (6 - b) b a) ∧ fa_F I I1 made
  | 0, b, a, I, h1, h2, hR, ha => by omega
  | n + 1, b, a, I, h1, h2, hR, ha => by
    rw [f_X4_followAll_24]
    simp only [Nat.reduceAdd]
    by_cases h6 : b = 6
    · subst h6
      rw [if_pos (by decide)]
      exact ⟨I, rfl, hR, fun _ _ => rfl, fun _ _ _ => rfl, fun _ _ => rfl⟩
    · have b6 : b < 6 := by omega
      obtain ⟨r1, r2, r3, r4, r5, r6⟩ := hR
      have hlb := r5 b b6
      rw [if_neg (show ¬ (6 : Int32) ≤ nI b from nI_ge (b := 6) (by omega) (by omega)), bp_p1, bp_p1, show 6 - b = (6 - (b + 1)) + 1 by omega]
      simp only [if_pos (bp_ok b6 (show 6 ≤ 100000 by omega)), bp_cl (show b < 100000 by omega), hlb.1]
      show ∃ I1, _ = K I1 L ∧ fa_R I1 N0 T made l q m (sl (sr N0 d) N0 l q m (6 - (b + 1)) (b + 1) (if 0 < l b ∧ cf_q N0 q b then om a (sr N0 d (pd_d l b) (sq N0 q b) (sm m (sq N0 q b))) else a)) ∧ fa_F I I1 made
      by_cases l0 : l b = 0
      · rw [if_pos (by rw [l0]; decide), if_neg (fun z => by omega)]
        exact cl_fa24 hok0 hT hd hrc hl K n (b + 1) a I (by omega) (by omega) ⟨r1, r2, r3, r4, r5, r6⟩ ha
      · rw [if_neg (nI_nle (by omega) (by omega)), cl_canFire (c := 111) (N := N0) (q := q) hok0 r1 (fun w hw => ⟨(r4 w hw).1, by have := (r4 w hw).2; omega⟩) b6]
        simp only [Option.bind_some]
        by_cases hc : cf_q N0 q b
        · rw [if_pos hc, if_neg bp_10, if_pos ⟨by omega, hc⟩, hlb.1, show nI (l b) - 1 = nI (l b - 1) by
            obtain ⟨y, hy⟩ : ∃ y, l b = y + 1 := ⟨l b - 1, by omega⟩
            rw [hy, nI_pred]
            rfl]
          obtain ⟨I1, g1, g2, g3⟩ := cl_cfire (L := L) (c := 111) (a := 2) (I := bf_u I 113 b (nI (l b - 1))) hok0 (by omega) b6 (fun v hv => sq_e hc hv) (r1.cg (fun z a1 a2 => by rw [bf_u_ne (by omega)]) hok0) (fun w hw => by rw [bf_u_ne (by omega)]; exact (r4 w hw).1)
          rw [g1]
          simp only [Option.bind_some]
          have sqb : ∀ w, w < 8 → m w ≤ 99 ∧ sq N0 q b w ≤ 99 := fun w hw => ⟨(r6 w hw).2, sq_l hc hw (r4 w hw).2⟩
          obtain ⟨I2, k1, k2, k3⟩ := cl_raise (L := L) (I := I1) (d := made) (m := m) (q := sq N0 q b) (by omega) sqb g2 (fun w hw => by rw [g3 _ (by omega), bf_u_ne (by omega)]; exact (r6 w hw).1)
          have smb : ∀ v, v < 8 → sm m (sq N0 q b) v ≤ 99 := fun v hv => Nat.max_le.mpr (sqb v hv)
          have tb := tm8_b smb
          have best : I2 110 4 = be a := by rw [k3 _ (by omega), g3 _ (by omega), bf_u_ne (by omega)]; exact r3
          have fr2 : ∀ z, z ≠ 112 → z ≠ 113 → z ≠ 115 + (made + 1) → I2 z = I z := fun z z1 z2 z3 => by rw [k3 z z3, g3 z z1, bf_u_ne z2]
          have hN2 : bc_N I2 2 N0 := r1.cg (fun z a1 a2 => fr2 z (by omega) (by omega) (by omega)) hok0
          have q2I : ∀ w, w < 8 → I2 112 w = nI (sq N0 q b w) := fun w hw => by rw [k3 _ (by omega)]; exact g2 w hw
          have l2I : ∀ c, c < 6 → I2 113 c = nI (pd_d l b c) := fun c hc => by
            rw [k3 _ (by omega), g3 _ (by omega)]
            by_cases e : c = b
            · subst e
              rw [bf_u_at, pd_do]
            · rw [bf_u_ni e, pd_dn e]
              exact (r5 c hc).1
          rw [k1]
          simp only [Option.bind_some]
          rw [best]
          -- what comes behind both ways
          have fin : ∀ (J : Nat → Nat → Int32) (a2 : Option Nat), bc_N J 2 N0 → J 110 3 = nI T → J 110 4 = be a2 → (∀ w, w < 8 → J 112 w = nI (sq N0 q b w)) → (∀ c, c < 6 → J 113 c = nI (pd_d l b c)) → fa_F I J made → (∀ x, a2 = some x → x ≤ 792) → ∃ I3, ((f_X2_takeBack 111 2 (nI b) J L).bind (fun r17 => f_X4_followAll_24 rc 110 2 (nI made) K n (nI (b + 1)) (bf_u r17.1 113 b (r17.1 113 b + 1)) r17.2)) = K I3 L ∧ fa_R I3 N0 T made l q m (sl (sr N0 d) N0 l q m (6 - (b + 1)) (b + 1) a2) ∧ fa_F I I3 made := fun J a2 j1 j2 j3 j4 j5 j6 j7 => by
            obtain ⟨I3, p1, p2, p3⟩ := cl_back (L := L) (c := 111) (a := 2) (q := q) (q2 := sq N0 q b) hok0 (by omega) b6 (fun v hv => sq_e hc hv) j1 j4
            rw [p1]
            simp only [Option.bind_some]
            have e5 : I3 113 b + 1 = nI (l b) := by rw [p3 _ (by omega), j5 b b6, pd_do, nI_1, show l b - 1 + 1 = l b by omega]
            rw [e5]
            obtain ⟨I4, s1, s2, s3⟩ := cl_fa24 hok0 hT hd hrc hl K n (b + 1) a2 (bf_u I3 113 b (nI (l b))) (by omega) (by omega) ⟨j1.cg (fun z a1 a2 => by rw [bf_u_ne (by omega), p3 z (by omega)]) hok0, by rw [bf_u_ne (by omega), p3 _ (by omega)]; exact j2, by rw [bf_u_ne (by omega), p3 _ (by omega)]; exact j3, fun w hw => ⟨by rw [bf_u_ne (by omega)]; exact p2 w hw, (r4 w hw).2⟩, fun c hc => ⟨by
              by_cases e : c = b
              · subst e; rw [bf_u_at]
              · rw [bf_u_ni e, p3 _ (by omega), j5 c hc, pd_dn e], (r5 c hc).2⟩, fun w hw => ⟨by rw [bf_u_ne (by omega), p3 _ (by omega), j6.2.1 made (Nat.le_refl _) (by omega)]; exact (r6 w hw).1, (r6 w hw).2⟩⟩ j7
            refine ⟨I4, s1, s2, fun z hz => ?_, fun r hr1 hr2 => ?_, fun j hj => ?_⟩
            · rw [s3.1 z hz, bf_u_ne (by omega), p3 z (by omega), j6.1 z hz]
            · rw [s3.2.1 r hr1 hr2, bf_u_ne (by omega), p3 _ (by omega), j6.2.1 r hr1 hr2]
            · rw [s3.2.2 j hj, bf_u_ne (by omega), p3 _ (by omega), j6.2.2 j hj]
          have F2 : fa_F I I2 made := ⟨fun z hz => fr2 z (by omega) (by omega) (by omega), fun r hr1 hr2 => fr2 _ (by omega) (by omega) (by omega), fun j _ => by rw [fr2 110 (by omega) (by omega) (by omega)]⟩
          have sra := sr_le (N := N0) d (pd_d l b) (sq N0 q b) (sm m (sq N0 q b)) (fun w hw => ⟨(sqb w hw).2, smb w hw⟩)
          simp only [be_le tb ha]
          by_cases hp : ∃ x, a = some x ∧ x ≤ tm8 (sm m (sq N0 q b))
          · rw [if_pos hp]
            obtain ⟨x, rfl, hx⟩ := hp
            have e0 : om (some x) (sr N0 d (pd_d l b) (sq N0 q b) (sm m (sq N0 q b))) = some x := by
              cases hs : sr N0 d (pd_d l b) (sq N0 q b) (sm m (sq N0 q b)) with
              | none => rfl
              | some y =>
                have := sr_ge d _ _ _ y hs
                show some (min x y) = some x
                rw [Nat.min_eq_left (by omega)]
            rw [e0]
            exact fin I2 (some x) hN2 (by rw [fr2 110 (by omega) (by omega) (by omega)]; exact r2) best q2I l2I F2 ha
          · rw [if_neg hp]
            obtain ⟨I3, s1, s2, s3⟩ := hrc (made + 1) (pd_d l b) (sq N0 q b) (sm m (sq N0 q b)) a I2 L (by omega) (by have := pd_dS b6 (show 0 < l b by omega); omega) ⟨hN2, by rw [fr2 110 (by omega) (by omega) (by omega)]; exact r2, best, fun w hw => ⟨q2I w hw, (sqb w hw).2⟩, fun c hc6 => ⟨l2I c hc6, by
              by_cases e : c = b
              · subst e; rw [pd_do]; have := (r5 c hc6).2; omega
              · rw [pd_dn e]; exact (r5 c hc6).2⟩, fun w hw => ⟨k2 w hw, smb w hw⟩⟩ (fun x hx => ⟨Nat.lt_of_not_le (fun z => hp ⟨x, hx, z⟩), ha x hx⟩)
            rw [s1]
            simp only [Option.bind_some]
            exact fin I3 _ s2.1 s2.2.1 s2.2.2.1 (fun w hw => (s2.2.2.2.1 w hw).1) (fun c hc => (s2.2.2.2.2.1 c hc).1) ⟨fun z hz => (s3.1 z hz).trans (F2.1 z hz), fun r hr1 hr2 => (s3.2.1 r (by omega) hr2).trans (F2.2.1 r hr1 hr2), fun j hj => (s3.2.2 j hj).trans (F2.2.2 j hj)⟩ (om_le ha sra)
        · rw [if_neg hc, if_pos rfl, if_neg (fun z => hc z.2)]
          exact cl_fa24 hok0 hT hd hrc hl K n (b + 1) a I (by omega) (by omega) ⟨r1, r2, r3, r4, r5, r6⟩ ha
theorem cl_fa {N0 : bn_N} {T : Nat} (hok0 : bn_ok N0) (hT : T ≤ 8) : ∀ (d D : Nat), d < D → fa_P N0 T d (f_X4_followAll D)
  | d, 0, h => by omega
  | 0, D + 1, h => by
    intro made l q m a I L h1 h2 hR ha
    obtain ⟨r1, r2, r3, r4, r5, r6⟩ := hR
    show ∃ I1, f_X4_followAll_b (f_X4_followAll D) 110 2 (nI made) (nI (tm8 m)) I L = some (I1, L) ∧ _
    unfold f_X4_followAll_b
    rw [r2, if_neg (nI_nlt (by omega) (by omega))]
    refine ⟨_, rfl, ⟨r1.cg (fun z a1 a2 => by rw [bf_u_ne (by omega)]) hok0, by rw [bf_u_ni (by omega)]; exact r2, ?_, fun w hw => by rw [bf_u_ne (by omega)]; exact r4 w hw, fun c hc => by rw [bf_u_ne (by omega)]; exact r5 c hc, fun w hw => by rw [bf_u_ne (by omega)]; exact r6 w hw⟩, fun z hz => bf_u_ne (by omega), fun r _ _ => bf_u_ne (by omega), fun j hj => bf_u_ni hj⟩
    rw [bf_u_at]
    cases a with
    | none => rfl
    | some x =>
      have := (ha x rfl).1
      show nI (tm8 m) = nI (min x (tm8 m))
      rw [Nat.min_eq_right (by omega)]
  | d + 1, D + 1, h => by
    intro made l q m a I L h1 h2 hR ha
    show ∃ I1, f_X4_followAll_b (f_X4_followAll D) 110 2 (nI made) (nI (tm8 m)) I L = some (I1, L) ∧ _
    unfold f_X4_followAll_b
    rw [hR.2.1, if_pos (nI_lt (by omega) (by omega)), if_pos (show nI made < (8 : Int32) from nI_lt (b := 8) (by omega) (by omega))]
    obtain ⟨I1, g1, g2, g3⟩ := cl_fa24 (L := L) hok0 hT h1 (cl_fa hok0 hT d D (by omega)) h2 (fun I26 L26 => (some (I26, L26))) 400 0 a I (by omega) (by omega) hR (fun x hx => (ha x hx).2)
    rw [show nI 0 = (0 : Int32) from rfl] at g1
    rw [sl_om0] at g2
    exact ⟨I1, g1, g2, g3⟩
theorem lk113 : bf_le 113 = 6 := by decide +kernel
theorem cl_least42 {N0 : bn_N} {q : Nat → Nat} (hq : ∀ w, w < 8 → q w ≤ 99) (K : Int32 → (Nat → Nat → Int32) → (Nat → Nat → Int64) → Option (Int32 × bf_St)) : ∀ (n j : Nat) (I : Nat → Nat → Int32), j ≤ 8 → 8 < j + n → (∀ w, w < 8 → I 112 w = nI (q w)) → (∀ w, w < j → I 115 w = nI (q w)) → ∃ I1, f_X4_least_42 110 2 K n (nI (bfold (fun v a => a + q v) j 0 0)) (nI j) I L = K (nI (tm8 q)) I1 L ∧ (∀ w, w < 8 → I1 115 w = nI (q w)) ∧ ∀ r, r ≠ 115 → I1 r = I r
  | 0, j, I, h1, h2, hI, hj => by omega
  | n + 1, j, I, h1, h2, hI, hj => by
    rw [f_X4_least_42]
    simp only [Nat.reduceAdd, bp_0]
    by_cases h8 : j = 8
    · subst h8
      rw [if_pos (by decide)]
      exact ⟨I, rfl, hj, fun _ _ => rfl⟩
    · rw [if_neg (show ¬ (8 : Int32) ≤ nI j from nI_ge (b := 8) (by omega) (by omega)), bp_p1]
      simp only [if_pos (bp_ok (show j < 8 by omega) (show 8 ≤ 100000 by omega)), bp_cl (show j < 100000 by omega), hI j (by omega)]
      rw [bf_u_ne (show (112 : Nat) ≠ 115 by omega), hI j (by omega), nI_add, ← tm8_s q j]
      obtain ⟨I1, g1, g2, g3⟩ := cl_least42 (N0 := N0) (q := q) hq K n (j + 1) (bf_u I 115 j (nI (q j))) (by omega) (by omega) (fun w hw => by rw [bf_u_ne (by omega)]; exact hI w hw) (fun w hw => by
        by_cases e : w = j
        · subst e; rw [bf_u_at]
        · rw [bf_u_ni e]; exact hj w (by omega))
      exact ⟨I1, g1, g2, fun r hr => by rw [g3 r hr, bf_u_ne hr]⟩
def le_v (a : Option Nat) : Int32 := match a with | none => -5 | some h => nI h
theorem cl_least {I : Nat → Nat → Int32} {N : bn_N} {t : Nat → Nat} (hok : bn_ok N) (hN : bc_N I 2 N) (ht : ∀ b, b < 6 → I 103 b = nI (t b)) (h2 : I 102 2 = nI (tm_p t 6)) (h60 : ∀ b, t b ≤ 60) (hs : tm_p t 6 ≤ 8) : ∃ I1, f_X4_least 110 2 102 I L = some (le_v (sr N (tm_p t 6) t (bn_q N) (bn_q N)), I1, L) ∧ ∀ q, q < 110 ∨ 123 < q → I1 q = I q := by
  unfold f_X4_least
  simp only [Nat.reduceAdd, bp_0, show (6 : Int32).toNatClampNeg = 6 from by decide]
  obtain ⟨I1, g1, g2, g3⟩ := cl_load (L := L) (c := 111) (o := 2) (Or.inr (by omega)) hok hN
  have q99 : ∀ w, bn_q N w ≤ 99 := fun w => (hok.2.2.2.1 w).2.1
  rw [g1]
  simp only [Option.bind_some]
  rw [if_pos (show bf_cpOK 0 0 6 103 113 from ⟨by decide, by decide, by decide, by rw [lk103]; decide, by rw [lk113]; decide⟩)]
  obtain ⟨J, hJ⟩ : ∃ J, J = bf_w I1 113 (va_cpy (I1 103) (I1 113) 0 0 6) := ⟨_, rfl⟩
  rw [← hJ]
  have J0 : ∀ q, q ≠ 113 → J q = I1 q := fun q hq => by rw [hJ, bf_w_n hq]
  obtain ⟨I2, k1, k2, k3⟩ := cl_least42 (L := L) (N0 := N) (q := bn_q N) (fun w _ => q99 w) (fun k3_8 I8 L8 => (f_X4_least_p87 110 2 k3_8 I8 L8)) 400 0 (bf_u (bf_u J 110 3 (J 102 2)) 110 4 2147483647) (by omega) (by omega) (fun w hw => by rw [bf_u_ne (by omega), bf_u_ne (by omega), J0 _ (by omega)]; exact g2 w hw) (fun w hw => absurd hw (by omega))
  rw [show nI (bfold (fun v a => a + bn_q N v) 0 0 0) = (0 : Int32) from rfl, show nI 0 = (0 : Int32) from rfl] at k1
  rw [k1]
  unfold f_X4_least_p87
  have fr : ∀ q, q < 110 ∨ 123 < q → I2 q = I q := fun q hq => by rw [k3 q (by omega), bf_u_ne (by omega), bf_u_ne (by omega), J0 q (by omega), g3 q (by omega)]
  obtain ⟨I3, s1, s2, s3⟩ := cl_fa hok hs (tm_p t 6) 9 (by omega) 0 t (bn_q N) (bn_q N) none I2 L (by omega) rfl ⟨hN.cg (fun z a1 a2 => fr z (by omega)) hok, by
    rw [k3 _ (by omega), bf_u_ni (by omega), bf_u_at, J0 _ (by omega), g3 _ (by omega)]
    exact h2, by rw [k3 _ (by omega), bf_u_at]; rfl, fun w hw => ⟨by
      rw [k3 _ (by omega), bf_u_ne (by omega), bf_u_ne (by omega), J0 _ (by omega)]
      exact g2 w hw, q99 w⟩, fun b hb => ⟨by
      rw [k3 _ (by omega), bf_u_ne (by omega), bf_u_ne (by omega), hJ, bf_w_o, pk_cpy_in (by omega) (by omega), g3 _ (by omega), show 0 + (b - 0) = b by omega]
      exact ht b hb, h60 b⟩, fun w hw => ⟨k2 w hw, q99 w⟩⟩ (fun x hx => by cases hx)
  rw [show nI 0 = (0 : Int32) from rfl] at s1
  rw [s1]
  simp only [Option.bind_some]
  have e4 : I3 110 4 = be (sr N (tm_p t 6) t (bn_q N) (bn_q N)) := s2.2.2.1
  have sb := sr_le (N := N) (tm_p t 6) t (bn_q N) (bn_q N) (fun w hw => ⟨q99 w, q99 w⟩)
  refine ⟨I3, ?_, fun q hq => (s3.1 q hq).trans (fr q hq)⟩
  rw [e4]
  cases hr : sr N (tm_p t 6) t (bn_q N) (bn_q N) with
  | none => rw [if_pos (show be none = 2147483647 from rfl)]; rfl
  | some h =>
    have := sb h hr
    rw [if_neg (show ¬ be (some h) = 2147483647 from fun z => by
      have := congrArg Int32.toInt z
      rw [show (2147483647 : Int32).toInt = 2147483647 from by decide, show (be (some h)).toInt = (h : Int) from bp_toI (by omega)] at this
      omega)]
    rfl
end LS2
