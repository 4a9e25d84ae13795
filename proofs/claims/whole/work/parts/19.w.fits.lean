section OPW
abbrev sn_r : Type := Nat × Nat × Int32
abbrev lt_ok (M : bn_N) (w : Nat) (x : Int32) : Prop := bw_h (bn_wr M w) = true ∧ 0 < bn_q M w ∧ (bw_q (bn_wr M w)).getD (bn_q M w - 1) 0 = x
def sn_1 (N : bn_N) (r : sn_r) : Prop := ∃ m M, pd_gr N r.2.1 m M ∧ m = r.2.1 ∧ lt_ok M r.1 r.2.2
def sa_B (M : bn_N) (n : Nat) : List sn_r → Bool
  | [] => true
  | r :: l => if r.2.1 = n ∧ ¬ lt_ok M r.1 r.2.2 then false else sa_B M n l
theorem sa_BI {M : bn_N} {n : Nat} : ∀ l : List sn_r, sa_B M n l = true ↔ ∀ r ∈ l, r.2.1 = n → lt_ok M r.1 r.2.2
  | [] => ⟨fun _ r hr => absurd hr (List.not_mem_nil), fun _ => rfl⟩
  | r :: l => by
    unfold sa_B
    by_cases q : r.2.1 = n ∧ ¬ lt_ok M r.1 r.2.2
    · rw [if_pos q]
      exact ⟨fun z => absurd z (by decide), fun z => absurd (z r (List.mem_cons_self) q.1) q.2⟩
    · rw [if_neg q, sa_BI l]
      constructor
      · intro z y hy
        rcases List.mem_cons.mp hy with e | e
        · rw [e]
          exact fun h1 => Classical.byContradiction (fun h2 => q ⟨h1, h2⟩)
        · exact z y e
      · intro z y hy
        exact z y (List.mem_cons_of_mem _ hy)
def fs_m : List sn_r → Nat → Nat
  | [], a => a
  | r :: l, a => fs_m l (max a r.2.1)
theorem fs_mI : ∀ (l : List sn_r) (a : Nat), a ≤ fs_m l a ∧ (∀ r ∈ l, r.2.1 ≤ fs_m l a) ∧ (fs_m l a = a ∨ ∃ r ∈ l, r.2.1 = fs_m l a)
  | [], a => ⟨Nat.le_refl _, fun r hr => absurd hr (List.not_mem_nil), Or.inl rfl⟩
  | r :: l, a => by
    obtain ⟨i1, i2, i3⟩ := fs_mI l (max a r.2.1)
    have m1 : a ≤ max a r.2.1 := Nat.le_max_left _ _
    have m2 : r.2.1 ≤ max a r.2.1 := Nat.le_max_right _ _
    refine ⟨Nat.le_trans m1 i1, fun y hy => ?_, ?_⟩
    · rcases List.mem_cons.mp hy with e | e
      · rw [e]; exact Nat.le_trans m2 i1
      · exact i2 y e
    · show fs_m l (max a r.2.1) = a ∨ ∃ y ∈ r :: l, y.2.1 = fs_m l (max a r.2.1)
      rcases i3 with e | ⟨y, y1, y2⟩
      · rw [e]
        by_cases q : r.2.1 ≤ a
        · exact Or.inl (Nat.max_eq_left q)
        · exact Or.inr ⟨r, List.mem_cons_self, (Nat.max_eq_right (by omega)).symm⟩
      · exact Or.inr ⟨y, List.mem_cons_of_mem _ y1, y2⟩
theorem pd_itS (s : List Nat) : ∀ (n : Nat) (N : bn_N), pd_it s (n + 1) N = pd_fin s (pd_it s n N)
  | 0, _ => rfl
  | n + 1, N => by
    show pd_it s (n + 1) (pd_fin s N) = _
    rw [pd_itS s n (pd_fin s N)]
    rfl
theorem lk28 : bf_le 28 = 5 := by decide +kernel
theorem lk29 : bf_le 29 = 5 := by decide +kernel
theorem lk30 : bf_le 30 = 5 := by decide +kernel
/-- the rows seen, as the class and the reference hold them -/
def sn_c (I : Nat → Nat → Int32) (S : List sn_r) : Prop := I 27 0 = nI S.length ∧ S.length ≤ 5 ∧ (∀ r ∈ S, r.1 < 8 ∧ r.2.1 ≤ 4) ∧ ∀ k x, S[k]? = some x → I 28 k = nI x.1 ∧ I 29 k = nI x.2.1 ∧ I 30 k = x.2.2
theorem sn_c.cg {I I2 : Nat → Nat → Int32} {S : List sn_r} (h : sn_c I S) (hI : ∀ q, q < 77 → I2 q = I q) : sn_c I2 S := by
  unfold sn_c
  rw [hI 27 (by omega), hI 28 (by omega), hI 29 (by omega), hI 30 (by omega)]
  exact h
variable {L : Nat → Nat → Int64}
theorem cl_far4 {I : Nat → Nat → Int32} {S : List sn_r} (hS : sn_c I S) (K : Int32 → (Nat → Nat → Int32) → (Nat → Nat → Int64) → Option (Int32 × bf_St)) : ∀ (l : List sn_r) (n k a : Nat), S.drop k = l → k + l.length = S.length → l.length < n → a ≤ 4 → f_X11_farthestSeen_4 0 K n (nI a) (nI k) I L = K (nI (fs_m l a)) I L
  | l, 0, k, a, h1, h2, h3, ha => by omega
  | [], n + 1, k, a, h1, h2, h3, ha => by
    rw [List.length_nil] at h2
    have h5 := hS.2.1
    rw [f_X11_farthestSeen_4]
    simp only [Nat.reduceAdd, Nat.zero_add]
    rw [hS.1, if_pos (nI_le (by omega) (by omega))]
    rfl
  | x :: l, n + 1, k, a, h1, h2, h3, ha => by
    rw [List.length_cons] at h2 h3
    have h5 := hS.2.1
    have hk : k < S.length := by omega
    obtain ⟨y, y1, y2, y3⟩ := bl_drop hk
    rw [h1] at y3
    obtain ⟨rfl, e2⟩ := List.cons.inj y3
    have hx := hS.2.2.1 x y2
    rw [f_X11_farthestSeen_4]
    simp only [Nat.reduceAdd, Nat.zero_add]
    rw [hS.1, if_neg (nI_ge (by omega) (by omega)), lk29, if_pos (bp_ok (by omega) (by omega)), bp_cl (by omega), (hS.2.2.2 k x y1).2.1, bp_mx (by omega) (by omega), bp_p1]
    exact cl_far4 hS K l n (k + 1) (max a x.2.1) e2.symm (by omega) (by omega) (Nat.max_le.mpr ⟨ha, hx.2⟩)
theorem cl_far {I : Nat → Nat → Int32} {S : List sn_r} (hS : sn_c I S) : f_X11_farthestSeen 0 I L = some (nI (fs_m S 0), I, L) := by
  have h5 := hS.2.1
  have e := cl_far4 (L := L) hS (fun k I L => some (k, I, L)) S 400 0 0 rfl (by omega) (by omega) (by omega)
  rw [show nI 0 = (0 : Int32) from rfl] at e
  unfold f_X11_farthestSeen
  exact e
theorem cl_latest {I : Nat → Nat → Int32} {M : bn_N} {w : Nat} {x : Int32} (hok : bn_ok M) (hN : bc_N I 77 M) (hw : w < 8) : f_X11_latestIs 0 (nI w) x I L = some ((if lt_ok M w x then 1 else 0), I, L) := by
  unfold f_X11_latestIs
  simp only [Nat.reduceAdd, Nat.zero_add]
  rw [cc_hasWn hN hw]
  simp only [Option.bind_some]
  by_cases hh : bw_h (bn_wr M w) = true
  · have hW : bc_W I (86 + 2 * w) (bn_wr M w) := hN.2.2.2 w hw
    have hl : (bw_q (bn_wr M w)).length ≤ 99 := (hok.2.2.2.1 w).2.1
    rw [if_pos hh, if_neg bp_10, if_pos (bp_ok hw (by omega)), bp_cl (by omega), hW.2.2.1]
    by_cases hq : (bw_q (bn_wr M w)).length = 0
    · rw [hq, if_pos (by decide), if_neg (fun z => by have : 0 < (bw_q (bn_wr M w)).length := z.2.1; omega)]
    · rw [if_neg (nI_nle (by omega) (by omega))]
      obtain ⟨y, hy⟩ : ∃ y, (bw_q (bn_wr M w)).length = y + 1 := ⟨_, (Nat.succ_pred_eq_of_ne_zero hq).symm⟩
      rw [hy, nI_pred, rg_at hW (by omega) hl]
      simp only [Option.bind_some]
      by_cases e : (bw_q (bn_wr M w)).getD y 0 = x
      · rw [if_pos e, if_pos ⟨hh, by show 0 < (bw_q (bn_wr M w)).length; omega, by
          show (bw_q (bn_wr M w)).getD ((bw_q (bn_wr M w)).length - 1) 0 = x
          rw [hy]; exact e⟩]
      · rw [if_neg e, if_neg (fun z => e (by
          have z3 : (bw_q (bn_wr M w)).getD ((bw_q (bn_wr M w)).length - 1) 0 = x := z.2.2
          rw [hy] at z3
          exact z3))]
  · rw [if_neg hh, if_pos rfl, if_neg (fun z => hh z.1)]
theorem cl_after10 {I : Nat → Nat → Int32} {S : List sn_r} {M : bn_N} {j : Nat} (hS : sn_c I S) (hok : bn_ok M) (hN : bc_N I 77 M) (hj : j ≤ 4) : ∀ (l : List sn_r) (n k : Nat), S.drop k = l → k + l.length = S.length → l.length < n → f_X11_seenAfter_10 0 (nI j) 27 (fun I9 L9 => (some ((1 : Int32), I9, L9))) n (nI k) I L = some ((if sa_B M j l = true then 1 else 0), I, L)
  | l, 0, k, h1, h2, h3 => by omega
  | [], n + 1, k, h1, h2, h3 => by
    rw [List.length_nil] at h2
    have h5 := hS.2.1
    rw [f_X11_seenAfter_10, hS.1, if_pos (nI_le (by omega) (by omega))]
    rfl
  | x :: l, n + 1, k, h1, h2, h3 => by
    rw [List.length_cons] at h2 h3
    have h5 := hS.2.1
    have hk : k < S.length := by omega
    obtain ⟨y, y1, y2, y3⟩ := bl_drop hk
    rw [h1] at y3
    obtain ⟨rfl, e2⟩ := List.cons.inj y3
    have hx := hS.2.2.1 x y2
    obtain ⟨r1, r2, r3⟩ := hS.2.2.2 k x y1
    have ih := cl_after10 hS hok hN hj l n (k + 1) e2.symm (by omega) (by omega)
    rw [f_X11_seenAfter_10]
    simp only [Nat.reduceAdd]
    rw [hS.1, if_neg (nI_ge (by omega) (by omega)), lk29, lk28, lk30, if_pos (bp_ok (by omega) (by omega))]
    simp only [if_pos (bp_ok (show k < 5 by omega) (show 5 ≤ 100000 by omega)), bp_cl (show k < 100000 by omega), r1, r2, r3, bp_eq (show x.2.1 < 100000 by omega) (show j < 100000 by omega), bp_p1]
    by_cases e : x.2.1 = j
    · rw [if_pos e, cl_latest hok hN hx.1]
      simp only [Option.bind_some]
      by_cases c : lt_ok M x.1 x.2.2
      · rw [if_pos c, if_neg bp_10, ih, show sa_B M j (x :: l) = sa_B M j l from if_neg (fun z => z.2 c)]
      · rw [if_neg c, if_pos rfl, show sa_B M j (x :: l) = false from if_pos ⟨e, c⟩]
        rfl
    · rw [if_neg e, ih, show sa_B M j (x :: l) = sa_B M j l from if_neg (fun z => e z.1)]
theorem cl_after {I : Nat → Nat → Int32} {S : List sn_r} {M : bn_N} {j : Nat} (hS : sn_c I S) (hok : bn_ok M) (hN : bc_N I 77 M) (hj : j ≤ 4) : f_X11_seenAfter 0 (nI j) I L = some ((if sa_B M j S = true then 1 else 0), I, L) := by
  have h5 := hS.2.1
  have e := cl_after10 (L := L) hS hok hN hj S 400 0 rfl (by omega) (by omega)
  rw [show nI 0 = (0 : Int32) from rfl] at e
  unfold f_X11_seenAfter
  exact e
/-- rows of the periods j .. f -/
def al_B (s : List Nat) (N : bn_N) (S : List sn_r) : Nat → Nat → Bool
  | 0, _ => true
  | k + 1, j => if sa_B (pd_it s j N) j S = true then al_B s N S k (j + 1) else false
theorem al_BI {s : List Nat} {N : bn_N} {S : List sn_r} : ∀ (k j : Nat), al_B s N S k j = true ↔ ∀ r ∈ S, j ≤ r.2.1 → r.2.1 < j + k → lt_ok (pd_it s r.2.1 N) r.1 r.2.2
  | 0, j => ⟨fun _ r _ h1 h2 => by omega, fun _ => rfl⟩
  | k + 1, j => by
    unfold al_B
    by_cases q : sa_B (pd_it s j N) j S = true
    · rw [if_pos q, al_BI k (j + 1)]
      have q := sa_BI S |>.mp q
      constructor
      · intro z r hr h1 h2
        by_cases e : r.2.1 = j
        · have := q r hr e
          rw [e]
          exact this
        · exact z r hr (by omega) (by omega)
      · intro z r hr h1 h2
        exact z r hr (by omega) (by omega)
    · rw [if_neg q]
      refine ⟨fun z => absurd z (by decide), fun z => absurd ((sa_BI S).mpr (fun r hr e => ?_)) q⟩
      have := z r hr (by omega) (by omega)
      rw [e] at this
      exact this
theorem cl_all51 {S : List sn_r} {s : List Nat} {N : bn_N} {f : Nat} (hf : f ≤ 4) (hok : bn_ok N) (hs : s.length ≤ 360) (hr : 0 < f → pd_rt s N) (K : (Nat → Nat → Int32) → (Nat → Nat → Int64) → Option (Int32 × bf_St)) (hK : ∀ I L, K I L = some (1, I, L)) : ∀ (k n j : Nat) (I : Nat → Nat → Int32), j + k = f + 1 → k < n → sn_c I S → (0 < f → I 102 5 = nI s.length ∧ ∀ i, i < s.length → I 104 i = nI (s.getD i 0)) → (j = 0 → bc_N I 77 N) → (0 < j → bc_N I 77 (pd_it s (j - 1) N)) → ∃ I1, f_X11_allSeenWith_51 0 (nI f) K n (nI j) I L = some ((if al_B s N S k j = true then 1 else 0), I1, L) ∧ ∀ q, q < 77 ∨ 102 ≤ q → I1 q = I q
  | k, 0, j, I, h1, h2, hS, ho, hj0, hj1 => by omega
  | 0, n + 1, j, I, h1, h2, hS, ho, hj0, hj1 => by
    rw [f_X11_allSeenWith_51, if_pos (nI_lt (by omega) (by omega)), hK]
    exact ⟨I, rfl, fun _ _ => rfl⟩
  | k + 1, n + 1, j, I, h1, h2, hS, ho, hj0, hj1 => by
    have go : ∀ J : Nat → Nat → Int32, (∀ q, q < 77 ∨ 102 ≤ q → J q = I q) → bn_ok (pd_it s j N) → bc_N J 77 (pd_it s j N) → ∃ I1, ((f_X11_seenAfter 0 (nI j) J L).bind (fun r11 => (if r11.1 = 0 then (some ((0 : Int32), r11.2.1, r11.2.2)) else (f_X11_allSeenWith_51 0 (nI f) K n (nI (j + 1)) r11.2.1 r11.2.2)))) = some ((if al_B s N S (k + 1) j = true then 1 else 0), I1, L) ∧ ∀ q, q < 77 ∨ 102 ≤ q → I1 q = I q := fun J hJ okJ hN => by
      have hSJ : sn_c J S := hS.cg (fun q hq => hJ q (by omega))
      rw [cl_after hSJ okJ hN (by omega)]
      simp only [Option.bind_some]
      by_cases e : sa_B (pd_it s j N) j S = true
      · rw [if_pos e, if_neg bp_10, show al_B s N S (k + 1) j = al_B s N S k (j + 1) from if_pos e]
        obtain ⟨I1, g1, g2⟩ := cl_all51 hf hok hs hr K hK k n (j + 1) J (by omega) (by omega) hSJ (fun z => by rw [hJ 102 (by omega), hJ 104 (by omega)]; exact ho z) (fun z => by omega) (fun _ => by rw [Nat.add_sub_cancel]; exact hN)
        exact ⟨I1, g1, fun q hq => (g2 q hq).trans (hJ q hq)⟩
      · rw [if_neg e, if_pos rfl, show al_B s N S (k + 1) j = false from if_neg e]
        exact ⟨J, rfl, hJ⟩
    rw [f_X11_allSeenWith_51, if_neg (nI_nlt (by omega) (by omega)), if_neg (show ¬ (4 : Int32) < nI j from nI_nlt (a := 4) (by omega) (by omega)), bp_p1]
    by_cases e : j = 0
    · subst e
      rw [if_pos (by decide)]
      exact go I (fun _ _ => rfl) hok (hj0 rfl)
    · have f0 : 0 < f := by omega
      obtain ⟨i, rfl⟩ : ∃ i, j = i + 1 := ⟨j - 1, by omega⟩
      rw [if_neg (nI_nle (by omega) (by omega))]
      have hN := hj1 (by omega)
      rw [Nat.add_sub_cancel] at hN
      have hrt := hr f0
      obtain ⟨a1, a2, a3⟩ := hrt.it i N hok
      have rt2 : pd_rt s (pd_it s i N) := hrt.cg hok a1 a2 (fun v hv => (a3 v hv).symm)
      obtain ⟨I1, g1, g2, g3⟩ := cl_play (L := L) (o := 102) (a := 77) (by omega) hs a1 rt2.1 hN (ho f0).1 (ho f0).2
      simp only [Nat.reduceAdd, Nat.zero_add]
      rw [g1]
      simp only [Option.bind_some]
      have ok2 := (rt2.nx a1).1
      rw [← pd_itS] at g2 ok2
      exact go I1 (fun q hq => g3 q (by omega)) ok2 g2
end OPW
