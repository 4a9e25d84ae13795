/-! sets of boxes as bits -/
theorem sb_t0 : ∀ m : Fin 64, ∀ j : Fin 6, (((nI m.1 >>> (nI j.1 &&& 31)) &&& (1 : Int32)) = 1) = (m.1.testBit j.1 = true) := by
  intro m j
  refine propext ?_
  revert m j
  decide +kernel
theorem sb_t {m j : Nat} (hm : m < 64) (hj : j < 6) : (((nI m >>> (nI j &&& 31)) &&& (1 : Int32)) = 1) = (m.testBit j = true) := sb_t0 ⟨m, hm⟩ ⟨j, hj⟩
theorem sb_o0 : ∀ a b : Fin 64, nI a.1 ||| nI b.1 = nI (a.1 ||| b.1) := by decide +kernel
theorem sb_o {a b : Nat} (ha : a < 64) (hb : b < 64) : nI a ||| nI b = nI (a ||| b) := sb_o0 ⟨a, ha⟩ ⟨b, hb⟩
theorem sb_s0 : ∀ j : Fin 6, (1 : Int32) <<< (nI j.1 &&& 31) = nI (2 ^ j.1) := by decide +kernel
theorem sb_s {j : Nat} (hj : j < 6) : (1 : Int32) <<< (nI j &&& 31) = nI (2 ^ j) := sb_s0 ⟨j, hj⟩
theorem sb_p {j : Nat} (hj : j < 6) : 2 ^ j < 64 := Nat.pow_lt_pow_right (a := 2) (n := 6) (by omega) hj
theorem sb_l {a b : Nat} (ha : a < 64) (hb : b < 64) : a ||| b < 64 := Nat.or_lt_two_pow (n := 6) ha hb
theorem sb_add {m j : Nat} (hm : m < 64) (hj : j < 6) : nI m ||| ((1 : Int32) <<< (nI j &&& 31)) = nI (m ||| 2 ^ j) := by
  rw [sb_s hj, sb_o hm (sb_p hj)]
def sb_pc (m : Nat) : Nat := (m.testBit 0).toNat + (m.testBit 1).toNat + (m.testBit 2).toNat + (m.testBit 3).toNat + (m.testBit 4).toNat + (m.testBit 5).toNat
theorem sb_pl0 : ∀ m n : Fin 64, m.1 ||| n.1 = n.1 → m.1 = n.1 ∨ sb_pc m.1 < sb_pc n.1 := by decide +kernel
theorem sb_pl {m n : Nat} (hm : m < 64) (hn : n < 64) (h : m ||| n = n) : m = n ∨ sb_pc m < sb_pc n := sb_pl0 ⟨m, hm⟩ ⟨n, hn⟩ h
theorem sb_p60 : ∀ m : Fin 64, sb_pc m.1 ≤ 6 := by decide +kernel
theorem sb_p10 : ∀ m : Fin 64, m.1 = 0 ∨ 1 ≤ sb_pc m.1 := by decide +kernel
def sb_it (F : Nat → Nat) : Nat → Nat → Nat
  | 0, m => m
  | i + 1, m => sb_it F i (F m)
theorem sb_fix {F : Nat → Nat} {m : Nat} (h : F m = m) : ∀ i, sb_it F i m = m
  | 0 => rfl
  | i + 1 => by
    show sb_it F i (F m) = m
    rw [h]
    exact sb_fix h i
theorem sb_stab {F : Nat → Nat} (hF : ∀ m, m < 64 → F m < 64 ∧ m ||| F m = F m) : ∀ (i m : Nat), m < 64 → 6 ≤ sb_pc m + i → F (sb_it F i m) = sb_it F i m
  | 0, m, hm, h => by
    show F m = m
    rcases sb_pl hm (hF m hm).1 (hF m hm).2 with e | e
    · exact e.symm
    · have := sb_p60 ⟨F m, (hF m hm).1⟩
      have : sb_pc (F m) ≤ 6 := this
      omega
  | i + 1, m, hm, h => by
    show F (sb_it F i (F m)) = sb_it F i (F m)
    rcases sb_pl hm (hF m hm).1 (hF m hm).2 with e | e
    · rw [← e, sb_fix e.symm i]
      exact e.symm
    · exact sb_stab hF i (F m) (hF m hm).1 (by omega)
theorem sb_itl {F : Nat → Nat} (hF : ∀ m, m < 64 → F m < 64) : ∀ (i m : Nat), m < 64 → sb_it F i m < 64
  | 0, _, hm => hm
  | i + 1, m, hm => sb_itl hF i (F m) (hF m hm)
/-- what holds of a set's members is kept -/
theorem sb_itP {F : Nat → Nat} {P : Nat → Prop} (hF : ∀ m, (∀ j, m.testBit j = true → P j) → ∀ j, (F m).testBit j = true → P j) : ∀ (i m : Nat), (∀ j, m.testBit j = true → P j) → ∀ j, (sb_it F i m).testBit j = true → P j
  | 0, _, hm => hm
  | i + 1, m, hm => sb_itP hF i (F m) (hF m hm)
theorem sb_bit {j i : Nat} : (2 ^ j).testBit i = true ↔ j = i := by
  rw [Nat.testBit_two_pow, decide_eq_true_iff]
theorem sb_or {a b j : Nat} : (a ||| b).testBit j = true ↔ (a.testBit j = true ∨ b.testBit j = true) := by
  rw [Nat.testBit_or, Bool.or_eq_true]
theorem sb_sub {a b : Nat} (h : ∀ j, a.testBit j = true → b.testBit j = true) : a ||| b = b := by
  refine Nat.eq_of_testBit_eq (fun j => ?_)
  rw [Nat.testBit_or]
  cases ha : a.testBit j with
  | false => rfl
  | true => rw [h j ha]; rfl
theorem sb_ext {a b : Nat} (h : ∀ j, a.testBit j = true ↔ b.testBit j = true) : a = b := by
  refine Nat.eq_of_testBit_eq (fun j => ?_)
  cases ha : a.testBit j with
  | false =>
    cases hb : b.testBit j with
    | false => rfl
    | true => exact absurd ((h j).mpr hb) (by rw [ha]; decide)
  | true => exact ((h j).mp ha).symm
theorem sb_lt6 {m j : Nat} (hm : m < 64) (h : m.testBit j = true) : j < 6 := by
  refine Nat.lt_of_not_le (fun q => ?_)
  rw [Nat.testBit_lt_two_pow (Nat.lt_of_lt_of_le hm (show 64 ≤ 2 ^ j from Nat.pow_le_pow_right (n := 2) (i := 6) (by omega) q))] at h
  exact absurd h (by decide)
/-! a pass over the wires that adds boxes: where c holds of the set so far, g is added -/
def sb_ps (N : bn_N) (c : Nat → Nat → Bool) (g : Nat → Nat) : Nat → Nat → Nat := fun w a => if bw_h (bn_wr N w) = true ∧ c w a = true then a ||| g w else a
theorem sb_psS {N : bn_N} {c : Nat → Nat → Bool} {g : Nat → Nat} {w a : Nat} : ∀ j, a.testBit j = true → (sb_ps N c g w a).testBit j = true := fun j hj => by
  unfold sb_ps
  by_cases q : bw_h (bn_wr N w) = true ∧ c w a = true
  · rw [if_pos q]
    exact sb_or.mpr (Or.inl hj)
  · rw [if_neg q]
    exact hj
theorem sb_fS {N : bn_N} {c : Nat → Nat → Bool} {g : Nat → Nat} : ∀ (k w a : Nat), ∀ j, a.testBit j = true → (bfold (sb_ps N c g) k w a).testBit j = true
  | 0, _, _, _, h => h
  | k + 1, w, a, j, h => sb_fS k (w + 1) (sb_ps N c g w a) j (sb_psS j h)
theorem sb_fl {N : bn_N} {c : Nat → Nat → Bool} {g : Nat → Nat} (hg : ∀ w, bw_h (bn_wr N w) = true → g w < 64) : ∀ (k w a : Nat), a < 64 → bfold (sb_ps N c g) k w a < 64
  | 0, _, _, h => h
  | k + 1, w, a, h => by
    refine sb_fl hg k (w + 1) (sb_ps N c g w a) ?_
    unfold sb_ps
    by_cases q : bw_h (bn_wr N w) = true ∧ c w a = true
    · rw [if_pos q]
      exact sb_l h (hg w q.1)
    · rw [if_neg q]
      exact h
/-- members of what is added have P, if c goes by P -/
theorem sb_fP {N : bn_N} {c : Nat → Nat → Bool} {g : Nat → Nat} {P : Nat → Prop} (hP : ∀ w a, bw_h (bn_wr N w) = true → (∀ j, a.testBit j = true → P j) → c w a = true → ∀ j, (g w).testBit j = true → P j) : ∀ (k w a : Nat), (∀ j, a.testBit j = true → P j) → ∀ j, (bfold (sb_ps N c g) k w a).testBit j = true → P j
  | 0, _, _, h => h
  | k + 1, w, a, h => by
    refine sb_fP hP k (w + 1) (sb_ps N c g w a) (fun j hj => ?_)
    unfold sb_ps at hj
    by_cases q : bw_h (bn_wr N w) = true ∧ c w a = true
    · rw [if_pos q] at hj
      rcases sb_or.mp hj with z | z
      · exact h j z
      · exact hP w a q.1 h q.2 j z
    · rw [if_neg q] at hj
      exact h j hj
/-- each wire's share is in it, by the set at its start -/
theorem sb_fC {N : bn_N} {c : Nat → Nat → Bool} {g : Nat → Nat} (hc : ∀ w a b, (∀ j, a.testBit j = true → b.testBit j = true) → c w a = true → c w b = true) : ∀ (k w a v : Nat), w ≤ v → v < w + k → bw_h (bn_wr N v) = true → c v a = true → ∀ j, (g v).testBit j = true → (bfold (sb_ps N c g) k w a).testBit j = true
  | 0, w, a, v, h1, h2 => by omega
  | k + 1, w, a, v, h1, h2 => fun hh hv j hj => by
    by_cases e : v = w
    · subst e
      refine sb_fS k (v + 1) (sb_ps N c g v a) j ?_
      unfold sb_ps
      rw [if_pos ⟨hh, hv⟩]
      exact sb_or.mpr (Or.inr hj)
    · exact sb_fC hc k (w + 1) (sb_ps N c g w a) v (by omega) (by omega) hh (hc v a _ (fun i hi => sb_psS i hi) hv) j hj
/-! onward, and what is reached -/
abbrev rc_g (N : bn_N) (w : Nat) : Nat := 2 ^ bw_t (bn_wr N w)
def rc_on (N : bn_N) (m : Nat) : Nat := bfold (sb_ps N (fun w _ => m.testBit (bw_f (bn_wr N w))) (rc_g N)) 8 0 0
abbrev rc_st (N : bn_N) (m : Nat) : Nat := m ||| rc_on N m
def rc_C (N : bn_N) (b : Nat) : Nat := sb_it (rc_st N) 5 (rc_on N (2 ^ b))
abbrev rc_mc (N : bn_N) (b : Nat) : Nat → Nat → Bool := fun w a => decide (bw_f (bn_wr N w) = b) || a.testBit (bw_f (bn_wr N w))
def rc_ps (N : bn_N) (b m : Nat) : Nat := bfold (sb_ps N (rc_mc N b) (rc_g N)) 8 0 m
def rc_M (N : bn_N) (b : Nat) : Nat := sb_it (rc_ps N b) 7 0
theorem rc_gl {N : bn_N} (hok : bn_ok N) : ∀ w, bw_h (bn_wr N w) = true → rc_g N w < 64 := fun w hw => sb_p (by have := ((hok.2.2.2.1 w).1 hw).2.1; have := hok.1; omega)
theorem rc_onl {N : bn_N} (hok : bn_ok N) (m : Nat) : rc_on N m < 64 := sb_fl (rc_gl hok) 8 0 0 (by omega)
theorem rc_psl {N : bn_N} (hok : bn_ok N) {b m : Nat} (hm : m < 64) : rc_ps N b m < 64 := sb_fl (rc_gl hok) 8 0 m hm
theorem rc_onI {N : bn_N} {m w : Nat} (hw : w < 8) (hh : bw_h (bn_wr N w) = true) (hm : m.testBit (bw_f (bn_wr N w)) = true) : (rc_on N m).testBit (bw_t (bn_wr N w)) = true := sb_fC (N := N) (c := fun w _ => m.testBit (bw_f (bn_wr N w))) (g := rc_g N) (fun _ _ _ _ h => h) 8 0 0 w (by omega) (by omega) hh hm _ (sb_bit.mpr rfl)
theorem rc_onE {N : bn_N} {m : Nat} {P : Nat → Prop} (hP : ∀ w, bw_h (bn_wr N w) = true → m.testBit (bw_f (bn_wr N w)) = true → P (bw_t (bn_wr N w))) : ∀ j, (rc_on N m).testBit j = true → P j := sb_fP (fun w a hh _ hc j hj => by rw [← sb_bit.mp hj]; exact hP w hh hc) 8 0 0 (fun j hj => by rw [Nat.zero_testBit] at hj; exact absurd hj (by decide))
/-- closed: what a wire leads to from b or from within -/
abbrev rc_cl (N : bn_N) (b : Nat) (P : Nat → Prop) : Prop := ∀ w, w < 8 → bw_h (bn_wr N w) = true → (bw_f (bn_wr N w) = b ∨ P (bw_f (bn_wr N w))) → P (bw_t (bn_wr N w))
theorem rc_w8 {N : bn_N} (hok : bn_ok N) {w : Nat} (h : bw_h (bn_wr N w) = true) : w < 8 := by
  refine Nat.lt_of_not_le (fun q => ?_)
  have := hok.2.1
  rw [hok.2.2.2.2 w (by omega)] at h
  exact absurd h (by decide)
theorem rc_stF {N : bn_N} (hok : bn_ok N) : ∀ m, m < 64 → rc_st N m < 64 ∧ m ||| rc_st N m = rc_st N m := fun m hm => ⟨sb_l hm (rc_onl hok m), sb_sub (fun j hj => sb_or.mpr (Or.inl hj))⟩
theorem rc_psF {N : bn_N} (hok : bn_ok N) (b : Nat) : ∀ m, m < 64 → rc_ps N b m < 64 ∧ m ||| rc_ps N b m = rc_ps N b m := fun m hm => ⟨rc_psl hok hm, sb_sub (fun j hj => sb_fS 8 0 m j hj)⟩
theorem rc_Cl {N : bn_N} (hok : bn_ok N) (b : Nat) : rc_C N b < 64 := sb_itl (fun m hm => (rc_stF hok m hm).1) 5 _ (rc_onl hok _)
theorem rc_Ml {N : bn_N} (hok : bn_ok N) (b : Nat) : rc_M N b < 64 := sb_itl (fun m hm => (rc_psF hok b m hm).1) 7 _ (by omega)
theorem rc_Cmin {N : bn_N} (hok : bn_ok N) {b : Nat} {P : Nat → Prop} (hP : rc_cl N b P) : ∀ j, (rc_C N b).testBit j = true → P j := by
  refine sb_itP (fun m hm j hj => ?_) 5 _ (rc_onE (fun w hh hm => hP w (rc_w8 hok hh) hh (Or.inl (sb_bit.mp hm).symm)))
  rcases sb_or.mp hj with z | z
  · exact hm j z
  · exact rc_onE (fun w hh hw => hP w (rc_w8 hok hh) hh (Or.inr (hm _ hw))) j z
theorem rc_Mmin {N : bn_N} (hok : bn_ok N) {b : Nat} {P : Nat → Prop} (hP : rc_cl N b P) : ∀ j, (rc_M N b).testBit j = true → P j := by
  refine sb_itP (fun m hm => sb_fP (fun w a hh ha hc j hj => ?_) 8 0 m hm) 7 0 (fun j hj => by rw [Nat.zero_testBit] at hj; exact absurd hj (by decide))
  rw [← sb_bit.mp hj]
  refine hP w (rc_w8 hok hh) hh ?_
  rcases (Bool.or_eq_true _ _).mp hc with z | z
  · exact Or.inl (of_decide_eq_true z)
  · exact Or.inr (ha _ z)
theorem rc_Ccl {N : bn_N} (hok : bn_ok N) (b : Nat) : rc_cl N b (fun j => (rc_C N b).testBit j = true) := by
  have hst : rc_st N (rc_C N b) = rc_C N b := by
    rcases sb_p10 ⟨rc_on N (2 ^ b), rc_onl hok _⟩ with e | e
    · have e : rc_on N (2 ^ b) = 0 := e
      have e0 : rc_st N 0 = 0 := by
        refine sb_ext (fun j => ?_)
        constructor
        · intro h
          rcases sb_or.mp h with z | z
          · exact z
          · exact absurd (rc_onE (P := fun _ => False) (fun w _ hw => by rw [Nat.zero_testBit] at hw; exact absurd hw (by decide)) j z) id
        · intro h
          exact sb_or.mpr (Or.inl h)
      unfold rc_C
      rw [e, sb_fix e0 5, e0]
    · exact sb_stab (rc_stF hok) 5 _ (rc_onl hok _) (by have : 1 ≤ sb_pc (rc_on N (2 ^ b)) := e; omega)
  have keep : ∀ j, (rc_on N (2 ^ b)).testBit j = true → (rc_C N b).testBit j = true := by
    have : ∀ (i m : Nat), ∀ j, m.testBit j = true → (sb_it (rc_st N) i m).testBit j = true := by
      intro i
      induction i with
      | zero => intro m j h; exact h
      | succ i ih => intro m j h; exact ih (rc_st N m) j (sb_or.mpr (Or.inl h))
    exact this 5 _
  intro w hw hh hc
  rcases hc with z | z
  · exact keep _ (rc_onI hw hh (sb_bit.mpr z.symm))
  · show (rc_C N b).testBit _ = true
    rw [← hst]
    exact sb_or.mpr (Or.inr (rc_onI hw hh z))
theorem rc_Mcl {N : bn_N} (hok : bn_ok N) (b : Nat) : rc_cl N b (fun j => (rc_M N b).testBit j = true) := by
  have hst : rc_ps N b (rc_M N b) = rc_M N b := sb_stab (rc_psF hok b) 7 0 (by omega) (by omega)
  intro w hw hh hc
  show (rc_M N b).testBit _ = true
  rw [← hst]
  refine sb_fC (fun w a c hac h => ?_) 8 0 _ w (by omega) (by omega) hh ?_ _ (sb_bit.mpr rfl)
  · rcases (Bool.or_eq_true _ _).mp h with z | z
    · exact (Bool.or_eq_true _ _).mpr (Or.inl z)
    · exact (Bool.or_eq_true _ _).mpr (Or.inr (hac _ z))
  · refine (Bool.or_eq_true _ _).mpr ?_
    rcases hc with z | z
    · exact Or.inl (decide_eq_true z)
    · exact Or.inr z
theorem rc_eq {N : bn_N} (hok : bn_ok N) (b : Nat) : rc_C N b = rc_M N b := sb_ext (fun j => ⟨fun h => rc_Cmin hok (rc_Mcl hok b) j h, fun h => rc_Mmin hok (rc_Ccl hok b) j h⟩)
