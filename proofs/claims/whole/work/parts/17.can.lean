/-! who can fire -/
abbrev cf_1 (x : bn_W) (q b : Nat) : Prop := bw_h x = true → (bw_t x = b → bw_k x ≤ q) ∧ (bw_f x = b → q + bw_p x ≤ 99 + (if bw_t x = b then bw_k x else 0))
def cf_B (N : bn_N) (q : Nat → Nat) (b : Nat) : Nat → Nat → Bool
  | 0, _ => true
  | k + 1, w => decide (cf_1 (bn_wr N w) (q w) b) && cf_B N q b k (w + 1)
abbrev cf_w (N : bn_N) (q : Nat → Nat) (b w : Nat) : Prop := cf_B N q b (8 - w) w = true
theorem cf_BI {N : bn_N} {q : Nat → Nat} {b : Nat} : ∀ (k w : Nat), cf_B N q b k w = true ↔ ∀ v, w ≤ v → v < w + k → cf_1 (bn_wr N v) (q v) b
  | 0, w => ⟨fun _ v h1 h2 => by omega, fun _ => rfl⟩
  | k + 1, w => by
    show (decide (cf_1 (bn_wr N w) (q w) b) && cf_B N q b k (w + 1)) = true ↔ _
    rw [Bool.and_eq_true, decide_eq_true_iff, cf_BI k (w + 1)]
    constructor
    · intro ⟨h1, h2⟩ v a c
      by_cases e : v = w
      · subst e; exact h1
      · exact h2 v (by omega) (by omega)
    · intro h
      exact ⟨h w (by omega) (by omega), fun v a c => h v (by omega) (by omega)⟩
theorem cf_wI {N : bn_N} {q : Nat → Nat} {b w : Nat} : cf_w N q b w ↔ ∀ v, w ≤ v → v < 8 → cf_1 (bn_wr N v) (q v) b := by
  rw [show cf_w N q b w ↔ _ from cf_BI (8 - w) w]
  constructor
  · intro h v a c
    exact h v a (by omega)
  · intro h v a c
    exact h v a (by omega)
abbrev cf_q (N : bn_N) (q : Nat → Nat) (b : Nat) : Prop := cf_w N q b 0
abbrev bn_q (N : bn_N) (w : Nat) : Nat := (bw_q (bn_wr N w)).length
abbrev bn_can (N : bn_N) (b : Nat) : Prop := cf_q N (bn_q N) b
theorem cf_st {α : Type} {N : bn_N} {q : Nat → Nat} {b w : Nat} {x y : α} (h : cf_1 (bn_wr N w) (q w) b) : (if cf_w N q b w then x else y) = (if cf_w N q b (w + 1) then x else y) := by
  by_cases g : cf_w N q b (w + 1)
  · rw [if_pos g, if_pos]
    refine cf_wI.mpr (fun v h1 h2 => ?_)
    by_cases e : v = w
    · subst e; exact h
    · exact cf_wI.mp g v (by omega) h2
  · rw [if_neg g, if_neg]
    intro z
    exact g (cf_wI.mpr (fun v h1 h2 => cf_wI.mp z v (by omega) h2))
theorem cf_nf {α : Type} {N : bn_N} {q : Nat → Nat} {b w : Nat} {x y : α} (hw : w < 8) (h : ¬ cf_1 (bn_wr N w) (q w) b) : (if cf_w N q b w then x else y) = y := if_neg (fun z => h (cf_wI.mp z w (Nat.le_refl _) hw))
abbrev ch_p (x : bn_W) (b : Nat) : Nat := if bw_h x = true ∧ bw_f x = b then bw_p x else 0
abbrev ch_k (x : bn_W) (b : Nat) : Nat := if bw_h x = true ∧ bw_t x = b then bw_k x else 0
section CAN
variable {I : Nat → Nat → Int32} {L : Nat → Nat → Int64}
theorem cl_goesTo {o nb b : Nat} {x : bn_W} (h : bc_W I o x) (hok : bw_ok nb x) (hnb : nb ≤ 6) (hb : b < 100000) : f_X10_goesTo o (nI b) I L = some ((if bw_h x = true ∧ bw_t x = b then 1 else 0), I, L) := by
  unfold f_X10_goesTo
  rw [h.2.1]
  by_cases hh : bw_h x = true
  · have := (hok.1 hh).2.1
    rw [if_pos hh, if_neg bp_10, (h.1 hh).2.1]
    by_cases e : bw_t x = b
    · rw [if_pos (congrArg nI e), if_pos ⟨hh, e⟩]
    · rw [if_neg (fun z => e (by rwa [bp_eq (by omega) hb] at z)), if_neg (fun z => e z.2)]
  · rw [if_neg hh, if_pos rfl, if_neg (fun z => hh z.1)]
theorem cl_comesFrom {o nb b : Nat} {x : bn_W} (h : bc_W I o x) (hok : bw_ok nb x) (hnb : nb ≤ 6) (hb : b < 100000) : f_X10_comesFrom o (nI b) I L = some ((if bw_h x = true ∧ bw_f x = b then 1 else 0), I, L) := by
  unfold f_X10_comesFrom
  rw [h.2.1]
  by_cases hh : bw_h x = true
  · have := (hok.1 hh).1
    rw [if_pos hh, if_neg bp_10, (h.1 hh).1]
    by_cases e : bw_f x = b
    · rw [if_pos (congrArg nI e), if_pos ⟨hh, e⟩]
    · rw [if_neg (fun z => e (by rwa [bp_eq (by omega) hb] at z)), if_neg (fun z => e z.2)]
  · rw [if_neg hh, if_pos rfl, if_neg (fun z => hh z.1)]
theorem cl_changeBy {o nb b : Nat} {x : bn_W} (h : bc_W I o x) (hok : bw_ok nb x) (hnb : nb ≤ 6) (hb : b < 100000) : f_X10_changeBy o (nI b) I L = some (nI (ch_p x b) - nI (ch_k x b), I, L) := by
  unfold f_X10_changeBy f_X10_changeBy_p16
  rw [cl_comesFrom h hok hnb hb]
  simp only [Option.bind_some]
  rw [cl_goesTo h hok hnb hb]
  simp only [Option.bind_some]
  by_cases e1 : bw_h x = true ∧ bw_f x = b
  · by_cases e2 : bw_h x = true ∧ bw_t x = b
    · simp only [if_pos e1, if_pos e2]
      rw [if_neg bp_10, if_neg bp_10, (h.1 e1.1).2.2.1, (h.1 e1.1).2.2.2]
    · simp only [if_pos e1, if_neg e2]
      rw [if_neg bp_10, if_pos trivial, (h.1 e1.1).2.2.1]
      rfl
  · by_cases e2 : bw_h x = true ∧ bw_t x = b
    · simp only [if_neg e1, if_pos e2]
      rw [if_pos trivial, if_neg bp_10, (h.1 e2.1).2.2.2]
      rfl
    · simp only [if_neg e1, if_neg e2]
      rw [if_pos trivial, if_pos trivial]
      rfl
theorem ch_le {nb b : Nat} {x : bn_W} (hok : bw_ok nb x) : ch_p x b ≤ 4 ∧ ch_k x b ≤ 4 := by
  constructor
  · by_cases e : bw_h x = true ∧ bw_f x = b
    · rw [show ch_p x b = bw_p x from if_pos e]
      exact (hok.1 e.1).2.2.2.1
    · rw [show ch_p x b = 0 from if_neg e]
      omega
  · by_cases e : bw_h x = true ∧ bw_t x = b
    · rw [show ch_k x b = bw_k x from if_pos e]
      exact (hok.1 e.1).2.2.2.2.2
    · rw [show ch_k x b = 0 from if_neg e]
      omega
theorem cf_iff {x : bn_W} {q b : Nat} : cf_1 x q b ↔ ((bw_h x = true ∧ bw_t x = b) → bw_k x ≤ q) ∧ ((bw_h x = true ∧ bw_f x = b) → q + bw_p x ≤ 99 + ch_k x b) := by
  constructor
  · intro h
    refine ⟨fun z => (h z.1).1 z.2, fun z => ?_⟩
    have := (h z.1).2 z.2
    by_cases e : bw_t x = b
    · rw [if_pos e] at this
      rw [show ch_k x b = bw_k x from if_pos ⟨z.1, e⟩]
      exact this
    · rw [if_neg e] at this
      omega
  · intro h hh
    refine ⟨fun z => h.1 ⟨hh, z⟩, fun z => ?_⟩
    have := h.2 ⟨hh, z⟩
    by_cases e : bw_t x = b
    · rw [if_pos e]
      rw [show ch_k x b = bw_k x from if_pos ⟨hh, e⟩] at this
      exact this
    · rw [if_neg e]
      rw [show ch_k x b = 0 from if_neg (fun y => e y.2)] at this
      exact this
theorem bp_chg {q p k : Nat} (hq : q < 100000) (hp : p < 100000) (hk : k < 100000) : (nI q + (nI p - nI k)).toInt = (q : Int) + p - k := by
  rw [Int32.toInt_add, bp_subI (by omega) (by omega), nI_toInt (by omega), Int.bmod_eq_of_le (by omega) (by omega)]
  omega
theorem cl_canFire_2 {c o b : Nat} {N : bn_N} {q : Nat → Nat} (hok : bn_ok N) (hN : bc_N I o N) (hq : ∀ w, w < 8 → I (c + 1) w = nI (q w) ∧ q w ≤ 9999) (hb : b < 6) (K : (Nat → Nat → Int32) → (Nat → Nat → Int64) → Option (Int32 × bf_St)) : ∀ (n w : Nat), w ≤ 8 → 8 < w + n → f_X2_canFire_2 c o (nI b) K n (nI w) I L = if cf_w N q b w then K I L else some (0, I, L)
  | 0, w, h1, h2 => by omega
  | n + 1, w, h1, h2 => by
    rw [f_X2_canFire_2]
    by_cases hw : w = 8
    · subst hw
      rw [if_pos (by decide), if_pos (cf_wI.mpr (fun v q1 q2 => by omega))]
    · have hx := hN.2.2.2 w (by omega)
      have hxo := hok.2.2.2.1 w
      have hle := ch_le (b := b) hxo
      have o1 := hok.1
      obtain ⟨q1, q2⟩ := hq w (by omega)
      rw [if_neg (show ¬ (8 : Int32) ≤ nI w from nI_ge (b := 8) (by omega) (by omega)), if_pos (bp_ok (by omega) (by omega))]
      simp only [bp_cl (show w < 100000 by omega), bp_p1, cl_canFire_2 hok hN hq hb K n (w + 1) (by omega) (by omega), cl_goesTo hx hxo o1 (show b < 100000 by omega), cl_comesFrom hx hxo o1 (show b < 100000 by omega), cl_changeBy hx hxo o1 (show b < 100000 by omega), Option.bind_some, q1]
      have hsum : ((nI (q w) + (nI (ch_p (bn_wr N w) b) - nI (ch_k (bn_wr N w) b))) ≤ (99 : Int32)) ↔ q w + ch_p (bn_wr N w) b ≤ 99 + ch_k (bn_wr N w) b := by
        rw [bp_leI, bp_chg (by omega) (by omega) (by omega), show (99 : Int32).toInt = 99 from rfl]
        omega
      by_cases e1 : bw_h (bn_wr N w) = true ∧ bw_t (bn_wr N w) = b
      · rw [if_pos e1, if_neg bp_10, if_pos (bp_ok (by omega) (by omega)), (hx.1 e1.1).2.2.2]
        have kle := (hxo.1 e1.1).2.2.2.2.2
        by_cases k1 : bw_k (bn_wr N w) ≤ q w
        · rw [if_pos (nI_le k1 (by omega))]
          by_cases e2 : bw_h (bn_wr N w) = true ∧ bw_f (bn_wr N w) = b
          · rw [if_pos e2, if_neg bp_10, if_pos (bp_ok (by omega) (by omega))]
            by_cases e3 : q w + ch_p (bn_wr N w) b ≤ 99 + ch_k (bn_wr N w) b
            · rw [if_pos (hsum.mpr e3), cf_st (w := w)]
              rw [show ch_p (bn_wr N w) b = bw_p (bn_wr N w) from if_pos e2] at e3
              exact cf_iff.mpr ⟨fun _ => k1, fun _ => e3⟩
            · rw [if_neg (fun z => e3 (hsum.mp z)), cf_nf (by omega)]
              intro z
              rw [show ch_p (bn_wr N w) b = bw_p (bn_wr N w) from if_pos e2] at e3
              exact e3 ((cf_iff.mp z).2 e2)
          · rw [if_neg e2, if_pos rfl, cf_st (w := w)]
            exact cf_iff.mpr ⟨fun _ => k1, fun z => absurd z e2⟩
        · rw [if_neg (nI_ge (by omega) (by omega)), cf_nf (by omega)]
          exact fun z => k1 ((cf_iff.mp z).1 e1)
      · rw [if_neg e1, if_pos rfl]
        by_cases e2 : bw_h (bn_wr N w) = true ∧ bw_f (bn_wr N w) = b
        · rw [if_pos e2, if_neg bp_10, if_pos (bp_ok (by omega) (by omega))]
          by_cases e3 : q w + ch_p (bn_wr N w) b ≤ 99 + ch_k (bn_wr N w) b
          · rw [if_pos (hsum.mpr e3), cf_st (w := w)]
            rw [show ch_p (bn_wr N w) b = bw_p (bn_wr N w) from if_pos e2] at e3
            exact cf_iff.mpr ⟨fun z => absurd z e1, fun _ => e3⟩
          · rw [if_neg (fun z => e3 (hsum.mp z)), cf_nf (by omega)]
            intro z
            rw [show ch_p (bn_wr N w) b = bw_p (bn_wr N w) from if_pos e2] at e3
            exact e3 ((cf_iff.mp z).2 e2)
        · rw [if_neg e2, if_pos rfl, cf_st (w := w)]
          exact cf_iff.mpr ⟨fun z => absurd z e1, fun z => absurd z e2⟩
theorem cl_canFire {c o b : Nat} {N : bn_N} {q : Nat → Nat} (hok : bn_ok N) (hN : bc_N I o N) (hq : ∀ w, w < 8 → I (c + 1) w = nI (q w) ∧ q w ≤ 9999) (hb : b < 6) : f_X2_canFire c o (nI b) I L = some ((if cf_q N q b then 1 else 0), I, L) := by
  unfold f_X2_canFire
  rw [show (0 : Int32) = nI 0 from rfl, cl_canFire_2 hok hN hq hb _ 400 0 (by omega) (by omega)]
  by_cases z : cf_w N q b 0
  · rw [if_pos z, if_pos z]
  · rw [if_neg z, if_neg z]
    rfl
theorem ml_canFire_2 {o b : Nat} {N : bn_N} (hok : bn_ok N) (hN : bm_N (I (o + 1)) N) (hb : b < 6) (K : (Nat → Nat → Int32) → (Nat → Nat → Int64) → Option (Int32 × bf_St)) : ∀ (n w : Nat), w ≤ bn_nw N → bn_nw N < w + n → f_X12_canFire_2 o (nI b) K n (nI w) I L = if cf_w N (bn_q N) b w then K I L else some (0, I, L)
  | 0, w, h1, h2 => by omega
  | n + 1, w, h1, h2 => by
    have o1 := hok.1
    have o2 := hok.2.1
    rw [f_X12_canFire_2, bp_1, hN.2.1]
    by_cases hw : w = bn_nw N
    · rw [if_pos (nI_le (by omega) (by omega)), if_pos]
      refine cf_wI.mpr (fun v h1 h2 hh => ?_)
      rw [hok.2.2.2.2 v (by omega)] at hh
      exact absurd hh Bool.false_ne_true
    · have hx := hN.2.2.2 w (by omega)
      have hxo := hok.2.2.2.1 w
      have hl : bn_q N w ≤ 99 := hxo.2.1
      rw [if_neg (nI_ge (by omega) (by omega)), mm_isWn hok hN (by omega)]
      simp only [Option.bind_some]
      by_cases hh : bw_h (bn_wr N w) = true
      · obtain ⟨s1, s2, s3, s4⟩ := hx.1 hh
        obtain ⟨t1, t2, t3, t4, t5, t6⟩ := hxo.1 hh
        rw [if_pos hh, if_neg bp_10]
        simp only [bp_p1, ml_canFire_2 hok hN hb K n (w + 1) (by omega) (by omega), me_tokens (show w < 8 by omega), me_to (show w < 8 by omega), me_takes (show w < 8 by omega), me_from (show w < 8 by omega), me_puts (show w < 8 by omega), Option.bind_some, s1, s2, s3, s4, hx.2.2.1]
        by_cases e1 : bw_t (bn_wr N w) = b
        · rw [if_pos (congrArg nI e1), if_pos (congrArg nI e1)]
          by_cases k1 : bw_k (bn_wr N w) ≤ bn_q N w
          · rw [if_neg (show ¬ nI (bn_q N w) - nI (bw_k (bn_wr N w)) < 0 by rw [pk_sub k1]; exact nI_pos (by omega)), pk_sub k1, nI_add]
            by_cases e2 : bw_f (bn_wr N w) = b
            · rw [if_pos (congrArg nI e2)]
              by_cases e3 : bn_q N w + bw_p (bn_wr N w) ≤ 99 + bw_k (bn_wr N w)
              · rw [if_pos (show nI (bn_q N w - bw_k (bn_wr N w) + bw_p (bn_wr N w)) ≤ (99 : Int32) from nI_le (b := 99) (by omega) (by omega)), cf_st (w := w)]
                intro _
                exact ⟨fun _ => k1, fun _ => by rw [if_pos e1]; exact e3⟩
              · rw [if_neg (show ¬ nI (bn_q N w - bw_k (bn_wr N w) + bw_p (bn_wr N w)) ≤ (99 : Int32) from nI_ge (a := 99) (by omega) (by omega)), cf_nf (by omega)]
                intro z
                have := (z hh).2 e2
                rw [if_pos e1] at this
                exact e3 this
            · rw [if_neg (fun z => e2 (by rwa [bp_eq (by omega) (by omega)] at z)), cf_st (w := w)]
              intro _
              exact ⟨fun _ => k1, fun z => absurd z e2⟩
          · rw [if_pos (show nI (bn_q N w) - nI (bw_k (bn_wr N w)) < 0 from pk_sneg (by omega) (by omega)), cf_nf (by omega)]
            exact fun z => k1 ((z hh).1 e1)
        · have e1' : ¬ nI (bw_t (bn_wr N w)) = nI b := fun z => e1 (by rwa [bp_eq (by omega) (by omega)] at z)
          rw [if_neg e1', if_neg e1', Int32.sub_zero, nI_add]
          by_cases e2 : bw_f (bn_wr N w) = b
          · rw [if_pos (congrArg nI e2)]
            by_cases e3 : bn_q N w + bw_p (bn_wr N w) ≤ 99
            · rw [if_pos (show nI (bn_q N w + bw_p (bn_wr N w)) ≤ (99 : Int32) from nI_le (b := 99) (by omega) (by omega)), cf_st (w := w)]
              intro _
              exact ⟨fun z => absurd z e1, fun _ => by rw [if_neg e1]; exact e3⟩
            · rw [if_neg (show ¬ nI (bn_q N w + bw_p (bn_wr N w)) ≤ (99 : Int32) from nI_ge (a := 99) (by omega) (by omega)), cf_nf (by omega)]
              intro z
              have := (z hh).2 e2
              rw [if_neg e1] at this
              exact e3 this
          · rw [if_neg (fun z => e2 (by rwa [bp_eq (by omega) (by omega)] at z)), cf_st (w := w)]
            intro _
            exact ⟨fun z => absurd z e1, fun z => absurd z e2⟩
      · rw [if_neg hh, if_pos rfl, bp_p1, ml_canFire_2 hok hN hb K n (w + 1) (by omega) (by omega), cf_st (w := w)]
        exact fun z => absurd z hh
theorem ml_canFire {o b : Nat} {N : bn_N} (hok : bn_ok N) (hN : bm_N (I (o + 1)) N) (hb : b < 6) : f_X12_canFire o (nI b) I L = some ((if bn_can N b then 1 else 0), I, L) := by
  have o2 := hok.2.1
  unfold f_X12_canFire
  rw [show (0 : Int32) = nI 0 from rfl, ml_canFire_2 hok hN hb _ 400 0 (by omega) (by omega)]
  by_cases z : cf_w N (bn_q N) b 0
  · rw [if_pos z, if_pos z]
  · rw [if_neg z, if_neg z]
    rfl
theorem cl_load_2 {c o : Nat} {N : bn_N} (hd : c + 1 < o ∨ o + 25 ≤ c + 1) (hok : bn_ok N) (K : (Nat → Nat → Int32) → (Nat → Nat → Int64) → Option bf_St) : ∀ (n w : Nat) (I : Nat → Nat → Int32), w ≤ 8 → 8 < w + n → bc_N I o N → ∃ I1, f_X2_load_2 c o K n (nI w) I L = K I1 L ∧ (∀ v, w ≤ v → v < 8 → I1 (c + 1) v = nI (bn_q N v)) ∧ (∀ v, v < w → I1 (c + 1) v = I (c + 1) v) ∧ ∀ r, r ≠ c + 1 → I1 r = I r
  | 0, w, I, h1, h2, hN => by omega
  | n + 1, w, I, h1, h2, hN => by
    rw [f_X2_load_2]
    by_cases hw : w = 8
    · subst hw
      exact ⟨I, if_pos (by decide), fun v q1 q2 => by omega, fun v _ => rfl, fun r _ => rfl⟩
    · rw [if_neg (show ¬ (8 : Int32) ≤ nI w from nI_ge (b := 8) (by omega) (by omega)), if_pos (bp_ok (by omega) (by omega)), if_pos (bp_ok (by omega) (by omega)), bp_cl (by omega), bp_p1, (hN.2.2.2 w (by omega)).2.2.1]
      obtain ⟨I1, e1, e2, e3, e4⟩ := cl_load_2 hd hok K n (w + 1) (bf_u I (c + 1) w (nI (bn_q N w))) (by omega) (by omega) (hN.cg (fun q q1 q2 => bf_u_ne (by omega)) hok)
      refine ⟨I1, e1, fun v q1 q2 => ?_, fun v q1 => ?_, fun r hr => by rw [e4 r hr, bf_u_ne hr]⟩
      · by_cases hv : v = w
        · subst hv
          rw [e3 v (by omega), bf_u_at]
        · exact e2 v (by omega) q2
      · rw [e3 v (by omega), bf_u_ni (by omega)]
theorem cl_load {c o : Nat} {N : bn_N} (hd : c + 1 < o ∨ o + 25 ≤ c + 1) (hok : bn_ok N) (hN : bc_N I o N) : ∃ I1, f_X2_load c o I L = some (I1, L) ∧ (∀ v, v < 8 → I1 (c + 1) v = nI (bn_q N v)) ∧ ∀ r, r ≠ c + 1 → I1 r = I r := by
  obtain ⟨I1, e1, e2, e3, e4⟩ := cl_load_2 (L := L) hd hok (fun I4 L4 => some (I4, L4)) 400 0 I (by omega) (by omega) hN
  exact ⟨I1, e1, fun v hv => e2 v (by omega) hv, e4⟩
theorem cl_can {c o b : Nat} {N : bn_N} (hd : c + 6 + 1 < o ∨ o + 25 ≤ c + 6 + 1) (hok : bn_ok N) (hN : bc_N I o N) (hb : b < 6) : ∃ I1, f_X6_canFire c o (nI b) I L = some ((if bn_can N b then 1 else 0), I1, L) ∧ ∀ r, r ≠ c + 6 + 1 → I1 r = I r := by
  obtain ⟨I1, e1, e2, e3⟩ := cl_load (L := L) (c := c + 6) hd hok hN
  refine ⟨I1, ?_, e3⟩
  unfold f_X6_canFire
  rw [e1]
  simp only [Option.bind_some]
  rw [cl_canFire (q := bn_q N) hok (hN.cg (fun q q1 q2 => e3 q (by omega)) hok) (fun w hw => ⟨e2 w hw, Nat.le_trans (hok.2.2.2.1 w).2.1 (by omega)⟩) hb]
  simp only [Option.bind_some]
  by_cases z : bn_can N b
  · rw [show (if cf_q N (bn_q N) b then (1 : Int32) else 0) = 1 from if_pos z, if_pos (Or.inr rfl)]
  · rw [show (if cf_q N (bn_q N) b then (1 : Int32) else 0) = 0 from if_neg z, if_pos (Or.inl rfl)]
end CAN
