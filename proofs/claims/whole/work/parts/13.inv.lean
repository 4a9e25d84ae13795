/-! the whole state: net, seen (wire, n, x), plan (what, n), book (wire, n) -/
abbrev bn_S : Type := bn_N × List (Nat × Nat × Int32) × List (Nat × Nat) × List (Nat × Nat)
abbrev bs_n (S : bn_S) : bn_N := S.1
abbrev bs_s (S : bn_S) : List (Nat × Nat × Int32) := S.2.1
abbrev bs_p (S : bn_S) : List (Nat × Nat) := S.2.2.1
abbrev bs_b (S : bn_S) : List (Nat × Nat) := S.2.2.2
def bs_ok (S : bn_S) : Prop := bn_ok (bs_n S) ∧ (bs_s S).length ≤ 5 ∧ (bs_p S).length ≤ 10 ∧ (bs_b S).length ≤ 8 ∧ (∀ x ∈ bs_s S, x.1 < 8 ∧ x.2.1 ≤ 4) ∧ (∀ x ∈ bs_p S, x.1 ≤ 3 ∧ x.2 < 8 ∧ ((x.1 = 0 ∨ x.1 = 2) → x.2 < bn_nb (bs_n S))) ∧ ∀ x ∈ bs_b S, x.1 < 8 ∧ x.2 ≤ 99
def bm_S (r : Nat → Int32) (S : bn_S) : Prop := bm_N r (bs_n S) ∧ r 2 = nI (bs_s S).length ∧ r 3 = nI (bs_p S).length ∧ r 4 = nI (bs_b S).length ∧ (∀ k x, (bs_s S)[k]? = some x → r (23 + 3 * k) = nI x.1 ∧ r (23 + 3 * k + 1) = nI x.2.1 ∧ r (23 + 3 * k + 2) = x.2.2) ∧ (∀ k x, (bs_p S)[k]? = some x → r (38 + 2 * k) = nI x.1 ∧ (x.1 ≠ 3 → r (38 + 2 * k + 1) = nI x.2)) ∧ ∀ k x, (bs_b S)[k]? = some x → r (58 + 2 * k) = nI x.1 ∧ r (58 + 2 * k + 1) = nI x.2
def bc_S (I : Nat → Nat → Int32) (o : Nat) (S : bn_S) : Prop := bc_N I (o + 1) (bs_n S) ∧ I (o + 26) 0 = nI (bs_s S).length ∧ I (o + 30) 0 = nI (bs_p S).length ∧ I (o + 34) 0 = nI (bs_b S).length ∧ (∀ k x, (bs_s S)[k]? = some x → I (o + 27) k = nI x.1 ∧ I (o + 28) k = nI x.2.1 ∧ I (o + 29) k = x.2.2) ∧ (∀ k x, (bs_p S)[k]? = some x → I (o + 31) k = nI x.1 ∧ I (o + 32) k = nI x.2) ∧ ∀ k x, (bs_b S)[k]? = some x → I (o + 35) k = nI x.1 ∧ I (o + 36) k = nI x.2
/-- all: the sheet, the image, the text, the tapes (sort, length, items) -/
abbrev bn_A : Type := bn_S × Option bn_S × List Nat × (Nat → Int32 × Nat × (Nat → Int64))
abbrev ba_s (A : bn_A) : bn_S := A.1
abbrev ba_k (A : bn_A) : Option bn_S := A.2.1
abbrev ba_x (A : bn_A) : List Nat := A.2.2.1
abbrev ba_t (A : bn_A) : Nat → Int32 × Nat × (Nat → Int64) := A.2.2.2
def ba_ok (A : bn_A) : Prop := bs_ok (ba_s A) ∧ (∀ S, ba_k A = some S → bs_ok S) ∧ (ba_x A).length ≤ 100 ∧ (∀ c ∈ ba_x A, c ≤ 127) ∧ ∀ t, t < 6 → (ba_t A t).2.1 ≤ 60 ∧ (((ba_t A t).1 = -1 ∧ (ba_t A t).2.1 = 0) ∨ ∃ k, k ≤ 4 ∧ (ba_t A t).1 = nI k)
def bc_A (I : Nat → Nat → Int32) (L : Nat → Nat → Int64) (A : bn_A) : Prop := bc_S I 1 (ba_s A) ∧ I 0 2 = (match ba_k A with | none => 0 | some _ => 1) ∧ (∀ S, ba_k A = some S → bc_S I 39 S) ∧ I 124 0 = nI (ba_x A).length ∧ (∀ k c, (ba_x A)[k]? = some c → I 125 k = nI c) ∧ ∀ t, t < 6 → I (144 + 2 * t) 0 = (ba_t A t).1 ∧ I (144 + 2 * t) 1 = nI (ba_t A t).2.1 ∧ ∀ k, k < 60 → L (145 + 2 * t) k = (ba_t A t).2.2 k
def bm_A (I : Nat → Nat → Int32) (L : Nat → Nat → Int64) (A : bn_A) : Prop := bm_S (I 157) (ba_s A) ∧ I 156 3 = (match ba_k A with | none => 0 | some _ => 1) ∧ (∀ S, ba_k A = some S → bm_S (I 159) S) ∧ I 156 5 = nI (ba_x A).length ∧ (∀ k c, (ba_x A)[k]? = some c → I 160 k = nI c) ∧ ∀ t, t < 6 → I 170 t = (ba_t A t).1 ∧ I 171 t = nI (ba_t A t).2.1 ∧ ∀ k, k < 60 → L 172 (60 * t + k) = (ba_t A t).2.2 k
def bo_St (I : Nat → Nat → Int32) (L : Nat → Nat → Int64) : Prop := ∃ A, ba_ok A ∧ bc_A I L A ∧ bm_A I L A
/-- a call: class and reference answer the same, and the state stays one -/
def bo_OK {α : Type} (c : Option (α × bf_St)) (m : (Nat → Nat → Int32) → (Nat → Nat → Int64) → Option (α × bf_St)) : Prop := ∃ (x : α) (I1 : Nat → Nat → Int32) (L1 : Nat → Nat → Int64) (I2 : Nat → Nat → Int32) (L2 : Nat → Nat → Int64), c = some (x, I1, L1) ∧ m I1 L1 = some (x, I2, L2) ∧ bo_St I2 L2
/-- what the class's call left of the class's own -/
def bo_fc (I I1 : Nat → Nat → Int32) (L L1 : Nat → Nat → Int64) : Prop := ∀ q, 156 ≤ q → I1 q = I q ∧ L1 q = L q
def bo_fm (I I1 : Nat → Nat → Int32) (L L1 : Nat → Nat → Int64) : Prop := ∀ q, q < 156 → I1 q = I q ∧ L1 q = L q
theorem bc_S.cg {I I2 : Nat → Nat → Int32} {o : Nat} {S : bn_S} (h : bc_S I o S) (hok : bs_ok S) (hI : ∀ q, o < q → q < o + 38 → I2 q = I q) : bc_S I2 o S := by
  obtain ⟨h1, h2, h3, h4, h5, h6, h7⟩ := h
  refine ⟨h1.cg (fun q a b => hI q (by omega) (by omega)) hok.1, by rw [hI _ (by omega) (by omega)]; exact h2, by rw [hI _ (by omega) (by omega)]; exact h3, by rw [hI _ (by omega) (by omega)]; exact h4, fun k x hk => ?_, fun k x hk => ?_, fun k x hk => ?_⟩
  · rw [hI (o + 27) (by omega) (by omega), hI (o + 28) (by omega) (by omega), hI (o + 29) (by omega) (by omega)]
    exact h5 k x hk
  · rw [hI (o + 31) (by omega) (by omega), hI (o + 32) (by omega) (by omega)]
    exact h6 k x hk
  · rw [hI (o + 35) (by omega) (by omega), hI (o + 36) (by omega) (by omega)]
    exact h7 k x hk
theorem bc_A.cg {I I2 : Nat → Nat → Int32} {L L2 : Nat → Nat → Int64} {A : bn_A} (h : bc_A I L A) (hok : ba_ok A) (hI : ∀ q, q < 77 ∨ (124 ≤ q ∧ q ≤ 125) ∨ (143 ≤ q ∧ q < 156) → I2 q = I q ∧ L2 q = L q) : bc_A I2 L2 A := by
  obtain ⟨h1, h2, h3, h4, h5, h6⟩ := h
  refine ⟨h1.cg hok.1 (fun q a b => (hI q (by omega)).1), by rw [(hI 0 (by omega)).1]; exact h2, fun S hS => (h3 S hS).cg (hok.2.1 S hS) (fun q a b => (hI q (by omega)).1), by rw [(hI 124 (by omega)).1]; exact h4, fun k c hk => by rw [(hI 125 (by omega)).1]; exact h5 k c hk, fun t ht => ?_⟩
  rw [(hI (144 + 2 * t) (by omega)).1]
  refine ⟨(h6 t ht).1, (h6 t ht).2.1, fun k hk => ?_⟩
  rw [(hI (145 + 2 * t) (by omega)).2]
  exact (h6 t ht).2.2 k hk
theorem bc_A.fm {I I2 : Nat → Nat → Int32} {L L2 : Nat → Nat → Int64} {A : bn_A} (h : bc_A I L A) (hok : ba_ok A) (hI : bo_fm I I2 L L2) : bc_A I2 L2 A := h.cg hok (fun q hq => hI q (by omega))
theorem bm_A.fc {I I2 : Nat → Nat → Int32} {L L2 : Nat → Nat → Int64} {A : bn_A} (h : bm_A I L A) (hI : bo_fc I I2 L L2) : bm_A I2 L2 A := by
  unfold bm_A at h ⊢
  rw [(hI 157 (by omega)).1, (hI 156 (by omega)).1, (hI 159 (by omega)).1, (hI 160 (by omega)).1, (hI 170 (by omega)).1, (hI 171 (by omega)).1, (hI 172 (by omega)).2]
  exact h
theorem bo_mk {α : Type} {c : Option (α × bf_St)} {m : (Nat → Nat → Int32) → (Nat → Nat → Int64) → Option (α × bf_St)} {x : α} {I1 I2 : Nat → Nat → Int32} {L1 L2 : Nat → Nat → Int64} {A : bn_A} (hc : c = some (x, I1, L1)) (hm : m I1 L1 = some (x, I2, L2)) (fm : bo_fm I1 I2 L1 L2) (hok : ba_ok A) (hC : bc_A I1 L1 A) (hM : bm_A I2 L2 A) : bo_OK c m := ⟨x, I1, L1, I2, L2, hc, hm, A, hok, hC.fm hok fm, hM⟩
/-- a call that leaves all as it was, on both sides -/
theorem bo_same {α : Type} {c : Option (α × bf_St)} {m : (Nat → Nat → Int32) → (Nat → Nat → Int64) → Option (α × bf_St)} {x : α} {I : Nat → Nat → Int32} {L : Nat → Nat → Int64} (h : bo_St I L) (hc : c = some (x, I, L)) (hm : m I L = some (x, I, L)) : bo_OK c m := ⟨x, I, L, I, L, hc, hm, h⟩
/-- pointwise congruences of the reference's row -/
theorem bm_W.cg {r r2 : Nat → Int32} {w : Nat} {x : bn_W} (h : bm_W r w x) (hl : (bw_q x).length ≤ 99) (hr : ∀ k, 74 + 105 * w ≤ k → k < 74 + 105 * w + 105 → r2 k = r k) : bm_W r2 w x := by
  obtain ⟨h1, h2, h3, h4⟩ := h
  refine ⟨fun q => ?_, by rw [hr _ (by omega) (by omega)]; exact h2, by rw [hr _ (by omega) (by omega)]; exact h3, fun i hi => by rw [hr _ (by omega) (by omega)]; exact h4 i hi⟩
  rw [hr (74 + 105 * w) (by omega) (by omega), hr (74 + 105 * w + 1) (by omega) (by omega), hr (74 + 105 * w + 2) (by omega) (by omega), hr (74 + 105 * w + 3) (by omega) (by omega)]
  exact h1 q
theorem bm_N.cg {r r2 : Nat → Int32} {N : bn_N} (h : bm_N r N) (hok : bn_ok N) (hr : ∀ k, (k < 2 ∨ 5 ≤ k ∧ k < 23 ∨ 74 ≤ k) ∧ k < 914 → r2 k = r k) : bm_N r2 N := by
  obtain ⟨h1, h2, h3, h4⟩ := h
  have o1 := hok.1
  have o2 := hok.2.1
  refine ⟨by rw [hr 0 (by omega)]; exact h1, by rw [hr 1 (by omega)]; exact h2, fun b hb => ?_, fun w hw => (h4 w hw).cg (hok.2.2.2.1 w).2.1 (fun k a b => hr k (by omega))⟩
  rw [hr (5 + 3 * b) (by omega), hr (5 + 3 * b + 1) (by omega), hr (5 + 3 * b + 2) (by omega)]
  exact h3 b hb
theorem bs_get {α : Type} {l : List α} {k : Nat} {x : α} (h : l[k]? = some x) : k < l.length := (List.getElem?_eq_some_iff.mp h).1
theorem bm_S.cg {r r2 : Nat → Int32} {S : bn_S} (h : bm_S r S) (hok : bs_ok S) (hr : ∀ k, k < 914 → r2 k = r k) : bm_S r2 S := by
  obtain ⟨h1, h2, h3, h4, h5, h6, h7⟩ := h
  obtain ⟨o1, o2, o3, o4, -⟩ := hok
  refine ⟨h1.cg o1 (fun k hk => hr k (by omega)), by rw [hr 2 (by omega)]; exact h2, by rw [hr 3 (by omega)]; exact h3, by rw [hr 4 (by omega)]; exact h4, fun k x hk => ?_, fun k x hk => ?_, fun k x hk => ?_⟩
  · have := bs_get hk
    rw [hr _ (by omega), hr _ (by omega), hr _ (by omega)]
    exact h5 k x hk
  · have := bs_get hk
    rw [hr _ (by omega), hr _ (by omega)]
    exact h6 k x hk
  · have := bs_get hk
    rw [hr _ (by omega), hr _ (by omega)]
    exact h7 k x hk
/-- the reference's rows but for its own scratch -/
theorem bm_A.cg {I I2 : Nat → Nat → Int32} {L L2 : Nat → Nat → Int64} {A : bn_A} (h : bm_A I L A) (hok : ba_ok A) (h57 : ∀ k, k < 914 → I2 157 k = I 157 k) (h59 : I2 159 = I 159) (h60 : I2 160 = I 160) (h70 : I2 170 = I 170) (h71 : I2 171 = I 171) (hL : L2 172 = L 172) (h3 : I2 156 3 = I 156 3) (h5 : I2 156 5 = I 156 5) : bm_A I2 L2 A := by
  obtain ⟨g1, g2, g3, g4, g5, g6⟩ := h
  refine ⟨g1.cg hok.1 h57, by rw [h3]; exact g2, by rw [h59]; exact g3, by rw [h5]; exact g4, by rw [h60]; exact g5, by rw [h70, h71, hL]; exact g6⟩
