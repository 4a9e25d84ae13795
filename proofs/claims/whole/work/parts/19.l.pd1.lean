/-! a PERIOD, on nets -/
def bn_sta (N M : bn_N) : Prop := bn_nb M = bn_nb N ∧ bn_nw M = bn_nw N ∧ ∀ v, bn_wr M v = bw_sq (bn_wr N v) (bw_q (bn_wr M v))
theorem bn_sta.rf {N : bn_N} : bn_sta N N := ⟨rfl, rfl, fun _ => rfl⟩
theorem bn_sta.tr {N M P : bn_N} (h : bn_sta N M) (h2 : bn_sta M P) : bn_sta N P := ⟨h2.1.trans h.1, h2.2.1.trans h.2.1, fun v => by rw [h2.2.2 v, h.2.2 v]⟩
theorem bn_sta.sy {N M : bn_N} (h : bn_sta N M) : bn_sta M N := ⟨h.1.symm, h.2.1.symm, fun v => by rw [h.2.2 v]⟩
theorem bn_sta.fi (N : bn_N) (b : Nat) : bn_sta N (bn_fire N b) := ⟨rfl, rfl, fun v => by rw [bn_fire_wr]⟩
theorem bn_sta.c1 {N M : bn_N} (h : bn_sta N M) (v q b : Nat) : cf_1 (bn_wr M v) q b ↔ cf_1 (bn_wr N v) q b := by rw [h.2.2 v]
theorem bn_sta.can {N M : bn_N} (h : bn_sta N M) {q : Nat → Nat} (hq : ∀ v, v < 8 → q v = bn_q M v) (b : Nat) : cf_q N q b ↔ bn_can M b := by
  show cf_w N q b 0 ↔ cf_w M (bn_q M) b 0
  rw [cf_wI, cf_wI]
  constructor
  · intro z v v1 v2
    rw [h.c1, ← hq v v2]
    exact z v v1 v2
  · intro z v v1 v2
    rw [← h.c1, hq v v2]
    exact z v v1 v2
theorem bn_sta.ch {N M : bn_N} (h : bn_sta N M) (v b : Nat) : ch_p (bn_wr M v) b = ch_p (bn_wr N v) b ∧ ch_k (bn_wr M v) b = ch_k (bn_wr N v) b := by rw [h.2.2 v]; exact ⟨rfl, rfl⟩
def pd_f (N : bn_N) (l : Nat → Nat) : Nat → Nat → Option Nat
  | 0, _ => none
  | k + 1, b => if 0 < l b ∧ bn_can N b then some b else pd_f N l k (b + 1)
def pd_nx (N : bn_N) (l : Nat → Nat) : Option Nat := pd_f N l 6 0
theorem pd_fS {N : bn_N} {l : Nat → Nat} {c : Nat} : ∀ (k b : Nat), pd_f N l k b = some c → b ≤ c ∧ c < b + k ∧ 0 < l c ∧ bn_can N c
  | 0, b, h => by cases h
  | k + 1, b, h => by
    unfold pd_f at h
    by_cases q : 0 < l b ∧ bn_can N b
    · rw [if_pos q] at h
      cases h
      exact ⟨Nat.le_refl _, by omega, q⟩
    · rw [if_neg q] at h
      obtain ⟨h1, h2, h3⟩ := pd_fS k (b + 1) h
      exact ⟨by omega, by omega, h3⟩
theorem pd_nxS {N : bn_N} {l : Nat → Nat} {c : Nat} (h : pd_nx N l = some c) : c < 6 ∧ 0 < l c ∧ bn_can N c := by
  obtain ⟨-, h2, h3⟩ := pd_fS 6 0 h
  exact ⟨by omega, h3⟩
theorem pd_f0 {N : bn_N} {l : Nat → Nat} : ∀ (k b : Nat), (∀ c, b ≤ c → c < b + k → l c = 0) → pd_f N l k b = none
  | 0, _, _ => rfl
  | k + 1, b, h => by
    unfold pd_f
    rw [if_neg (fun z => by have := h b (by omega) (by omega); omega)]
    exact pd_f0 k (b + 1) (fun c c1 c2 => h c (by omega) (by omega))
abbrev pd_d (l : Nat → Nat) (b : Nat) : Nat → Nat := va_up l b (l b - 1)
theorem pd_do {l : Nat → Nat} {b : Nat} : pd_d l b b = l b - 1 := vu_o
theorem pd_dn {l : Nat → Nat} {b c : Nat} (h : c ≠ b) : pd_d l b c = l c := vu_n h
def pd_o : Nat → bn_N → (Nat → Nat) → List Nat
  | 0, _, _ => []
  | m + 1, N, l => match pd_nx N l with
    | none => []
    | some b => b :: pd_o m (bn_fire N b) (pd_d l b)
theorem pd_oN {m : Nat} {N : bn_N} {l : Nat → Nat} (h : pd_nx N l = none) : pd_o (m + 1) N l = [] := by
  unfold pd_o
  rw [h]
theorem pd_oS {m b : Nat} {N : bn_N} {l : Nat → Nat} (h : pd_nx N l = some b) : pd_o (m + 1) N l = b :: pd_o m (bn_fire N b) (pd_d l b) := by
  rw [pd_o, h]
theorem tm_p6 (t : Nat → Nat) : tm_p t 6 = t 0 + t 1 + t 2 + t 3 + t 4 + t 5 := by
  show 0 + t 0 + t 1 + t 2 + t 3 + t 4 + t 5 = _
  rw [Nat.zero_add]
theorem pd_dS {l : Nat → Nat} {b : Nat} (hb : b < 6) (h : 0 < l b) : tm_p (pd_d l b) 6 + 1 = tm_p l 6 := by
  have e : ∀ c, c ≠ b → pd_d l b c = l c := fun c hc => vu_n hc
  have e1 : pd_d l b b = l b - 1 := vu_o
  rw [tm_p6, tm_p6]
  rcases tm_h6 hb with rfl | rfl | rfl | rfl | rfl | rfl
  · rw [e1, e 1 (by omega), e 2 (by omega), e 3 (by omega), e 4 (by omega), e 5 (by omega)]; omega
  · rw [e1, e 0 (by omega), e 2 (by omega), e 3 (by omega), e 4 (by omega), e 5 (by omega)]; omega
  · rw [e1, e 0 (by omega), e 1 (by omega), e 3 (by omega), e 4 (by omega), e 5 (by omega)]; omega
  · rw [e1, e 0 (by omega), e 1 (by omega), e 2 (by omega), e 4 (by omega), e 5 (by omega)]; omega
  · rw [e1, e 0 (by omega), e 1 (by omega), e 2 (by omega), e 3 (by omega), e 5 (by omega)]; omega
  · rw [e1, e 0 (by omega), e 1 (by omega), e 2 (by omega), e 3 (by omega), e 4 (by omega)]; omega
theorem pd_l0 {l : Nat → Nat} (h : tm_p l 6 = 0) : ∀ b, b < 6 → l b = 0 := fun b hb => by
  rw [tm_p6] at h
  rcases tm_h6 hb with rfl | rfl | rfl | rfl | rfl | rfl <;> omega
theorem pd_nx0 {N : bn_N} {l : Nat → Nat} (h : tm_p l 6 = 0) : pd_nx N l = none := pd_f0 6 0 (fun c _ c2 => pd_l0 h c (by omega))
abbrev pd_z (N : bn_N) (l : Nat → Nat) : Prop := ∀ b, bn_nb N ≤ b → l b = 0
theorem pd_z.nx {N : bn_N} {l : Nat → Nat} (h : pd_z N l) {b : Nat} (hb : pd_nx N l = some b) : b < bn_nb N := by
  obtain ⟨h1, h2, -⟩ := pd_nxS hb
  refine Nat.lt_of_not_le (fun q => ?_)
  have := h b q
  omega
theorem pd_z.d {N : bn_N} {l : Nat → Nat} (h : pd_z N l) (b : Nat) : pd_z (bn_fire N b) (pd_d l b) := fun c c1 => by
  by_cases e : c = b
  · subst e
    rw [pd_do, h c c1]
  · rw [pd_dn e]
    exact h c c1
theorem pd_len : ∀ (m : Nat) (N : bn_N) (l : Nat → Nat), (pd_o m N l).length ≤ m
  | 0, _, _ => Nat.le_refl _
  | m + 1, N, l => by
    cases h : pd_nx N l with
    | none => rw [pd_oN h]; exact Nat.zero_le _
    | some b =>
      rw [pd_oS h, List.length_cons]
      exact Nat.succ_le_succ (pd_len m _ _)
/-- one behind the other, each of them can -/
def pd_ok : List Nat → bn_N → Prop
  | [], _ => True
  | b :: s, N => b < bn_nb N ∧ bn_can N b ∧ pd_ok s (bn_fire N b)
abbrev pd_fin (s : List Nat) (N : bn_N) : bn_N := s.foldl bn_fire N
theorem pd_oo : ∀ (m : Nat) (N : bn_N) (l : Nat → Nat), pd_z N l → pd_ok (pd_o m N l) N
  | 0, _, _, _ => trivial
  | m + 1, N, l, hz => by
    cases h : pd_nx N l with
    | none => rw [pd_oN h]; trivial
    | some b =>
      rw [pd_oS h]
      exact ⟨hz.nx h, (pd_nxS h).2.2, pd_oo m _ _ (hz.d b)⟩
theorem pd_finok : ∀ (s : List Nat) (N : bn_N), bn_ok N → pd_ok s N → bn_ok (pd_fin s N) ∧ bn_sta N (pd_fin s N)
  | [], _, h, _ => ⟨h, bn_sta.rf⟩
  | b :: s, N, h, hs => by
    obtain ⟨i1, i2⟩ := pd_finok s (bn_fire N b) (bn_fire_ok h hs.1 hs.2.1) hs.2.2
    exact ⟨i1, (bn_sta.fi N b).tr i2⟩
/-- what was held -/
def pd_H : List Nat → bn_N → (Nat → Nat) → Nat → Nat
  | [], _, H => H
  | b :: s, N, H => pd_H s (bn_fire N b) (fun w => max (H w) (bn_q (bn_fire N b) w))
/-- which one fires as number a -/
def pd_a : List Nat → Nat → Int32 → Int32 → Int32
  | [], _, _, x => x
  | b :: s, k, a, x => pd_a s (k + 1) a (if nI k = a then nI b else x)
theorem pd_cnt : ∀ (m : Nat) (N : bn_N) (l : Nat → Nat), tm_p l 6 = m → (pd_o m N l).length = m → ∀ b, b < 6 → (pd_o m N l).count b = l b
  | 0, N, l, h, _, b, hb => by
    rw [pd_l0 h b hb]
    rfl
  | m + 1, N, l, h, hl, b, hb => by
    cases hn : pd_nx N l with
    | none => rw [pd_oN hn] at hl; cases hl
    | some c =>
      obtain ⟨c1, c2, c3⟩ := pd_nxS hn
      have hd := pd_dS c1 c2
      rw [pd_oS hn] at hl ⊢
      rw [List.length_cons] at hl
      have ih := pd_cnt m (bn_fire N c) (pd_d l c) (by omega) (by omega) b hb
      rw [List.count_cons, ih]
      by_cases e : b = c
      · subst e
        rw [pd_do, if_pos (by simp)]
        omega
      · rw [pd_dn e, if_neg (by simp; exact fun z => e z.symm), Nat.add_zero]
theorem pd_q : ∀ (s : List Nat) (N : bn_N), bn_ok N → pd_ok s N → ∀ v, v < 8 → bw_h (bn_wr N v) = true → bn_q (pd_fin s N) v + s.count (bw_t (bn_wr N v)) * bw_k (bn_wr N v) = bn_q N v + s.count (bw_f (bn_wr N v)) * bw_p (bn_wr N v)
  | [], N, _, _, v, _, _ => by
    rw [List.count_nil, List.count_nil, Nat.zero_mul, Nat.zero_mul]
    rfl
  | b :: s, N, hok, hs, v, hv, hh => by
    have ih := pd_q s (bn_fire N b) (bn_fire_ok hok hs.1 hs.2.1) hs.2.2 v hv hh
    obtain ⟨q1, q2⟩ := bn_fire_q hok hs.2.1 v hv
    have ih : bn_q (pd_fin s (bn_fire N b)) v + s.count (bw_t (bn_wr N v)) * bw_k (bn_wr N v) = bn_q (bn_fire N b) v + s.count (bw_f (bn_wr N v)) * bw_p (bn_wr N v) := ih
    show bn_q (pd_fin s (bn_fire N b)) v + _ = _
    rw [List.count_cons, List.count_cons, Nat.add_mul, Nat.add_mul]
    have e1 : (if (b == bw_t (bn_wr N v)) = true then 1 else 0) * bw_k (bn_wr N v) = ch_k (bn_wr N v) b := by
      by_cases e : bw_t (bn_wr N v) = b
      · rw [if_pos (by rw [e]; simp), Nat.one_mul]
        exact (if_pos ⟨hh, e⟩).symm
      · rw [if_neg (by simp; exact fun z => e z.symm), Nat.zero_mul]
        exact (if_neg (fun z => e z.2)).symm
    have e2 : (if (b == bw_f (bn_wr N v)) = true then 1 else 0) * bw_p (bn_wr N v) = ch_p (bn_wr N v) b := by
      by_cases e : bw_f (bn_wr N v) = b
      · rw [if_pos (by rw [e]; simp), Nat.one_mul]
        exact (if_pos ⟨hh, e⟩).symm
      · rw [if_neg (by simp; exact fun z => e z.symm), Nat.zero_mul]
        exact (if_neg (fun z => e z.2)).symm
    rw [e1, e2]
    omega
def tm_T (N : bn_N) (t : Nat → Nat) : Prop := tm_ev N t ∧ pd_z N t
theorem tm_T.un {N : bn_N} (hok : bn_ok N) {t t' : Nat → Nat} (h : tm_T N t) (h' : tm_T N t') : t = t' := by
  funext b
  by_cases q : b < bn_nb N
  · exact tm_evu hok h.1 h'.1 b q
  · rw [h.2 b (by omega), h'.2 b (by omega)]
theorem lo_nb {N : bn_N} (hok : bn_ok N) {b : Nat} (hb : b < bn_nb N) : ∀ c, (lo_L N b).testBit c = true → c < bn_nb N := lo_min hok (P := fun c => c < bn_nb N) (fun w hw hh => by
    obtain ⟨f1, t1, -⟩ := (hok.2.2.2.1 w).1 hh
    exact ⟨fun _ => t1, fun _ => f1⟩) hb
theorem tm_cs {N : bn_N} (hok : bn_ok N) : (¬ ∃ t, tm_ev N t) ∨ ∃ t, tm_T N t := by
  by_cases h : ∃ t, tm_ev N t
  · obtain ⟨t, ht⟩ := h
    have o1 := hok.1
    refine Or.inr ⟨fun b => if b < bn_nb N then t b else 0, ⟨fun b hb => (ht.1 b hb).cg hok (by omega) (fun c hc => if_pos (lo_nb hok hb c hc)), fun b hb => ?_⟩, fun b hb => if_neg (by omega)⟩
    show (if b < bn_nb N then t b else 0) ≤ 60
    rw [if_pos hb]
    exact ht.2 b hb
  · exact Or.inl h
theorem tm_T.le {N : bn_N} {t : Nat → Nat} (h : tm_T N t) : ∀ b, t b ≤ 60 := fun b => by
  by_cases q : b < bn_nb N
  · exact h.1.2 b q
  · rw [h.2 b (by omega)]; omega
theorem tm_T.s {N : bn_N} {t : Nat → Nat} (h : tm_T N t) : tm_p t 6 ≤ 360 := by
  have h0 := h.le 0
  have h1 := h.le 1
  have h2 := h.le 2
  have h3 := h.le 3
  have h4 := h.le 4
  have h5 := h.le 5
  rw [tm_p6]
  omega
/-- all counts return -/
theorem pd_ret {N : bn_N} {t : Nat → Nat} (hok : bn_ok N) (hz : pd_z N t) (hs : sp_sol N t) (hl : (pd_o (tm_p t 6) N t).length = tm_p t 6) : ∀ v, v < 8 → bn_q (pd_fin (pd_o (tm_p t 6) N t) N) v = bn_q N v := fun v hv => by
  have o1 := hok.1
  obtain ⟨k1, k2⟩ := pd_finok _ N hok (pd_oo (tm_p t 6) N t hz)
  by_cases hh : bw_h (bn_wr N v) = true
  · obtain ⟨f1, t1, -⟩ := (hok.2.2.2.1 v).1 hh
    have h1 := pd_q _ N hok (pd_oo (tm_p t 6) N t hz) v hv hh
    rw [pd_cnt _ N t rfl hl _ (by omega), pd_cnt _ N t rfl hl _ (by omega)] at h1
    have h2 : t (bw_f (bn_wr N v)) * bw_p (bn_wr N v) = t (bw_t (bn_wr N v)) * bw_k (bn_wr N v) := hs v hv hh
    omega
  · rw [bn_q0 hok hh, bn_q0 k1 (by rw [k2.2.2 v]; exact hh)]
theorem pd_fcg {N M : bn_N} {l : Nat → Nat} (h : bn_sta N M) (hq : ∀ v, v < 8 → bn_q N v = bn_q M v) : ∀ (k b : Nat), pd_f N l k b = pd_f M l k b
  | 0, _ => rfl
  | k + 1, b => by
    have hc : bn_can N b ↔ bn_can M b := h.can hq b
    unfold pd_f
    rw [pd_fcg h hq k (b + 1)]
    by_cases q : 0 < l b ∧ bn_can N b
    · rw [if_pos q, if_pos ⟨q.1, hc.mp q.2⟩]
    · rw [if_neg q, if_neg (fun z => q ⟨z.1, hc.mpr z.2⟩)]
theorem bn_sta.ff {N M : bn_N} (h : bn_sta N M) (b : Nat) : bn_sta (bn_fire N b) (bn_fire M b) := ((bn_sta.fi N b).sy.tr h).tr (bn_sta.fi M b)
theorem bn_sta.fq {N M : bn_N} (h : bn_sta N M) (hN : bn_ok N) (hM : bn_ok M) (hq : ∀ v, v < 8 → bn_q N v = bn_q M v) {b : Nat} (c1 : bn_can N b) (c2 : bn_can M b) : ∀ v, v < 8 → bn_q (bn_fire N b) v = bn_q (bn_fire M b) v := fun v hv => by
  obtain ⟨a1, a2⟩ := bn_fire_q hN c1 v hv
  obtain ⟨b1, b2⟩ := bn_fire_q hM c2 v hv
  obtain ⟨e1, e2⟩ := h.ch v b
  rw [e1, e2, ← hq v hv] at b1
  omega
/-- the order goes by the counts alone -/
theorem pd_ocg : ∀ (m : Nat) (N M : bn_N) (l : Nat → Nat), bn_ok N → bn_ok M → pd_z N l → bn_sta N M → (∀ v, v < 8 → bn_q N v = bn_q M v) → pd_o m N l = pd_o m M l
  | 0, _, _, _, _, _, _, _, _ => rfl
  | m + 1, N, M, l, hN, hM, hz, h, hq => by
    have e : pd_nx N l = pd_nx M l := pd_fcg h hq 6 0
    cases hn : pd_nx N l with
    | none => rw [pd_oN hn, pd_oN (e.symm.trans hn)]
    | some b =>
      have c1 := (pd_nxS hn).2.2
      have c2 : bn_can M b := (pd_nxS (e.symm.trans hn)).2.2
      have b1 := hz.nx hn
      rw [pd_oS hn, pd_oS (e.symm.trans hn), pd_ocg m (bn_fire N b) (bn_fire M b) (pd_d l b) (bn_fire_ok hN b1 c1) (bn_fire_ok hM (by rw [h.1]; exact b1) c2) (hz.d b) (h.ff b) (h.fq hN hM hq c1 c2)]
theorem pd_okcg : ∀ (s : List Nat) (N M : bn_N), bn_ok N → bn_ok M → bn_sta N M → (∀ v, v < 8 → bn_q N v = bn_q M v) → pd_ok s N → pd_ok s M
  | [], _, _, _, _, _, _, _ => trivial
  | b :: s, N, M, hN, hM, h, hq, hs => by
    have c2 : bn_can M b := (h.can hq b).mp hs.2.1
    have b2 : b < bn_nb M := by rw [h.1]; exact hs.1
    exact ⟨b2, c2, pd_okcg s (bn_fire N b) (bn_fire M b) (bn_fire_ok hN hs.1 hs.2.1) (bn_fire_ok hM b2 c2) (h.ff b) (h.fq hN hM hq hs.2.1 c2) hs.2.2⟩
theorem pd_Hcg : ∀ (s : List Nat) (N M : bn_N) (H : Nat → Nat), bn_ok N → bn_ok M → bn_sta N M → (∀ v, v < 8 → bn_q N v = bn_q M v) → pd_ok s N → ∀ H2 : Nat → Nat, (∀ v, v < 8 → H v = H2 v) → ∀ v, v < 8 → pd_H s N H v = pd_H s M H2 v
  | [], _, _, _, _, _, _, _, _, _, hH, v, hv => hH v hv
  | b :: s, N, M, H, hN, hM, h, hq, hs, H2, hH, v, hv => by
    have c2 : bn_can M b := (h.can hq b).mp hs.2.1
    have b2 : b < bn_nb M := by rw [h.1]; exact hs.1
    have fq := h.fq hN hM hq hs.2.1 c2
    exact pd_Hcg s (bn_fire N b) (bn_fire M b) _ (bn_fire_ok hN hs.1 hs.2.1) (bn_fire_ok hM b2 c2) (h.ff b) fq hs.2.2 _ (fun v hv => by rw [hH v hv, fq v hv]) v hv
