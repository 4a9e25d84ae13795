section OPX
theorem pd_g0 {N : bn_N} (hok : bn_ok N) : pd_gr N 0 0 N := by
  rcases tm_cs hok with hev | ⟨t, hT⟩
  · exact Or.inl ⟨hev, rfl, rfl⟩
  · by_cases hg : pd_go N t
    · exact Or.inr ⟨t, hT, Or.inr ⟨hg, rfl, rfl⟩⟩
    · exact Or.inr ⟨t, hT, Or.inl ⟨hg, rfl, rfl⟩⟩
theorem sn_10 {N : bn_N} (hok : bn_ok N) {r : sn_r} (h0 : r.2.1 = 0) : sn_1 N r ↔ lt_ok N r.1 r.2.2 := by
  constructor
  · rintro ⟨m, M, hG, hm, hl⟩
    rw [h0] at hG
    rw [((pd_g0 hok).un hok hG).2]
    exact hl
  · intro hl
    exact ⟨0, N, by rw [h0]; exact pd_g0 hok, h0.symm, hl⟩
theorem sn_1t {N : bn_N} (hok : bn_ok N) {t : Nat → Nat} (hT : tm_T N t) (hg : pd_go N t) {r : sn_r} : sn_1 N r ↔ lt_ok (pd_it (pd_O N t) r.2.1 N) r.1 r.2.2 := by
  have hG : pd_gr N r.2.1 r.2.1 (pd_it (pd_O N t) r.2.1 N) := Or.inr ⟨t, hT, Or.inr ⟨hg, rfl, rfl⟩⟩
  constructor
  · rintro ⟨m, M, hG2, hm, hl⟩
    rw [(hG.un hok hG2).2]
    exact hl
  · intro hl
    exact ⟨r.2.1, _, hG, rfl, hl⟩
theorem sn_1f {N : bn_N} (hok : bn_ok N) (hn : ∀ t, tm_T N t → ¬ pd_go N t) {r : sn_r} (h0 : 0 < r.2.1) : ¬ sn_1 N r := by
  rintro ⟨m, M, hG, hm, hl⟩
  rcases hG with ⟨-, h1, -⟩ | ⟨t, h1, ⟨-, h2, -⟩ | ⟨h2, -⟩⟩
  · omega
  · omega
  · exact hn t h1 h2
theorem sV_sta {N : bn_N} {b : Nat} {v : Int32} : bn_sta N (bn_sV N b v) := ⟨rfl, rfl, fun _ => rfl⟩
theorem sV_T {N : bn_N} {b : Nat} {v : Int32} {t : Nat → Nat} : tm_T (bn_sV N b v) t ↔ tm_T N t := Iff.rfl
variable {L : Nat → Nat → Int64}
theorem cl_seenP {I : Nat → Nat → Int32} {S : List sn_r} {s : List Nat} {N : bn_N} {b f v : Nat} (hb : b < bn_nb N) (hok : bn_ok N) (hN : bc_N I 2 N) (hS : sn_c I S) (hf : f ≤ 4) (hs : s.length ≤ 360) (hr : 0 < f → pd_rt s (bn_sV N b (nI v))) (ho : 0 < f → I 102 5 = nI s.length ∧ ∀ i, i < s.length → I 104 i = nI (s.getD i 0)) : ∃ I1, f_X11_allSeenWith_p21 0 (nI b) (nI v) (nI f) I L = some ((if al_B s (bn_sV N b (nI v)) S (f + 1) 0 = true then 1 else 0), I1, L) ∧ ∀ q, q < 77 ∨ 102 ≤ q → I1 q = I q := by
  have o1 := hok.1
  obtain ⟨I1, c1, c2, c3⟩ := cp_net (L := L) (o := 77) (a := 2) hok (by omega) lk_tr lk_nw I hN
  unfold f_X11_allSeenWith_p21
  simp only [Nat.reduceAdd, Nat.zero_add]
  rw [c1]
  simp only [Option.bind_some]
  rw [if_pos (bp_ok (by omega) (by omega)), bp_cl (by omega)]
  have hJ : ∀ q, q < 77 ∨ 102 ≤ q → bf_u I1 (79 + b) 1 (nI v) q = I q := fun q hq => by rw [bf_u_ne (by omega), c3 q (by omega)]
  obtain ⟨I2, g1, g2⟩ := cl_all51 (L := L) (S := S) (s := s) (N := bn_sV N b (nI v)) hf (bn_sV_ok hok) hs hr (fun I18 L18 => (some ((1 : Int32), I18, L18))) (fun _ _ => rfl) (f + 1) 400 0 (bf_u I1 (79 + b) 1 (nI v)) (by omega) (by omega) (hS.cg (fun q hq => hJ q (by omega))) (fun z => by rw [hJ 102 (by omega), hJ 104 (by omega)]; exact ho z) (fun _ => c2.setV hok hb) (fun z => by omega)
  rw [show nI 0 = (0 : Int32) from rfl] at g1
  exact ⟨I2, g1, fun q hq => (g2 q hq).trans (hJ q hq)⟩
theorem cl_seen {I : Nat → Nat → Int32} {S : List sn_r} {N : bn_N} {b v : Nat} (hb : b < bn_nb N) (hok : bn_ok N) (hN : bc_N I 2 N) (hS : sn_c I S) (hE : sc_E I N N) : ∃ u I1, f_X11_allSeenWith 0 (nI b) (nI v) I L = some (u, I1, L) ∧ (u = 0 ∨ u = 1) ∧ (u = 1 ↔ ∀ r ∈ S, sn_1 (bn_sV N b (nI v)) r) ∧ ∀ q, q < 77 ∨ 102 ≤ q → I1 q = I q := by
  have okv : bn_ok (bn_sV N b (nI v)) := bn_sV_ok hok
  obtain ⟨m1, m2, m3⟩ := fs_mI S 0
  obtain ⟨f, hf⟩ : ∃ f, f = fs_m S 0 := ⟨_, rfl⟩
  rw [← hf] at m1 m2 m3
  have f4 : f ≤ 4 := by
    rcases m3 with e | ⟨r, r1, r2⟩
    · omega
    · rw [← r2]; exact (hS.2.2.1 r r1).2
  have bit : ∀ c : Bool, ((if c = true then (1 : Int32) else 0) = 0 ∨ (if c = true then (1 : Int32) else 0) = 1) ∧ ((if c = true then (1 : Int32) else 0) = 1 ↔ c = true) := by
    intro c
    cases c
    · exact ⟨Or.inl rfl, ⟨fun z => absurd z (by decide), fun z => absurd z (by decide)⟩⟩
    · exact ⟨Or.inr rfl, ⟨fun _ => rfl, fun _ => rfl⟩⟩
  unfold f_X11_allSeenWith
  rw [cl_far hS, ← hf]
  simp only [Option.bind_some, Nat.reduceAdd, Nat.zero_add]
  by_cases f0 : f = 0
  · subst f0
    rw [if_pos (by decide)]
    obtain ⟨I1, g1, g2⟩ := cl_seenP (L := L) (s := []) (f := 0) (v := v) hb hok hN hS (by omega) (by decide) (fun z => by omega) (fun z => by omega)
    refine ⟨_, I1, g1, (bit _).1, (bit _).2.trans ?_, g2⟩
    rw [al_BI]
    constructor
    · intro z r hr
      have r0 : r.2.1 = 0 := by have := m2 r hr; omega
      have := z r hr (by omega) (by omega)
      rw [r0] at this
      exact (sn_10 okv r0).mpr this
    · intro z r hr _ _
      have r0 : r.2.1 = 0 := by have := m2 r hr; omega
      rw [r0]
      exact (sn_10 okv r0).mp (z r hr)
  · have fp : 0 < f := by omega
    rw [if_neg (nI_nle fp (by omega))]
    obtain ⟨rf, rf1, rf2⟩ : ∃ r ∈ S, r.2.1 = f := m3.resolve_left f0
    rcases tm_cs hok with hev | ⟨t, hT⟩
    · rw [cl_goesF (hE.f hev).1]
      simp only [Option.bind_some, if_true]
      refine ⟨0, I, rfl, Or.inl rfl, ⟨fun z => absurd z (by decide), fun z => absurd (z rf rf1) (sn_1f okv (fun t ht => absurd ⟨t, (sV_T.mp ht).1⟩ hev) (by omega))⟩, fun _ _ => rfl⟩
    · obtain ⟨z1, z2⟩ := hE.t hok hT
      have eO : pd_O N t = pd_O (bn_sV N b (nI v)) t := pd_ocg _ N (bn_sV N b (nI v)) t hok okv hT.2 sV_sta (fun _ _ => rfl)
      rw [cl_goesT z1 z2]
      simp only [Option.bind_some]
      by_cases hg : pd_go N t
      · have hg2 : pd_go (bn_sV N b (nI v)) t := by
          show (pd_O (bn_sV N b (nI v)) t).length = _
          rw [← eO]
          exact hg
        have hTv : tm_T (bn_sV N b (nI v)) t := sV_T.mpr hT
        have hs : (pd_O N t).length ≤ 360 := Nat.le_trans (pd_len _ _ _) hT.s
        rw [if_pos hg, if_neg bp_10]
        obtain ⟨I1, g1, g2⟩ := cl_seenP (L := L) (s := pd_O N t) (f := f) (v := v) hb hok hN hS f4 hs (fun _ => by rw [eO]; exact pd_T okv hTv hg2) (fun _ => ⟨z2.2.2.2.1, z2.2.2.2.2.1⟩)
        refine ⟨_, I1, g1, (bit _).1, (bit _).2.trans ?_, g2⟩
        rw [al_BI, eO]
        constructor
        · intro z r hr
          exact (sn_1t okv hTv hg2).mpr (z r hr (by omega) (by have := m2 r hr; omega))
        · intro z r hr _ _
          exact (sn_1t okv hTv hg2).mp (z r hr)
      · rw [if_neg hg, if_pos rfl]
        refine ⟨0, I, rfl, Or.inl rfl, ⟨fun z => absurd z (by decide), fun z => absurd (z rf rf1) (sn_1f okv (fun t' ht => ?_) (by omega))⟩, fun _ _ => rfl⟩
        obtain rfl := hT.un hok (sV_T.mp ht)
        show ¬ (pd_O (bn_sV N b (nI v)) t).length = _
        rw [← eO]
        exact hg
/-- how many fit, and the least -/
noncomputable def fi_b (N : bn_N) (b : Nat) (S : List sn_r) (v : Nat) : Bool := @decide (∀ r ∈ S, sn_1 (bn_sV N b (nI v)) r) (Classical.propDecidable _)
theorem fi_bI {N : bn_N} {b : Nat} {S : List sn_r} {v : Nat} : fi_b N b S v = true ↔ ∀ r ∈ S, sn_1 (bn_sV N b (nI v)) r := by
  unfold fi_b
  exact @decide_eq_true_iff _ (Classical.propDecidable _)
noncomputable def fi_F (N : bn_N) (b : Nat) (S : List sn_r) : Nat → Nat → Nat × Int32
  | 0, _ => (0, -5)
  | k + 1, v => if fi_b N b S v = true then ((fi_F N b S k (v + 1)).1 + 1, nI v) else fi_F N b S k (v + 1)
theorem fi_le {N : bn_N} {b : Nat} {S : List sn_r} : ∀ k v, (fi_F N b S k v).1 ≤ k ∧ ((fi_F N b S k v).1 = 0 → (fi_F N b S k v).2 = -5)
  | 0, _ => ⟨Nat.le_refl _, fun _ => rfl⟩
  | k + 1, v => by
    obtain ⟨i1, i2⟩ := fi_le (N := N) (b := b) (S := S) k (v + 1)
    unfold fi_F
    by_cases q : fi_b N b S v = true
    · rw [if_pos q]
      exact ⟨Nat.succ_le_succ i1, fun z => absurd z (Nat.succ_ne_zero _)⟩
    · rw [if_neg q]
      exact ⟨by omega, i2⟩
theorem cl_fits48 {S : List sn_r} {N : bn_N} {b : Nat} {p : Int32} (hb : b < bn_nb N) (hok : bn_ok N) (K : Int32 → Int32 → (Nat → Nat → Int32) → (Nat → Nat → Int64) → Option (Int32 × bf_St)) : ∀ (k n v c : Nat) (e : Int32) (I : Nat → Nat → Int32), v + k = 10 → k < n → c ≤ v → bc_N I 2 N → sn_c I S → sc_E I N N → ∃ I1, f_X11_fits_48 0 (nI b) p K n (nI c) e (nI v) I L = K (nI (c + (fi_F N b S k v).1)) (if c = 0 then (if (fi_F N b S k v).1 = 0 then e else (fi_F N b S k v).2) else e) I1 L ∧ ∀ q, q < 77 ∨ 102 ≤ q → I1 q = I q
  | k, 0, v, c, e, I, h1, h2, h3, hN, hS, hE => by omega
  | 0, n + 1, v, c, e, I, h1, h2, h3, hN, hS, hE => by
    rw [f_X11_fits_48, if_pos (show (9 : Int32) < nI v from nI_lt (a := 9) (by omega) (by omega))]
    refine ⟨I, ?_, fun _ _ => rfl⟩
    show K (nI c) e I L = K (nI (c + 0)) (if c = 0 then (if (0 : Nat) = 0 then e else _) else e) I L
    rw [if_pos rfl, Nat.add_zero]
    by_cases q : c = 0
    · rw [if_pos q]
    · rw [if_neg q]
  | k + 1, n + 1, v, c, e, I, h1, h2, h3, hN, hS, hE => by
    obtain ⟨u, I1, g1, g2, g3, g4⟩ := cl_seen (L := L) (v := v) hb hok hN hS hE
    have hN1 : bc_N I1 2 N := hN.cg (fun q a1 a2 => g4 q (by omega)) hok
    have hS1 : sn_c I1 S := hS.cg (fun q hq => g4 q (by omega))
    have hE1 : sc_E I1 N N := by
      rcases hE with ⟨w1, w2, w3⟩ | ⟨t, w1, w2, w3⟩
      · exact Or.inl ⟨w1, by rw [g4 102 (by omega)]; exact w2, by rw [g4 102 (by omega)]; exact w3⟩
      · exact Or.inr ⟨t, w1, by rw [g4 102 (by omega)]; exact w2, w3.cg (fun q a1 a2 => g4 q (by omega))⟩
    rw [f_X11_fits_48, if_neg (show ¬ (9 : Int32) < nI v from nI_nlt (a := 9) (by omega) (by omega)), g1, bp_p1, bp_p1]
    simp only [Option.bind_some]
    by_cases q : fi_b N b S v = true
    · have u1 : u = 1 := g3.mpr (fi_bI.mp q)
      have eF : fi_F N b S (k + 1) v = ((fi_F N b S k (v + 1)).1 + 1, nI v) := if_pos q
      rw [u1, if_neg bp_10, eF]
      have ez : (nI c = (0 : Int32)) = (c = 0) := bp_eq (b := 0) (by omega) (by omega)
      simp only [ez]
      by_cases c0 : c = 0
      · obtain ⟨I2, k1, k2⟩ := cl_fits48 (p := p) hb hok K k n (v + 1) (c + 1) (nI v) I1 (by omega) (by omega) (by omega) hN1 hS1 hE1
        rw [if_pos c0, k1]
        refine ⟨I2, ?_, fun q hq => (k2 q hq).trans (g4 q hq)⟩
        rw [if_neg (by omega), if_pos c0, if_neg (by omega), show c + 1 + (fi_F N b S k (v + 1)).1 = c + ((fi_F N b S k (v + 1)).1 + 1) by omega]
      · obtain ⟨I2, k1, k2⟩ := cl_fits48 (p := p) hb hok K k n (v + 1) (c + 1) e I1 (by omega) (by omega) (by omega) hN1 hS1 hE1
        rw [if_neg c0, k1]
        refine ⟨I2, ?_, fun q hq => (k2 q hq).trans (g4 q hq)⟩
        rw [if_neg (by omega), if_neg c0, show c + 1 + (fi_F N b S k (v + 1)).1 = c + ((fi_F N b S k (v + 1)).1 + 1) by omega]
    · have u0 : u = 0 := g2.resolve_right (fun z => q (fi_bI.mpr (g3.mp z)))
      have eF : fi_F N b S (k + 1) v = fi_F N b S k (v + 1) := if_neg q
      rw [u0, if_pos rfl, eF]
      obtain ⟨I2, k1, k2⟩ := cl_fits48 (p := p) hb hok K k n (v + 1) c e I1 (by omega) (by omega) (by omega) hN1 hS1 hE1
      exact ⟨I2, k1, fun q hq => (k2 q hq).trans (g4 q hq)⟩
end OPX
