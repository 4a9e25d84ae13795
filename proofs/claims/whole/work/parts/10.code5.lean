def f_X11_latestIs (o : Nat) (a0 : Int32) (a1 : Int32) (I : Nat → Nat → Int32) (L : Nat → Nat → Int64) : Option (Int32 × bf_St) :=
  ((f_X3_hasWire (o + 77) a0 I L).bind (fun r2 => (if r2.1 = 0 then (some ((0 : Int32), r2.2.1, r2.2.2)) else (if bf_ok a0 8 then (if (r2.2.1 (((o + 77) + 8) + 1 + 2 * a0.toNatClampNeg) 5) ≤ 0 then (some ((0 : Int32), r2.2.1, r2.2.2)) else ((f_X10_tokenAt (((o + 77) + 8) + 1 + 2 * a0.toNatClampNeg) ((r2.2.1 (((o + 77) + 8) + 1 + 2 * a0.toNatClampNeg) 5) - (1 : Int32)) r2.2.1 r2.2.2).bind (fun r7 => (if r7.1 = a1 then (some ((1 : Int32), r7.2.1, r7.2.2)) else (some ((0 : Int32), r7.2.1, r7.2.2)))))) else none))))
set_option maxRecDepth 100000 in
set_option maxHeartbeats 4000000 in
theorem ok_X11_latestIs {Γ : bf_Gm} {ad : Nat → Nat} {o : Nat} {a0 : Int32} {a1 : Int32} {I : Nat → Nat → Int32} {L : Nat → Nat → Int64} (hk : bf_kd o = 11) {r : Int32 × bf_St} (hf : f_X11_latestIs o a0 a1 I L = some r) : bf_Cn Γ 2 mu_X11_latestIs 0 0 [.ref (ad o), .int a0, .int a1] (bf_S ad I L) (fun q h => q = some (.int r.1) ∧ h = bf_S ad r.2.1 r.2.2) := by
  refine bf_met rfl (Nat.le_of_ble_eq_true rfl) ?_
  unfold f_X11_latestIs at hf
  refine bf_aload_n 0 dX11_latestIs_0 rfl rfl ?_
  refine fg_X11_28 dX11_latestIs_1 rfl hk ?_
  refine bf_iload_n 1 dX11_latestIs_4 rfl rfl ?_
  obtain ⟨r2, e1, hf⟩ := bf_bind hf
  have hCe1 := ok_X3_hasWire (Γ := Γ) (ad := ad) (kr_11_3 hk) e1
  refine cv_X11_71 0 dX11_latestIs_5 rfl ⟨Nat.le_of_ble_eq_true rfl, Nat.le_of_ble_eq_true rfl⟩ (Nat.le_of_ble_eq_true rfl) (kr_11_3 hk) hCe1 ?_
  refine bf_if_ne 13 dX11_latestIs_8 (by decide) (fun c3 => ?_) (fun c3 => ?_)
  · have hf := (if_neg c3).symm.trans hf
    refine bf_aload_n 0 dX11_latestIs_13 rfl rfl ?_
    refine fg_X11_28 dX11_latestIs_14 rfl hk ?_
    refine fg_X11_75 dX11_latestIs_17 rfl (kr_11_3 hk) ?_
    refine bf_iload_n 1 dX11_latestIs_20 rfl rfl ?_
    rcases Decidable.em (bf_ok a0 8) with c4 | c4
    · have hf := (if_pos c4).symm.trans hf
      refine al_19 dX11_latestIs_21 (kr_3_1 (kr_11_3 hk)) (by rw [(la_19 (kr_3_1 (kr_11_3 hk)))]; exact c4) ?_
      refine bf_astore_n (lv2 := [(3, .ref _), (0, .ref _), (1, .int _), (2, .int _)]) dX11_latestIs_22 rfl (by decide) rfl ?_
      refine bf_aload_n 0 dX11_latestIs_23 rfl rfl ?_
      refine fg_X11_79 dX11_latestIs_24 rfl (ka_19 (kr_3_1 (kr_11_3 hk)) ((by rw [(la_19 (kr_3_1 (kr_11_3 hk)))]; exact c4) : bf_ok _ _).2) ?_
      refine bf_if_le 48 dX11_latestIs_27 (by decide) (fun c5 => ?_) (fun c5 => ?_)
      · have hf := (if_pos c5).symm.trans hf
        refine bf_iconst (v := 0) dX11_latestIs_48 (by decide) ?_
        obtain rfl := Option.some.inj hf
        exact bf_zret dX11_latestIs_49 rfl rfl (Nat.le_refl _) (Nat.le_refl _) ⟨rfl, rfl⟩
      · have hf := (if_neg c5).symm.trans hf
        refine bf_aload_n 0 dX11_latestIs_30 rfl rfl ?_
        refine bf_aload_n 0 dX11_latestIs_31 rfl rfl ?_
        refine fg_X11_79 dX11_latestIs_32 rfl (ka_19 (kr_3_1 (kr_11_3 hk)) ((by rw [(la_19 (kr_3_1 (kr_11_3 hk)))]; exact c4) : bf_ok _ _).2) ?_
        refine bf_iconst (v := 1) dX11_latestIs_35 (by decide) ?_
        refine bf_isub dX11_latestIs_36 ?_
        obtain ⟨r7, e6, hf⟩ := bf_bind hf
        have hCe6 := ok_X10_tokenAt (Γ := Γ) (ad := ad) (ka_19 (kr_3_1 (kr_11_3 hk)) ((by rw [(la_19 (kr_3_1 (kr_11_3 hk)))]; exact c4) : bf_ok _ _).2) e6
        refine cv_X11_210 1 dX11_latestIs_37 rfl ⟨Nat.le_of_ble_eq_true rfl, Nat.le_of_ble_eq_true rfl⟩ (Nat.le_of_ble_eq_true rfl) (ka_19 (kr_3_1 (kr_11_3 hk)) ((by rw [(la_19 (kr_3_1 (kr_11_3 hk)))]; exact c4) : bf_ok _ _).2) hCe6 ?_
        refine bf_iload_n 3 dX11_latestIs_40 rfl rfl ?_
        refine bf_icmp_ne 48 dX11_latestIs_41 (by decide) (fun c8 => ?_) (fun c8 => ?_)
        · have hf := (if_neg c8).symm.trans hf
          refine bf_iconst (v := 0) dX11_latestIs_48 (by decide) ?_
          obtain rfl := Option.some.inj hf
          exact bf_zret dX11_latestIs_49 rfl rfl (Nat.le_refl _) (Nat.le_refl _) ⟨rfl, rfl⟩
        · have hf := (if_pos c8).symm.trans hf
          refine bf_iconst (v := 1) dX11_latestIs_44 (by decide) ?_
          refine bf_goto 49 dX11_latestIs_45 (by decide) ?_
          obtain rfl := Option.some.inj hf
          exact bf_zret dX11_latestIs_49 rfl rfl (Nat.le_refl _) (Nat.le_refl _) ⟨rfl, rfl⟩
    · exact absurd ((if_neg c4).symm.trans hf) (by simp)
  · have hf := (if_pos c3).symm.trans hf
    refine bf_iconst (v := 0) dX11_latestIs_11 (by decide) ?_
    obtain rfl := Option.some.inj hf
    exact bf_zret dX11_latestIs_12 rfl rfl (Nat.le_refl _) (Nat.le_refl _) ⟨rfl, rfl⟩
def f_X11_seenAfter_10 (v0 : Nat) (v1 : Int32) (v2 : Nat) (K : (Nat → Nat → Int32) → (Nat → Nat → Int64) → Option (Int32 × bf_St)) : Nat → Int32 → (Nat → Nat → Int32) → (Nat → Nat → Int64) → Option (Int32 × bf_St)
  | 0, _, _, _ => none
  | n + 1, v3, I, L =>
    (if (I v2 0) ≤ v3 then (K I L) else (if bf_ok v3 (bf_le (v2 + 2)) then (if (I (v2 + 2) v3.toNatClampNeg) = v1 then (if bf_ok v3 (bf_le (v2 + 1)) then (if bf_ok v3 (bf_le (v2 + 3)) then ((f_X11_latestIs v0 (I (v2 + 1) v3.toNatClampNeg) (I (v2 + 3) v3.toNatClampNeg) I L).bind (fun r7 => (if r7.1 = 0 then (some ((0 : Int32), r7.2.1, r7.2.2)) else (f_X11_seenAfter_10 v0 v1 v2 K n (v3 + (1 : Int32)) r7.2.1 r7.2.2)))) else none) else none) else (f_X11_seenAfter_10 v0 v1 v2 K n (v3 + (1 : Int32)) I L)) else none))
set_option maxRecDepth 100000 in
set_option maxHeartbeats 4000000 in
theorem ok_X11_seenAfter_10 {Γ : bf_Gm} {ad : Nat → Nat} {v0 : Nat} {v1 : Int32} {v2 : Nat} (hv0 : bf_kd v0 = 11) (hv2 : bf_kd v2 = 5) {r : Int32 × bf_St} {K : (Nat → Nat → Int32) → (Nat → Nat → Int64) → Option (Int32 × bf_St)} (hK : ∀ (I : Nat → Nat → Int32) (L : Nat → Nat → Int64), K  I L = some r → bf_Go Γ (bf_rm 3 0 0) mu_X11_seenAfter bf_E0 (bf_Z Γ (fun q h => q = some (.int r.1) ∧ h = bf_S ad r.2.1 r.2.2) 0 0) (0, 0) 55 [] [] (bf_S ad I L)) : ∀ (n : Nat) (v3 : Int32) (I : Nat → Nat → Int32) (L : Nat → Nat → Int64), f_X11_seenAfter_10 v0 v1 v2 K n v3 I L = some r → bf_Go Γ (bf_rm 3 0 0) mu_X11_seenAfter bf_E0 (bf_Z Γ (fun q h => q = some (.int r.1) ∧ h = bf_S ad r.2.1 r.2.2) 0 0) (0, 0) 10 [(0, .ref (ad v0)), (1, .int v1), (2, .ref (ad v2)), (3, .int v3)] [] (bf_S ad I L) := by
  intro n
  induction n with
  | zero => intro v3 I L hf; exact absurd (show none = some r from hf) (by simp)
  | succ n ih =>
    intro v3 I L hf
    rw [f_X11_seenAfter_10] at hf
    refine bf_iload_n 3 dX11_seenAfter_10 rfl rfl ?_
    refine bf_aload_n 2 dX11_seenAfter_11 rfl rfl ?_
    refine fg_X11_272 dX11_seenAfter_12 rfl hv2 ?_
    refine bf_icmp_ge 55 dX11_seenAfter_15 (by decide) (fun c1 => ?_) (fun c1 => ?_)
    · have hf := (if_pos c1).symm.trans hf
      refine bf_perm [] rfl ?_
      exact hK _ _ hf
    · have hf := (if_neg c1).symm.trans hf
      refine bf_aload_n 2 dX11_seenAfter_18 rfl rfl ?_
      refine fg_X11_273 dX11_seenAfter_19 rfl hv2 ?_
      refine bf_iload_n 3 dX11_seenAfter_22 rfl rfl ?_
      rcases Decidable.em (bf_ok v3 (bf_le (v2 + 2))) with c2 | c2
      · have hf := (if_pos c2).symm.trans hf
        refine bf_iald dX11_seenAfter_23 (kr_5_2 hv2) c2 ?_
        refine bf_iload_n 1 dX11_seenAfter_24 rfl rfl ?_
        refine bf_icmp_ne 49 dX11_seenAfter_25 (by decide) (fun c3 => ?_) (fun c3 => ?_)
        · have hf := (if_neg c3).symm.trans hf
          refine bf_iinc 3 (v := _ + (1 : Int32)) (lv2 := [(3, .int _), (0, .ref _), (1, .int _), (2, .ref _)]) dX11_seenAfter_49 rfl (by rfl) (by decide) rfl ?_
          refine bf_goto 10 dX11_seenAfter_52 (by decide) ?_
          refine bf_perm [1, 2, 3, 0] rfl ?_
          exact ih _ _ _ hf
        · have hf := (if_pos c3).symm.trans hf
          refine bf_aload_n 0 dX11_seenAfter_28 rfl rfl ?_
          refine bf_aload_n 2 dX11_seenAfter_29 rfl rfl ?_
          refine fg_X11_281 dX11_seenAfter_30 rfl hv2 ?_
          refine bf_iload_n 3 dX11_seenAfter_33 rfl rfl ?_
          rcases Decidable.em (bf_ok v3 (bf_le (v2 + 1))) with c4 | c4
          · have hf := (if_pos c4).symm.trans hf
            refine bf_iald dX11_seenAfter_34 (kr_5_1 hv2) c4 ?_
            refine bf_aload_n 2 dX11_seenAfter_35 rfl rfl ?_
            refine fg_X11_284 dX11_seenAfter_36 rfl hv2 ?_
            refine bf_iload_n 3 dX11_seenAfter_39 rfl rfl ?_
            rcases Decidable.em (bf_ok v3 (bf_le (v2 + 3))) with c5 | c5
            · have hf := (if_pos c5).symm.trans hf
              refine bf_iald dX11_seenAfter_40 (kr_5_3 hv2) c5 ?_
              obtain ⟨r7, e6, hf⟩ := bf_bind hf
              have hCe6 := ok_X11_latestIs (Γ := Γ) (ad := ad) hv0 e6
              refine cv_X11_287 2 dX11_seenAfter_41 rfl ⟨Nat.le_of_ble_eq_true rfl, Nat.le_of_ble_eq_true rfl⟩ (Nat.le_of_ble_eq_true rfl) hv0 hCe6 ?_
              refine bf_if_ne 49 dX11_seenAfter_44 (by decide) (fun c8 => ?_) (fun c8 => ?_)
              · have hf := (if_neg c8).symm.trans hf
                refine bf_iinc 3 (v := _ + (1 : Int32)) (lv2 := [(3, .int _), (0, .ref _), (1, .int _), (2, .ref _)]) dX11_seenAfter_49 rfl (by rfl) (by decide) rfl ?_
                refine bf_goto 10 dX11_seenAfter_52 (by decide) ?_
                refine bf_perm [1, 2, 3, 0] rfl ?_
                exact ih _ _ _ hf
              · have hf := (if_pos c8).symm.trans hf
                refine bf_iconst (v := 0) dX11_seenAfter_47 (by decide) ?_
                obtain rfl := Option.some.inj hf
                exact bf_zret dX11_seenAfter_48 rfl rfl (Nat.le_refl _) (Nat.le_refl _) ⟨rfl, rfl⟩
            · exact absurd ((if_neg c5).symm.trans hf) (by simp)
          · exact absurd ((if_neg c4).symm.trans hf) (by simp)
      · exact absurd ((if_neg c2).symm.trans hf) (by simp)
def f_X11_seenAfter (o : Nat) (a0 : Int32) (I : Nat → Nat → Int32) (L : Nat → Nat → Int64) : Option (Int32 × bf_St) :=
  (f_X11_seenAfter_10 o a0 ((o + 1) + 26) (fun I9 L9 => (some ((1 : Int32), I9, L9))) 400 (0 : Int32) I L)
set_option maxRecDepth 100000 in
set_option maxHeartbeats 4000000 in
theorem ok_X11_seenAfter {Γ : bf_Gm} {ad : Nat → Nat} {o : Nat} {a0 : Int32} {I : Nat → Nat → Int32} {L : Nat → Nat → Int64} (hk : bf_kd o = 11) {r : Int32 × bf_St} (hf : f_X11_seenAfter o a0 I L = some r) : bf_Cn Γ 3 mu_X11_seenAfter 0 0 [.ref (ad o), .int a0] (bf_S ad I L) (fun q h => q = some (.int r.1) ∧ h = bf_S ad r.2.1 r.2.2) := by
  refine bf_met rfl (Nat.le_of_ble_eq_true rfl) ?_
  unfold f_X11_seenAfter at hf
  refine bf_aload_n 0 dX11_seenAfter_0 rfl rfl ?_
  refine fg_X11_14 dX11_seenAfter_1 rfl hk ?_
  refine fg_X11_251 dX11_seenAfter_4 rfl (kr_11_0 hk) ?_
  refine bf_astore_n (lv2 := [(2, .ref _), (0, .ref _), (1, .int _)]) dX11_seenAfter_7 rfl (by decide) rfl ?_
  refine bf_iconst (v := 0) dX11_seenAfter_8 (by decide) ?_
  refine bf_istore_n (lv2 := [(3, .int _), (2, .ref _), (0, .ref _), (1, .int _)]) dX11_seenAfter_9 rfl (by decide) rfl ?_
  refine bf_perm [2, 3, 1, 0] rfl ?_
  refine ok_X11_seenAfter_10 hk (kr_7_1 (kr_11_0 hk)) (fun I9 L9 hf => ?_) _ _ _ _  hf
  refine bf_iconst (v := 1) dX11_seenAfter_55 (by decide) ?_
  obtain rfl := Option.some.inj hf
  exact bf_zret dX11_seenAfter_56 rfl rfl (Nat.le_refl _) (Nat.le_refl _) ⟨rfl, rfl⟩
def f_X11_allSeenWith_51 (v0 : Nat) (v3 : Int32) (K : (Nat → Nat → Int32) → (Nat → Nat → Int64) → Option (Int32 × bf_St)) : Nat → Int32 → (Nat → Nat → Int32) → (Nat → Nat → Int64) → Option (Int32 × bf_St)
  | 0, _, _, _ => none
  | n + 1, v4, I, L =>
    (if v3 < v4 then (K I L) else (if (4 : Int32) < v4 then (K I L) else (if v4 ≤ 0 then ((f_X11_seenAfter v0 v4 I L).bind (fun r11 => (if r11.1 = 0 then (some ((0 : Int32), r11.2.1, r11.2.2)) else (f_X11_allSeenWith_51 v0 v3 K n (v4 + (1 : Int32)) r11.2.1 r11.2.2)))) else ((f_X6_play (v0 + 102) (v0 + 77) I L).bind (fun r14 => ((f_X11_seenAfter v0 v4 r14.1 r14.2).bind (fun r16 => (if r16.1 = 0 then (some ((0 : Int32), r16.2.1, r16.2.2)) else (f_X11_allSeenWith_51 v0 v3 K n (v4 + (1 : Int32)) r16.2.1 r16.2.2)))))))))
set_option maxRecDepth 100000 in
set_option maxHeartbeats 4000000 in
theorem ok_X11_allSeenWith_51 {Γ : bf_Gm} {ad : Nat → Nat} {v0 : Nat} {v3 : Int32} (hv0 : bf_kd v0 = 11) {r : Int32 × bf_St} {K : (Nat → Nat → Int32) → (Nat → Nat → Int64) → Option (Int32 × bf_St)} (hK : ∀ (I : Nat → Nat → Int32) (L : Nat → Nat → Int64), K  I L = some r → bf_Go Γ (bf_rm 5 0 0) mu_X11_allSeenWith bf_E0 (bf_Z Γ (fun q h => q = some (.int r.1) ∧ h = bf_S ad r.2.1 r.2.2) 0 0) (0, 0) 96 [] [] (bf_S ad I L)) : ∀ (n : Nat) (v4 : Int32) (I : Nat → Nat → Int32) (L : Nat → Nat → Int64), f_X11_allSeenWith_51 v0 v3 K n v4 I L = some r → bf_Go Γ (bf_rm 5 0 0) mu_X11_allSeenWith bf_E0 (bf_Z Γ (fun q h => q = some (.int r.1) ∧ h = bf_S ad r.2.1 r.2.2) 0 0) (0, 0) 51 [(0, .ref (ad v0)), (3, .int v3), (4, .int v4)] [] (bf_S ad I L) := by
  intro n
  induction n with
  | zero => intro v4 I L hf; exact absurd (show none = some r from hf) (by simp)
  | succ n ih =>
    intro v4 I L hf
    rw [f_X11_allSeenWith_51] at hf
    refine bf_iload 2 dX11_allSeenWith_51 rfl ?_
    refine bf_iload_n 1 dX11_allSeenWith_53 rfl rfl ?_
    refine bf_icmp_gt 96 dX11_allSeenWith_54 (by decide) (fun c7 => ?_) (fun c7 => ?_)
    · have hf := (if_pos c7).symm.trans hf
      refine bf_perm [] rfl ?_
      exact hK _ _ hf
    · have hf := (if_neg c7).symm.trans hf
      refine bf_iload 2 dX11_allSeenWith_57 rfl ?_
      refine bf_iconst (v := 4) dX11_allSeenWith_59 (by decide) ?_
      refine bf_icmp_gt 96 dX11_allSeenWith_60 (by decide) (fun c8 => ?_) (fun c8 => ?_)
      · have hf := (if_pos c8).symm.trans hf
        refine bf_perm [] rfl ?_
        exact hK _ _ hf
      · have hf := (if_neg c8).symm.trans hf
        refine bf_iload 2 dX11_allSeenWith_63 rfl ?_
        refine bf_if_le 79 dX11_allSeenWith_65 (by decide) (fun c9 => ?_) (fun c9 => ?_)
        · have hf := (if_pos c9).symm.trans hf
          refine bf_aload_n 0 dX11_allSeenWith_79 rfl rfl ?_
          refine bf_iload 2 dX11_allSeenWith_80 rfl ?_
          obtain ⟨r11, e10, hf⟩ := bf_bind hf
          have hCe10 := ok_X11_seenAfter (Γ := Γ) (ad := ad) hv0 e10
          refine cv_X11_269 3 dX11_allSeenWith_82 rfl ⟨Nat.le_of_ble_eq_true rfl, Nat.le_of_ble_eq_true rfl⟩ (Nat.le_of_ble_eq_true rfl) hv0 hCe10 ?_
          refine bf_if_ne 90 dX11_allSeenWith_85 (by decide) (fun c12 => ?_) (fun c12 => ?_)
          · have hf := (if_neg c12).symm.trans hf
            refine bf_iinc 2 (v := _ + (1 : Int32)) (lv2 := [(4, .int _), (0, .ref _), (3, .int _)]) dX11_allSeenWith_90 rfl (by rfl) (by decide) rfl ?_
            refine bf_goto 51 dX11_allSeenWith_93 (by decide) ?_
            refine bf_perm [1, 2, 0] rfl ?_
            exact ih _ _ _ hf
          · have hf := (if_pos c12).symm.trans hf
            refine bf_iconst (v := 0) dX11_allSeenWith_88 (by decide) ?_
            obtain rfl := Option.some.inj hf
            exact bf_zret dX11_allSeenWith_89 rfl rfl (Nat.le_refl _) (Nat.le_refl _) ⟨rfl, rfl⟩
        · have hf := (if_neg c9).symm.trans hf
          refine bf_aload_n 0 dX11_allSeenWith_68 rfl rfl ?_
          refine fg_X11_35 dX11_allSeenWith_69 rfl hv0 ?_
          refine bf_aload_n 0 dX11_allSeenWith_72 rfl rfl ?_
          refine fg_X11_28 dX11_allSeenWith_73 rfl hv0 ?_
          obtain ⟨r14, e13, hf⟩ := bf_bind hf
          have hCe13 := ok_X6_play (Γ := Γ) (ad := ad) (kr_11_4 hv0) (kr_11_3 hv0) e13
          refine cv_X11_220 4 dX11_allSeenWith_76 rfl ⟨Nat.le_of_ble_eq_true rfl, Nat.le_of_ble_eq_true rfl⟩ (Nat.le_of_ble_eq_true rfl) (kr_11_4 hv0) hCe13 ?_
          refine bf_aload_n 0 dX11_allSeenWith_79 rfl rfl ?_
          refine bf_iload 2 dX11_allSeenWith_80 rfl ?_
          obtain ⟨r16, e15, hf⟩ := bf_bind hf
          have hCe15 := ok_X11_seenAfter (Γ := Γ) (ad := ad) hv0 e15
          refine cv_X11_269 3 dX11_allSeenWith_82 rfl ⟨Nat.le_of_ble_eq_true rfl, Nat.le_of_ble_eq_true rfl⟩ (Nat.le_of_ble_eq_true rfl) hv0 hCe15 ?_
          refine bf_if_ne 90 dX11_allSeenWith_85 (by decide) (fun c17 => ?_) (fun c17 => ?_)
          · have hf := (if_neg c17).symm.trans hf
            refine bf_iinc 2 (v := _ + (1 : Int32)) (lv2 := [(4, .int _), (0, .ref _), (3, .int _)]) dX11_allSeenWith_90 rfl (by rfl) (by decide) rfl ?_
            refine bf_goto 51 dX11_allSeenWith_93 (by decide) ?_
            refine bf_perm [1, 2, 0] rfl ?_
            exact ih _ _ _ hf
          · have hf := (if_pos c17).symm.trans hf
            refine bf_iconst (v := 0) dX11_allSeenWith_88 (by decide) ?_
            obtain rfl := Option.some.inj hf
            exact bf_zret dX11_allSeenWith_89 rfl rfl (Nat.le_refl _) (Nat.le_refl _) ⟨rfl, rfl⟩
def f_X11_allSeenWith_p21 (v0 : Nat) (v1 : Int32) (v2 : Int32) (v3 : Int32) (I : Nat → Nat → Int32) (L : Nat → Nat → Int64) : Option (Int32 × bf_St) :=
  ((f_X3_copyFrom (v0 + 77) ((v0 + 1) + 1) I L).bind (fun r5 => (if bf_ok v1 6 then (f_X11_allSeenWith_51 v0 v3 (fun I18 L18 => (some ((1 : Int32), I18, L18))) 400 (0 : Int32) (bf_u r5.1 (((v0 + 77) + 1) + 1 + v1.toNatClampNeg) 1 v2) r5.2) else none)))
set_option maxRecDepth 100000 in
set_option maxHeartbeats 4000000 in
theorem ok_X11_allSeenWith_p21 {Γ : bf_Gm} {ad : Nat → Nat} {v0 : Nat} {v1 : Int32} {v2 : Int32} {v3 : Int32} {I : Nat → Nat → Int32} {L : Nat → Nat → Int64} (hv0 : bf_kd v0 = 11) {r : Int32 × bf_St} (hf : f_X11_allSeenWith_p21 v0 v1 v2 v3 I L = some r) : bf_Go Γ (bf_rm 5 0 0) mu_X11_allSeenWith bf_E0 (bf_Z Γ (fun q h => q = some (.int r.1) ∧ h = bf_S ad r.2.1 r.2.2) 0 0) (0, 0) 21 [(0, .ref (ad v0)), (1, .int v1), (2, .int v2), (3, .int v3)] [] (bf_S ad I L) := by
  unfold f_X11_allSeenWith_p21 at hf
  refine bf_aload_n 0 dX11_allSeenWith_21 rfl rfl ?_
  refine fg_X11_28 dX11_allSeenWith_22 rfl hv0 ?_
  refine bf_aload_n 0 dX11_allSeenWith_25 rfl rfl ?_
  refine fg_X11_14 dX11_allSeenWith_26 rfl hv0 ?_
  refine fg_X11_60 dX11_allSeenWith_29 rfl (kr_11_0 hv0) ?_
  obtain ⟨r5, e4, hf⟩ := bf_bind hf
  have hCe4 := ok_X3_copyFrom (Γ := Γ) (ad := ad) (kr_11_3 hv0) (kr_7_0 (kr_11_0 hv0)) e4
  refine cv_X11_248 2 dX11_allSeenWith_32 rfl ⟨Nat.le_of_ble_eq_true rfl, Nat.le_of_ble_eq_true rfl⟩ (Nat.le_of_ble_eq_true rfl) (kr_11_3 hv0) hCe4 ?_
  refine bf_aload_n 0 dX11_allSeenWith_35 rfl rfl ?_
  refine fg_X11_28 dX11_allSeenWith_36 rfl hv0 ?_
  refine fg_X11_138 dX11_allSeenWith_39 rfl (kr_11_3 hv0) ?_
  refine bf_iload_n 1 dX11_allSeenWith_42 rfl rfl ?_
  rcases Decidable.em (bf_ok v1 6) with c6 | c6
  · have hf := (if_pos c6).symm.trans hf
    refine al_16 dX11_allSeenWith_43 (kr_3_0 (kr_11_3 hv0)) (by rw [(la_16 (kr_3_0 (kr_11_3 hv0)))]; exact c6) ?_
    refine bf_iload_n 2 dX11_allSeenWith_44 rfl rfl ?_
    refine fp_X11_147 dX11_allSeenWith_45 rfl (ka_16 (kr_3_0 (kr_11_3 hv0)) ((by rw [(la_16 (kr_3_0 (kr_11_3 hv0)))]; exact c6) : bf_ok _ _).2) ?_
    refine bf_iconst (v := 0) dX11_allSeenWith_48 (by decide) ?_
    refine bf_istore (lv2 := [(4, .int _), (0, .ref _), (1, .int _), (2, .int _), (3, .int _)]) dX11_allSeenWith_49 (by decide) rfl ?_
    refine bf_perm [1, 4, 0] rfl ?_
    refine ok_X11_allSeenWith_51 hv0 (fun I18 L18 hf => ?_) _ _ _ _  hf
    refine bf_iconst (v := 1) dX11_allSeenWith_96 (by decide) ?_
    obtain rfl := Option.some.inj hf
    exact bf_zret dX11_allSeenWith_97 rfl rfl (Nat.le_refl _) (Nat.le_refl _) ⟨rfl, rfl⟩
  · exact absurd ((if_neg c6).symm.trans hf) (by simp)
def f_X11_allSeenWith (o : Nat) (a0 : Int32) (a1 : Int32) (I : Nat → Nat → Int32) (L : Nat → Nat → Int64) : Option (Int32 × bf_St) :=
  ((f_X11_farthestSeen o I L).bind (fun r2 => (if r2.1 ≤ 0 then (f_X11_allSeenWith_p21 o a0 a1 r2.1 r2.2.1 r2.2.2) else ((f_X6_goes (o + 102) r2.2.1 r2.2.2).bind (fun r20 => (if r20.1 = 0 then (some ((0 : Int32), r20.2.1, r20.2.2)) else (f_X11_allSeenWith_p21 o a0 a1 r2.1 r20.2.1 r20.2.2)))))))
set_option maxRecDepth 100000 in
set_option maxHeartbeats 4000000 in
theorem ok_X11_allSeenWith {Γ : bf_Gm} {ad : Nat → Nat} {o : Nat} {a0 : Int32} {a1 : Int32} {I : Nat → Nat → Int32} {L : Nat → Nat → Int64} (hk : bf_kd o = 11) {r : Int32 × bf_St} (hf : f_X11_allSeenWith o a0 a1 I L = some r) : bf_Cn Γ 5 mu_X11_allSeenWith 0 0 [.ref (ad o), .int a0, .int a1] (bf_S ad I L) (fun q h => q = some (.int r.1) ∧ h = bf_S ad r.2.1 r.2.2) := by
  refine bf_met rfl (Nat.le_of_ble_eq_true rfl) ?_
  unfold f_X11_allSeenWith at hf
  refine bf_aload_n 0 dX11_allSeenWith_0 rfl rfl ?_
  obtain ⟨r2, e1, hf⟩ := bf_bind hf
  have hCe1 := ok_X11_farthestSeen (Γ := Γ) (ad := ad) hk e1
  refine cv_X11_266 1 dX11_allSeenWith_1 rfl ⟨Nat.le_of_ble_eq_true rfl, Nat.le_of_ble_eq_true rfl⟩ (Nat.le_of_ble_eq_true rfl) hk hCe1 ?_
  refine bf_istore_n (lv2 := [(3, .int _), (0, .ref _), (1, .int _), (2, .int _)]) dX11_allSeenWith_4 rfl (by decide) rfl ?_
  refine bf_iload_n 0 dX11_allSeenWith_5 rfl rfl ?_
  refine bf_if_le 21 dX11_allSeenWith_6 (by decide) (fun c3 => ?_) (fun c3 => ?_)
  · have hf := (if_pos c3).symm.trans hf
    refine bf_perm [1, 2, 3, 0] rfl ?_
    exact ok_X11_allSeenWith_p21 hk  hf
  · have hf := (if_neg c3).symm.trans hf
    refine bf_aload_n 1 dX11_allSeenWith_9 rfl rfl ?_
    refine fg_X11_35 dX11_allSeenWith_10 rfl hk ?_
    obtain ⟨r20, e19, hf⟩ := bf_bind hf
    have hCe19 := ok_X6_goes (Γ := Γ) (ad := ad) (kr_11_4 hk) e19
    refine cv_X11_197 0 dX11_allSeenWith_13 rfl ⟨Nat.le_of_ble_eq_true rfl, Nat.le_of_ble_eq_true rfl⟩ (Nat.le_of_ble_eq_true rfl) (kr_11_4 hk) hCe19 ?_
    refine bf_if_ne 21 dX11_allSeenWith_16 (by decide) (fun c21 => ?_) (fun c21 => ?_)
    · have hf := (if_neg c21).symm.trans hf
      refine bf_perm [1, 2, 3, 0] rfl ?_
      exact ok_X11_allSeenWith_p21 hk  hf
    · have hf := (if_pos c21).symm.trans hf
      refine bf_iconst (v := 0) dX11_allSeenWith_19 (by decide) ?_
      obtain rfl := Option.some.inj hf
      exact bf_zret dX11_allSeenWith_20 rfl rfl (Nat.le_refl _) (Nat.le_refl _) ⟨rfl, rfl⟩
def f_X11_fits_48 (v0 : Nat) (v1 : Int32) (v2 : Int32) (K : Int32 → Int32 → (Nat → Nat → Int32) → (Nat → Nat → Int64) → Option (Int32 × bf_St)) : Nat → Int32 → Int32 → Int32 → (Nat → Nat → Int32) → (Nat → Nat → Int64) → Option (Int32 × bf_St)
  | 0, _, _, _, _, _ => none
  | n + 1, v3, v4, v5, I, L =>
    (if (9 : Int32) < v5 then (K v3 v4 I L) else ((f_X11_allSeenWith v0 v1 v5 I L).bind (fun r10 => (if r10.1 = 0 then (f_X11_fits_48 v0 v1 v2 K n v3 v4 (v5 + (1 : Int32)) r10.2.1 r10.2.2) else (if v3 = 0 then (f_X11_fits_48 v0 v1 v2 K n (v3 + (1 : Int32)) v5 (v5 + (1 : Int32)) r10.2.1 r10.2.2) else (f_X11_fits_48 v0 v1 v2 K n (v3 + (1 : Int32)) v4 (v5 + (1 : Int32)) r10.2.1 r10.2.2))))))
set_option maxRecDepth 100000 in
set_option maxHeartbeats 4000000 in
theorem ok_X11_fits_48 {Γ : bf_Gm} {ad : Nat → Nat} {v0 : Nat} {v1 : Int32} {v2 : Int32} (hv0 : bf_kd v0 = 11) {r : Int32 × bf_St} {K : Int32 → Int32 → (Nat → Nat → Int32) → (Nat → Nat → Int64) → Option (Int32 × bf_St)} (hK : ∀ (v3 : Int32) (v4 : Int32) (I : Nat → Nat → Int32) (L : Nat → Nat → Int64), K v3 v4 I L = some r → bf_Go Γ (bf_rm 6 0 0) mu_X11_fits bf_E0 (bf_Z Γ (fun q h => q = some (.int r.1) ∧ h = bf_S ad r.2.1 r.2.2) 0 0) (0, 0) 87 [(2, .int v2), (3, .int v3), (4, .int v4)] [] (bf_S ad I L)) : ∀ (n : Nat) (v3 : Int32) (v4 : Int32) (v5 : Int32) (I : Nat → Nat → Int32) (L : Nat → Nat → Int64), f_X11_fits_48 v0 v1 v2 K n v3 v4 v5 I L = some r → bf_Go Γ (bf_rm 6 0 0) mu_X11_fits bf_E0 (bf_Z Γ (fun q h => q = some (.int r.1) ∧ h = bf_S ad r.2.1 r.2.2) 0 0) (0, 0) 48 [(0, .ref (ad v0)), (1, .int v1), (2, .int v2), (3, .int v3), (4, .int v4), (5, .int v5)] [] (bf_S ad I L) := by
  intro n
  induction n with
  | zero => intro v3 v4 v5 I L hf; exact absurd (show none = some r from hf) (by simp)
  | succ n ih =>
    intro v3 v4 v5 I L hf
    rw [f_X11_fits_48] at hf
    refine bf_iload 5 dX11_fits_48 rfl ?_
    refine bf_bipush (v := 9) dX11_fits_50 (by decide) ?_
    refine bf_icmp_gt 87 dX11_fits_52 (by decide) (fun c8 => ?_) (fun c8 => ?_)
    · have hf := (if_pos c8).symm.trans hf
      refine bf_perm [2, 3, 4] rfl ?_
      exact hK _ _ _ _ hf
    · have hf := (if_neg c8).symm.trans hf
      refine bf_aload_n 0 dX11_fits_55 rfl rfl ?_
      refine bf_iload_n 1 dX11_fits_56 rfl rfl ?_
      refine bf_iload 5 dX11_fits_57 rfl ?_
      obtain ⟨r10, e9, hf⟩ := bf_bind hf
      have hCe9 := ok_X11_allSeenWith (Γ := Γ) (ad := ad) hv0 e9
      refine cv_X11_262 5 dX11_fits_59 rfl ⟨Nat.le_of_ble_eq_true rfl, Nat.le_of_ble_eq_true rfl⟩ (Nat.le_of_ble_eq_true rfl) hv0 hCe9 ?_
      refine bf_if_eq 81 dX11_fits_62 (by decide) (fun c11 => ?_) (fun c11 => ?_)
      · have hf := (if_pos c11).symm.trans hf
        refine bf_iinc 5 (v := _ + (1 : Int32)) (lv2 := [(5, .int _), (0, .ref _), (1, .int _), (2, .int _), (3, .int _), (4, .int _)]) dX11_fits_81 rfl (by rfl) (by decide) rfl ?_
        refine bf_goto 48 dX11_fits_84 (by decide) ?_
        refine bf_perm [1, 2, 3, 4, 5, 0] rfl ?_
        exact ih _ _ _ _ _ hf
      · have hf := (if_neg c11).symm.trans hf
        refine bf_iload_n 3 dX11_fits_65 rfl rfl ?_
        refine bf_if_ne 74 dX11_fits_66 (by decide) (fun c12 => ?_) (fun c12 => ?_)
        · have hf := (if_neg c12).symm.trans hf
          refine bf_iload 4 dX11_fits_74 rfl ?_
          refine bf_istore (lv2 := [(4, .int _), (0, .ref _), (1, .int _), (2, .int _), (3, .int _), (5, .int _)]) dX11_fits_76 (by decide) rfl ?_
          refine bf_iinc 4 (v := _ + (1 : Int32)) (lv2 := [(3, .int _), (4, .int _), (0, .ref _), (1, .int _), (2, .int _), (5, .int _)]) dX11_fits_78 rfl (by rfl) (by decide) rfl ?_
          refine bf_iinc 5 (v := _ + (1 : Int32)) (lv2 := [(5, .int _), (3, .int _), (4, .int _), (0, .ref _), (1, .int _), (2, .int _)]) dX11_fits_81 rfl (by rfl) (by decide) rfl ?_
          refine bf_goto 48 dX11_fits_84 (by decide) ?_
          refine bf_perm [3, 4, 5, 1, 2, 0] rfl ?_
          exact ih _ _ _ _ _ hf
        · have hf := (if_pos c12).symm.trans hf
          refine bf_iload 5 dX11_fits_69 rfl ?_
          refine bf_goto 76 dX11_fits_71 (by decide) ?_
          refine bf_istore (lv2 := [(4, .int _), (0, .ref _), (1, .int _), (2, .int _), (3, .int _), (5, .int _)]) dX11_fits_76 (by decide) rfl ?_
          refine bf_iinc 4 (v := _ + (1 : Int32)) (lv2 := [(3, .int _), (4, .int _), (0, .ref _), (1, .int _), (2, .int _), (5, .int _)]) dX11_fits_78 rfl (by rfl) (by decide) rfl ?_
          refine bf_iinc 5 (v := _ + (1 : Int32)) (lv2 := [(5, .int _), (3, .int _), (4, .int _), (0, .ref _), (1, .int _), (2, .int _)]) dX11_fits_81 rfl (by rfl) (by decide) rfl ?_
          refine bf_goto 48 dX11_fits_84 (by decide) ?_
          refine bf_perm [3, 4, 5, 1, 2, 0] rfl ?_
          exact ih _ _ _ _ _ hf
def f_X11_fits (o : Nat) (a0 : Int32) (a1 : Int32) (I : Nat → Nat → Int32) (L : Nat → Nat → Int64) : Option (Int32 × bf_St) :=
  ((f_X3_hasBox ((o + 1) + 1) a0 I L).bind (fun r2 => (if r2.1 = 0 then (some ((-1 : Int32), r2.2.1, r2.2.2)) else (if a1 < 0 then (some ((-1 : Int32), r2.2.1, r2.2.2)) else (if a1 ≤ (1 : Int32) then ((f_X6_look (o + 102) ((o + 1) + 1) r2.2.1 r2.2.2).bind (fun r7 => (f_X11_fits_48 o a0 a1 (fun k3_13 k4_13 I13 L13 => (if a1 = 0 then (some (k3_13, I13, L13)) else (some (k4_13, I13, L13)))) 400 (0 : Int32) (-5 : Int32) (0 : Int32) r7.1 r7.2))) else (some ((-1 : Int32), r2.2.1, r2.2.2)))))))
set_option maxRecDepth 100000 in
set_option maxHeartbeats 4000000 in
theorem ok_X11_fits {Γ : bf_Gm} {ad : Nat → Nat} {o : Nat} {a0 : Int32} {a1 : Int32} {I : Nat → Nat → Int32} {L : Nat → Nat → Int64} (hk : bf_kd o = 11) {r : Int32 × bf_St} (hf : f_X11_fits o a0 a1 I L = some r) : bf_Cn Γ 6 mu_X11_fits 0 0 [.ref (ad o), .int a0, .int a1] (bf_S ad I L) (fun q h => q = some (.int r.1) ∧ h = bf_S ad r.2.1 r.2.2) := by
  refine bf_met rfl (Nat.le_of_ble_eq_true rfl) ?_
  unfold f_X11_fits at hf
  refine bf_aload_n 0 dX11_fits_0 rfl rfl ?_
  refine fg_X11_14 dX11_fits_1 rfl hk ?_
  refine fg_X11_60 dX11_fits_4 rfl (kr_11_0 hk) ?_
  refine bf_iload_n 1 dX11_fits_7 rfl rfl ?_
  obtain ⟨r2, e1, hf⟩ := bf_bind hf
  have hCe1 := ok_X3_hasBox (Γ := Γ) (ad := ad) (kr_7_0 (kr_11_0 hk)) e1
  refine cv_X11_135 0 dX11_fits_8 rfl ⟨Nat.le_of_ble_eq_true rfl, Nat.le_of_ble_eq_true rfl⟩ (Nat.le_of_ble_eq_true rfl) (kr_7_0 (kr_11_0 hk)) hCe1 ?_
  refine bf_if_eq 23 dX11_fits_11 (by decide) (fun c3 => ?_) (fun c3 => ?_)
  · have hf := (if_pos c3).symm.trans hf
    refine bf_iconst (v := -1) dX11_fits_23 (by decide) ?_
    obtain rfl := Option.some.inj hf
    exact bf_iret dX11_fits_24 rfl (Nat.le_refl _) (Nat.le_refl _) ⟨rfl, rfl⟩
  · have hf := (if_neg c3).symm.trans hf
    refine bf_iload_n 2 dX11_fits_14 rfl rfl ?_
    refine bf_if_lt 23 dX11_fits_15 (by decide) (fun c4 => ?_) (fun c4 => ?_)
    · have hf := (if_pos c4).symm.trans hf
      refine bf_iconst (v := -1) dX11_fits_23 (by decide) ?_
      obtain rfl := Option.some.inj hf
      exact bf_iret dX11_fits_24 rfl (Nat.le_refl _) (Nat.le_refl _) ⟨rfl, rfl⟩
    · have hf := (if_neg c4).symm.trans hf
      refine bf_iload_n 2 dX11_fits_18 rfl rfl ?_
      refine bf_iconst (v := 1) dX11_fits_19 (by decide) ?_
      refine bf_icmp_le 25 dX11_fits_20 (by decide) (fun c5 => ?_) (fun c5 => ?_)
      · have hf := (if_pos c5).symm.trans hf
        refine bf_aload_n 0 dX11_fits_25 rfl rfl ?_
        refine fg_X11_35 dX11_fits_26 rfl hk ?_
        refine bf_aload_n 0 dX11_fits_29 rfl rfl ?_
        refine fg_X11_14 dX11_fits_30 rfl hk ?_
        refine fg_X11_60 dX11_fits_33 rfl (kr_11_0 hk) ?_
        obtain ⟨r7, e6, hf⟩ := bf_bind hf
        have hCe6 := ok_X6_look (Γ := Γ) (ad := ad) (kr_11_4 hk) (kr_7_0 (kr_11_0 hk)) e6
        refine cv_X11_170 5 dX11_fits_36 rfl ⟨Nat.le_of_ble_eq_true rfl, Nat.le_of_ble_eq_true rfl⟩ (Nat.le_of_ble_eq_true rfl) (kr_11_4 hk) hCe6 ?_
        refine bf_iconst (v := 0) dX11_fits_39 (by decide) ?_
        refine bf_istore_n (lv2 := [(3, .int _), (0, .ref _), (1, .int _), (2, .int _)]) dX11_fits_40 rfl (by decide) rfl ?_
        refine bf_bipush (v := -5) dX11_fits_41 (by decide) ?_
        refine bf_istore (lv2 := [(4, .int _), (3, .int _), (0, .ref _), (1, .int _), (2, .int _)]) dX11_fits_43 (by decide) rfl ?_
        refine bf_iconst (v := 0) dX11_fits_45 (by decide) ?_
        refine bf_istore (lv2 := [(5, .int _), (4, .int _), (3, .int _), (0, .ref _), (1, .int _), (2, .int _)]) dX11_fits_46 (by decide) rfl ?_
        refine bf_perm [3, 4, 5, 2, 1, 0] rfl ?_
        refine ok_X11_fits_48 hk (fun k3_13 k4_13 I13 L13 hf => ?_) _ _ _ _ _ _  hf
        refine bf_iload_n 0 dX11_fits_87 rfl rfl ?_
        refine bf_if_ne 95 dX11_fits_88 (by decide) (fun c14 => ?_) (fun c14 => ?_)
        · have hf := (if_neg c14).symm.trans hf
          refine bf_iload 2 dX11_fits_95 rfl ?_
          obtain rfl := Option.some.inj hf
          exact bf_iret dX11_fits_97 rfl (Nat.le_refl _) (Nat.le_refl _) ⟨rfl, rfl⟩
        · have hf := (if_pos c14).symm.trans hf
          refine bf_iload_n 1 dX11_fits_91 rfl rfl ?_
          refine bf_goto 97 dX11_fits_92 (by decide) ?_
          obtain rfl := Option.some.inj hf
          exact bf_iret dX11_fits_97 rfl (Nat.le_refl _) (Nat.le_refl _) ⟨rfl, rfl⟩
      · have hf := (if_neg c5).symm.trans hf
        refine bf_iconst (v := -1) dX11_fits_23 (by decide) ?_
        obtain rfl := Option.some.inj hf
        exact bf_iret dX11_fits_24 rfl (Nat.le_refl _) (Nat.le_refl _) ⟨rfl, rfl⟩
def f_X11_lowestTerms (a0 : Int64) (a1 : Int64) (a2 : Int32) (I : Nat → Nat → Int32) (L : Nat → Nat → Int64) : Option (Int64 × bf_St) :=
  ((f_X11_greatestDivisor (bf_absL a0) a1 I L).bind (fun r2 => (if 0 < (lg_cmp r2.1 (0 : Int64)) then (if a2 = 0 then (if r2.1 = 0 then none else (some ((a0 / r2.1), r2.2.1, r2.2.2))) else (if r2.1 = 0 then none else (some ((a1 / r2.1), r2.2.1, r2.2.2)))) else (some ((-9223372036854775808 : Int64), r2.2.1, r2.2.2)))))
set_option maxRecDepth 100000 in
set_option maxHeartbeats 4000000 in
theorem ok_X11_lowestTerms {Γ : bf_Gm} {ad : Nat → Nat} {a0 : Int64} {a1 : Int64} {a2 : Int32} {I : Nat → Nat → Int32} {L : Nat → Nat → Int64} {r : Int64 × bf_St} (hf : f_X11_lowestTerms a0 a1 a2 I L = some r) : bf_Cn Γ 1 mu_X11_lowestTerms 0 0 [.long a0, .long a1, .int a2] (bf_S ad I L) (fun q h => q = some (.long r.1) ∧ h = bf_S ad r.2.1 r.2.2) := by
  refine bf_met rfl (Nat.le_of_ble_eq_true rfl) ?_
  unfold f_X11_lowestTerms at hf
  refine bf_lload_n 0 dX11_lowestTerms_0 rfl rfl ?_
  refine bf_mabsL dX11_lowestTerms_1 wl_X11_300 wt_JabsL wi_J9 wc_JabsL (Nat.le_of_ble_eq_true rfl) (Nat.le_of_ble_eq_true rfl) (Nat.zero_le _) (Nat.zero_le _) ?_
  refine bf_lload_n 1 dX11_lowestTerms_4 rfl rfl ?_
  obtain ⟨r2, e1, hf⟩ := bf_bind hf
  have hCe1 := ok_X11_greatestDivisor (Γ := Γ) (ad := ad)  e1
  refine cv_X11_304 0 dX11_lowestTerms_5 rfl ⟨Nat.le_of_ble_eq_true rfl, Nat.le_of_ble_eq_true rfl⟩ (Nat.le_of_ble_eq_true rfl) hCe1 ?_
  refine bf_lstore (lv2 := [(5, .long _), (0, .long _), (2, .long _), (4, .int _)]) dX11_lowestTerms_8 (by decide) rfl ?_
  refine bf_lload 0 dX11_lowestTerms_10 rfl ?_
  refine bf_lconst (v := 0) dX11_lowestTerms_12 (by decide) ?_
  refine bf_lcmp dX11_lowestTerms_13 ?_
  refine bf_if_gt 21 dX11_lowestTerms_14 (by decide) (fun c3 => ?_) (fun c3 => ?_)
  · have hf := (if_pos c3).symm.trans hf
    refine bf_iload 3 dX11_lowestTerms_21 rfl ?_
    refine bf_if_ne 33 dX11_lowestTerms_23 (by decide) (fun c4 => ?_) (fun c4 => ?_)
    · have hf := (if_neg c4).symm.trans hf
      refine bf_lload_n 2 dX11_lowestTerms_33 rfl rfl ?_
      refine bf_lload 0 dX11_lowestTerms_34 rfl ?_
      rcases Decidable.em (r2.1 = 0) with c5 | c5
      · exact absurd ((if_pos c5).symm.trans hf) (by simp)
      · have hf := (if_neg c5).symm.trans hf
        refine bf_ldiv dX11_lowestTerms_36 c5 ?_
        obtain rfl := Option.some.inj hf
        exact bf_lret dX11_lowestTerms_37 rfl (Nat.le_refl _) (Nat.le_refl _) ⟨rfl, rfl⟩
    · have hf := (if_pos c4).symm.trans hf
      refine bf_lload_n 1 dX11_lowestTerms_26 rfl rfl ?_
      refine bf_lload 0 dX11_lowestTerms_27 rfl ?_
      rcases Decidable.em (r2.1 = 0) with c6 | c6
      · exact absurd ((if_pos c6).symm.trans hf) (by simp)
      · have hf := (if_neg c6).symm.trans hf
        refine bf_ldiv dX11_lowestTerms_29 c6 ?_
        refine bf_goto 37 dX11_lowestTerms_30 (by decide) ?_
        obtain rfl := Option.some.inj hf
        exact bf_lret dX11_lowestTerms_37 rfl (Nat.le_refl _) (Nat.le_refl _) ⟨rfl, rfl⟩
  · have hf := (if_neg c3).symm.trans hf
    refine bf_ldc2 dX11_lowestTerms_17 wk_X11_205 ?_
    obtain rfl := Option.some.inj hf
    exact bf_lret dX11_lowestTerms_20 rfl (Nat.le_refl _) (Nat.le_refl _) ⟨rfl, rfl⟩
def f_X11_odds_32 (v0 : Nat) (v1 : Int32) (v2 : Int32) (K : Int32 → (Nat → Nat → Int32) → (Nat → Nat → Int64) → Option (Int64 × bf_St)) : Nat → Int32 → Int32 → (Nat → Nat → Int32) → (Nat → Nat → Int64) → Option (Int64 × bf_St)
  | 0, _, _, _, _ => none
  | n + 1, v3, v4, I, L =>
    (if (9 : Int32) < v4 then (K v3 I L) else ((f_X6_lookWith (v0 + 102) ((v0 + 1) + 1) v1 v4 I L).bind (fun r8 => ((f_X6_goes (v0 + 102) r8.1 r8.2).bind (fun r10 => (if r10.1 = 0 then (f_X11_odds_32 v0 v1 v2 K n v3 (v4 + (1 : Int32)) r10.2.1 r10.2.2) else (f_X11_odds_32 v0 v1 v2 K n (v3 + (1 : Int32)) (v4 + (1 : Int32)) r10.2.1 r10.2.2)))))))
set_option maxRecDepth 100000 in
set_option maxHeartbeats 4000000 in
theorem ok_X11_odds_32 {Γ : bf_Gm} {ad : Nat → Nat} {v0 : Nat} {v1 : Int32} {v2 : Int32} (hv0 : bf_kd v0 = 11) {r : Int64 × bf_St} {K : Int32 → (Nat → Nat → Int32) → (Nat → Nat → Int64) → Option (Int64 × bf_St)} (hK : ∀ (v3 : Int32) (I : Nat → Nat → Int32) (L : Nat → Nat → Int64), K v3 I L = some r → bf_Go Γ (bf_rm 6 0 0) mu_X11_odds bf_E0 (bf_Z Γ (fun q h => q = some (.long r.1) ∧ h = bf_S ad r.2.1 r.2.2) 0 0) (0, 0) 75 [(2, .int v2), (3, .int v3)] [] (bf_S ad I L)) : ∀ (n : Nat) (v3 : Int32) (v4 : Int32) (I : Nat → Nat → Int32) (L : Nat → Nat → Int64), f_X11_odds_32 v0 v1 v2 K n v3 v4 I L = some r → bf_Go Γ (bf_rm 6 0 0) mu_X11_odds bf_E0 (bf_Z Γ (fun q h => q = some (.long r.1) ∧ h = bf_S ad r.2.1 r.2.2) 0 0) (0, 0) 32 [(0, .ref (ad v0)), (1, .int v1), (2, .int v2), (3, .int v3), (4, .int v4)] [] (bf_S ad I L) := by
  intro n
  induction n with
  | zero => intro v3 v4 I L hf; exact absurd (show none = some r from hf) (by simp)
  | succ n ih =>
    intro v3 v4 I L hf
    rw [f_X11_odds_32] at hf
    refine bf_iload 4 dX11_odds_32 rfl ?_
    refine bf_bipush (v := 9) dX11_odds_34 (by decide) ?_
    refine bf_icmp_gt 75 dX11_odds_36 (by decide) (fun c6 => ?_) (fun c6 => ?_)
    · have hf := (if_pos c6).symm.trans hf
      refine bf_perm [2, 3] rfl ?_
      exact hK _ _ _ hf
    · have hf := (if_neg c6).symm.trans hf
      refine bf_aload_n 0 dX11_odds_39 rfl rfl ?_
      refine fg_X11_35 dX11_odds_40 rfl hv0 ?_
      refine bf_aload_n 0 dX11_odds_43 rfl rfl ?_
      refine fg_X11_14 dX11_odds_44 rfl hv0 ?_
      refine fg_X11_60 dX11_odds_47 rfl (kr_11_0 hv0) ?_
      refine bf_iload_n 1 dX11_odds_50 rfl rfl ?_
      refine bf_iload 4 dX11_odds_51 rfl ?_
      obtain ⟨r8, e7, hf⟩ := bf_bind hf
      have hCe7 := ok_X6_lookWith (Γ := Γ) (ad := ad) (kr_11_4 hv0) (kr_7_0 (kr_11_0 hv0)) e7
      refine cv_X11_193 5 dX11_odds_53 rfl ⟨Nat.le_of_ble_eq_true rfl, Nat.le_of_ble_eq_true rfl⟩ (Nat.le_of_ble_eq_true rfl) (kr_11_4 hv0) hCe7 ?_
      refine bf_aload_n 0 dX11_odds_56 rfl rfl ?_
      refine fg_X11_35 dX11_odds_57 rfl hv0 ?_
      obtain ⟨r10, e9, hf⟩ := bf_bind hf
      have hCe9 := ok_X6_goes (Γ := Γ) (ad := ad) (kr_11_4 hv0) e9
      refine cv_X11_197 0 dX11_odds_60 rfl ⟨Nat.le_of_ble_eq_true rfl, Nat.le_of_ble_eq_true rfl⟩ (Nat.le_of_ble_eq_true rfl) (kr_11_4 hv0) hCe9 ?_
      refine bf_if_eq 69 dX11_odds_63 (by decide) (fun c11 => ?_) (fun c11 => ?_)
      · have hf := (if_pos c11).symm.trans hf
        refine bf_iinc 4 (v := _ + (1 : Int32)) (lv2 := [(4, .int _), (0, .ref _), (1, .int _), (2, .int _), (3, .int _)]) dX11_odds_69 rfl (by rfl) (by decide) rfl ?_
        refine bf_goto 32 dX11_odds_72 (by decide) ?_
        refine bf_perm [1, 2, 3, 4, 0] rfl ?_
        exact ih _ _ _ _ hf
      · have hf := (if_neg c11).symm.trans hf
        refine bf_iinc 3 (v := _ + (1 : Int32)) (lv2 := [(3, .int _), (0, .ref _), (1, .int _), (2, .int _), (4, .int _)]) dX11_odds_66 rfl (by rfl) (by decide) rfl ?_
        refine bf_iinc 4 (v := _ + (1 : Int32)) (lv2 := [(4, .int _), (3, .int _), (0, .ref _), (1, .int _), (2, .int _)]) dX11_odds_69 rfl (by rfl) (by decide) rfl ?_
        refine bf_goto 32 dX11_odds_72 (by decide) ?_
        refine bf_perm [2, 3, 4, 1, 0] rfl ?_
        exact ih _ _ _ _ hf
def f_X11_odds (o : Nat) (a0 : Int32) (a1 : Int32) (I : Nat → Nat → Int32) (L : Nat → Nat → Int64) : Option (Int64 × bf_St) :=
  ((f_X3_hasWire ((o + 1) + 1) a0 I L).bind (fun r2 => (if r2.1 = 0 then (some ((-9223372036854775808 : Int64), r2.2.1, r2.2.2)) else (if a1 < 0 then (some ((-9223372036854775808 : Int64), r2.2.1, r2.2.2)) else (if a1 ≤ (1 : Int32) then (f_X11_odds_32 o a0 a1 (fun k3_12 I12 L12 => ((f_X11_lowestTerms (k3_12).toInt64 (10 : Int64) a1 I12 L12).bind (fun r14 => (some (r14.1, r14.2.1, r14.2.2))))) 400 (0 : Int32) (0 : Int32) r2.2.1 r2.2.2) else (some ((-9223372036854775808 : Int64), r2.2.1, r2.2.2)))))))
set_option maxRecDepth 100000 in
set_option maxHeartbeats 4000000 in
theorem ok_X11_odds {Γ : bf_Gm} {ad : Nat → Nat} {o : Nat} {a0 : Int32} {a1 : Int32} {I : Nat → Nat → Int32} {L : Nat → Nat → Int64} (hk : bf_kd o = 11) {r : Int64 × bf_St} (hf : f_X11_odds o a0 a1 I L = some r) : bf_Cn Γ 6 mu_X11_odds 0 0 [.ref (ad o), .int a0, .int a1] (bf_S ad I L) (fun q h => q = some (.long r.1) ∧ h = bf_S ad r.2.1 r.2.2) := by
  refine bf_met rfl (Nat.le_of_ble_eq_true rfl) ?_
  unfold f_X11_odds at hf
  refine bf_aload_n 0 dX11_odds_0 rfl rfl ?_
  refine fg_X11_14 dX11_odds_1 rfl hk ?_
  refine fg_X11_60 dX11_odds_4 rfl (kr_11_0 hk) ?_
  refine bf_iload_n 1 dX11_odds_7 rfl rfl ?_
  obtain ⟨r2, e1, hf⟩ := bf_bind hf
  have hCe1 := ok_X3_hasWire (Γ := Γ) (ad := ad) (kr_7_0 (kr_11_0 hk)) e1
  refine cv_X11_71 0 dX11_odds_8 rfl ⟨Nat.le_of_ble_eq_true rfl, Nat.le_of_ble_eq_true rfl⟩ (Nat.le_of_ble_eq_true rfl) (kr_7_0 (kr_11_0 hk)) hCe1 ?_
  refine bf_if_eq 23 dX11_odds_11 (by decide) (fun c3 => ?_) (fun c3 => ?_)
  · have hf := (if_pos c3).symm.trans hf
    refine bf_ldc2 dX11_odds_23 wk_X11_205 ?_
    obtain rfl := Option.some.inj hf
    exact bf_lret dX11_odds_26 rfl (Nat.le_refl _) (Nat.le_refl _) ⟨rfl, rfl⟩
  · have hf := (if_neg c3).symm.trans hf
    refine bf_iload_n 2 dX11_odds_14 rfl rfl ?_
    refine bf_if_lt 23 dX11_odds_15 (by decide) (fun c4 => ?_) (fun c4 => ?_)
    · have hf := (if_pos c4).symm.trans hf
      refine bf_ldc2 dX11_odds_23 wk_X11_205 ?_
      obtain rfl := Option.some.inj hf
      exact bf_lret dX11_odds_26 rfl (Nat.le_refl _) (Nat.le_refl _) ⟨rfl, rfl⟩
    · have hf := (if_neg c4).symm.trans hf
      refine bf_iload_n 2 dX11_odds_18 rfl rfl ?_
      refine bf_iconst (v := 1) dX11_odds_19 (by decide) ?_
      refine bf_icmp_le 27 dX11_odds_20 (by decide) (fun c5 => ?_) (fun c5 => ?_)
      · have hf := (if_pos c5).symm.trans hf
        refine bf_iconst (v := 0) dX11_odds_27 (by decide) ?_
        refine bf_istore_n (lv2 := [(3, .int _), (0, .ref _), (1, .int _), (2, .int _)]) dX11_odds_28 rfl (by decide) rfl ?_
        refine bf_iconst (v := 0) dX11_odds_29 (by decide) ?_
        refine bf_istore (lv2 := [(4, .int _), (3, .int _), (0, .ref _), (1, .int _), (2, .int _)]) dX11_odds_30 (by decide) rfl ?_
        refine bf_perm [2, 3, 4, 1, 0] rfl ?_
        refine ok_X11_odds_32 hk (fun k3_12 I12 L12 hf => ?_) _ _ _ _ _  hf
        refine bf_iload_n 1 dX11_odds_75 rfl rfl ?_
        refine bf_i2l dX11_odds_76 ?_
        refine bf_ldc2 dX11_odds_77 wk_X11_290 ?_
        refine bf_iload_n 0 dX11_odds_80 rfl rfl ?_
        obtain ⟨r14, e13, hf⟩ := bf_bind hf
        have hCe13 := ok_X11_lowestTerms (Γ := Γ) (ad := ad)  e13
        refine cv_X11_292 1 dX11_odds_81 rfl ⟨Nat.le_of_ble_eq_true rfl, Nat.le_of_ble_eq_true rfl⟩ (Nat.le_of_ble_eq_true rfl) hCe13 ?_
        obtain rfl := Option.some.inj hf
        exact bf_lret dX11_odds_84 rfl (Nat.le_refl _) (Nat.le_refl _) ⟨rfl, rfl⟩
      · have hf := (if_neg c5).symm.trans hf
        refine bf_ldc2 dX11_odds_23 wk_X11_205 ?_
        obtain rfl := Option.some.inj hf
        exact bf_lret dX11_odds_26 rfl (Nat.le_refl _) (Nat.le_refl _) ⟨rfl, rfl⟩
def f_X11_mean (o : Nat) (a0 : Int32) (I : Nat → Nat → Int32) (L : Nat → Nat → Int64) : Option (Int64 × bf_St) :=
  ((f_X3_tokenCount ((o + 1) + 1) I L).bind (fun r2 => (if a0 < 0 then (some ((-9223372036854775808 : Int64), r2.2.1, r2.2.2)) else (if (1 : Int32) < a0 then (some ((-9223372036854775808 : Int64), r2.2.1, r2.2.2)) else (if r2.1 = 0 then (some ((-9223372036854775808 : Int64), r2.2.1, r2.2.2)) else ((f_X3_valuesTogether ((o + 1) + 1) r2.2.1 r2.2.2).bind (fun r7 => ((f_X11_lowestTerms r7.1 (r2.1).toInt64 a0 r7.2.1 r7.2.2).bind (fun r9 => (some (r9.1, r9.2.1, r9.2.2)))))))))))
set_option maxRecDepth 100000 in
set_option maxHeartbeats 4000000 in
theorem ok_X11_mean {Γ : bf_Gm} {ad : Nat → Nat} {o : Nat} {a0 : Int32} {I : Nat → Nat → Int32} {L : Nat → Nat → Int64} (hk : bf_kd o = 11) {r : Int64 × bf_St} (hf : f_X11_mean o a0 I L = some r) : bf_Cn Γ 3 mu_X11_mean 0 0 [.ref (ad o), .int a0] (bf_S ad I L) (fun q h => q = some (.long r.1) ∧ h = bf_S ad r.2.1 r.2.2) := by
  refine bf_met rfl (Nat.le_of_ble_eq_true rfl) ?_
  unfold f_X11_mean at hf
  refine bf_aload_n 0 dX11_mean_0 rfl rfl ?_
  refine fg_X11_14 dX11_mean_1 rfl hk ?_
  refine fg_X11_60 dX11_mean_4 rfl (kr_11_0 hk) ?_
  obtain ⟨r2, e1, hf⟩ := bf_bind hf
  have hCe1 := ok_X3_tokenCount (Γ := Γ) (ad := ad) (kr_7_0 (kr_11_0 hk)) e1
  refine cv_X11_223 0 dX11_mean_7 rfl ⟨Nat.le_of_ble_eq_true rfl, Nat.le_of_ble_eq_true rfl⟩ (Nat.le_of_ble_eq_true rfl) (kr_7_0 (kr_11_0 hk)) hCe1 ?_
  refine bf_istore_n (lv2 := [(2, .int _), (0, .ref _), (1, .int _)]) dX11_mean_10 rfl (by decide) rfl ?_
  refine bf_iload_n 2 dX11_mean_11 rfl rfl ?_
  refine bf_if_lt 24 dX11_mean_12 (by decide) (fun c3 => ?_) (fun c3 => ?_)
  · have hf := (if_pos c3).symm.trans hf
    refine bf_ldc2 dX11_mean_24 wk_X11_205 ?_
    obtain rfl := Option.some.inj hf
    exact bf_lret dX11_mean_27 rfl (Nat.le_refl _) (Nat.le_refl _) ⟨rfl, rfl⟩
  · have hf := (if_neg c3).symm.trans hf
    refine bf_iload_n 2 dX11_mean_15 rfl rfl ?_
    refine bf_iconst (v := 1) dX11_mean_16 (by decide) ?_
    refine bf_icmp_gt 24 dX11_mean_17 (by decide) (fun c4 => ?_) (fun c4 => ?_)
    · have hf := (if_pos c4).symm.trans hf
      refine bf_ldc2 dX11_mean_24 wk_X11_205 ?_
      obtain rfl := Option.some.inj hf
      exact bf_lret dX11_mean_27 rfl (Nat.le_refl _) (Nat.le_refl _) ⟨rfl, rfl⟩
    · have hf := (if_neg c4).symm.trans hf
      refine bf_iload_n 0 dX11_mean_20 rfl rfl ?_
      refine bf_if_ne 28 dX11_mean_21 (by decide) (fun c5 => ?_) (fun c5 => ?_)
      · have hf := (if_neg c5).symm.trans hf
        refine bf_aload_n 1 dX11_mean_28 rfl rfl ?_
        refine fg_X11_14 dX11_mean_29 rfl hk ?_
        refine fg_X11_60 dX11_mean_32 rfl (kr_11_0 hk) ?_
        obtain ⟨r7, e6, hf⟩ := bf_bind hf
        have hCe6 := ok_X3_valuesTogether (Γ := Γ) (ad := ad) (kr_7_0 (kr_11_0 hk)) e6
        refine cv_X11_296 2 dX11_mean_35 rfl ⟨Nat.le_of_ble_eq_true rfl, Nat.le_of_ble_eq_true rfl⟩ (Nat.le_of_ble_eq_true rfl) (kr_7_0 (kr_11_0 hk)) hCe6 ?_
        refine bf_iload_n 0 dX11_mean_38 rfl rfl ?_
        refine bf_i2l dX11_mean_39 ?_
        refine bf_iload_n 2 dX11_mean_40 rfl rfl ?_
        obtain ⟨r9, e8, hf⟩ := bf_bind hf
        have hCe8 := ok_X11_lowestTerms (Γ := Γ) (ad := ad)  e8
        refine cv_X11_292 1 dX11_mean_41 rfl ⟨Nat.le_of_ble_eq_true rfl, Nat.le_of_ble_eq_true rfl⟩ (Nat.le_of_ble_eq_true rfl) hCe8 ?_
        obtain rfl := Option.some.inj hf
        exact bf_lret dX11_mean_44 rfl (Nat.le_refl _) (Nat.le_refl _) ⟨rfl, rfl⟩
      · have hf := (if_pos c5).symm.trans hf
        refine bf_ldc2 dX11_mean_24 wk_X11_205 ?_
        obtain rfl := Option.some.inj hf
        exact bf_lret dX11_mean_27 rfl (Nat.le_refl _) (Nat.le_refl _) ⟨rfl, rfl⟩
def f_X11_plan (o : Nat) (a0 : Int32) (a1 : Int32) (I : Nat → Nat → Int32) (L : Nat → Nat → Int64) : Option (Int32 × bf_St) :=
  (if a0 = (-1 : Int32) then ((f_X5_clear ((o + 1) + 30) I L).bind (fun r24 => (some (r24.1, r24.2.1, r24.2.2)))) else (if a0 = 0 then ((f_X3_hasBox ((o + 1) + 1) a1 I L).bind (fun r4 => (if r4.1 = 0 then (some ((-1 : Int32), r4.2.1, r4.2.2)) else ((f_X5_append ((o + 1) + 30) a0 a1 (0 : Int32) r4.2.1 r4.2.2).bind (fun r7 => (some (r7.1, r7.2.1, r7.2.2))))))) else (if a0 = 1 then ((f_X3_hasWire ((o + 1) + 1) a1 I L).bind (fun r10 => (if r10.1 = 0 then (some ((-1 : Int32), r10.2.1, r10.2.2)) else ((f_X5_append ((o + 1) + 30) a0 a1 (0 : Int32) r10.2.1 r10.2.2).bind (fun r13 => (some (r13.1, r13.2.1, r13.2.2))))))) else (if a0 = 2 then ((f_X3_hasBox ((o + 1) + 1) a1 I L).bind (fun r16 => (if r16.1 = 0 then (some ((-1 : Int32), r16.2.1, r16.2.2)) else ((f_X5_append ((o + 1) + 30) a0 a1 (0 : Int32) r16.2.1 r16.2.2).bind (fun r19 => (some (r19.1, r19.2.1, r19.2.2))))))) else (if a0 = 3 then ((f_X5_append ((o + 1) + 30) a0 (0 : Int32) (0 : Int32) I L).bind (fun r22 => (some (r22.1, r22.2.1, r22.2.2)))) else (some ((-1 : Int32), I, L)))))))
set_option maxRecDepth 100000 in
set_option maxHeartbeats 4000000 in
theorem ok_X11_plan {Γ : bf_Gm} {ad : Nat → Nat} {o : Nat} {a0 : Int32} {a1 : Int32} {I : Nat → Nat → Int32} {L : Nat → Nat → Int64} (hk : bf_kd o = 11) {r : Int32 × bf_St} (hf : f_X11_plan o a0 a1 I L = some r) : bf_Cn Γ 1 mu_X11_plan 0 0 [.ref (ad o), .int a0, .int a1] (bf_S ad I L) (fun q h => q = some (.int r.1) ∧ h = bf_S ad r.2.1 r.2.2) := by
  refine bf_met rfl (Nat.le_of_ble_eq_true rfl) ?_
  unfold f_X11_plan at hf
  refine bf_iload_n 1 dX11_plan_0 rfl rfl ?_
  refine bf_iconst (v := -1) dX11_plan_1 (by decide) ?_
  refine bf_icmp_ne 16 dX11_plan_2 (by decide) (fun c1 => ?_) (fun c1 => ?_)
  · have hf := (if_neg c1).symm.trans hf
    refine bf_iload_n 1 dX11_plan_16 rfl rfl ?_
    rcases Decidable.em (a0 = 0) with c2 | c2
    · have hf := (if_pos c2).symm.trans hf
      refine bf_swIn 48 dX11_plan_17 (by rw [c2]; decide) (by rw [c2]; decide) (by rw [c2]; rfl) (by decide) ?_
      refine bf_aload_n 0 dX11_plan_48 rfl rfl ?_
      refine fg_X11_14 dX11_plan_49 rfl hk ?_
      refine fg_X11_60 dX11_plan_52 rfl (kr_11_0 hk) ?_
      refine bf_iload_n 2 dX11_plan_55 rfl rfl ?_
      obtain ⟨r4, e3, hf⟩ := bf_bind hf
      have hCe3 := ok_X3_hasBox (Γ := Γ) (ad := ad) (kr_7_0 (kr_11_0 hk)) e3
      refine cv_X11_135 0 dX11_plan_56 rfl ⟨Nat.le_of_ble_eq_true rfl, Nat.le_of_ble_eq_true rfl⟩ (Nat.le_of_ble_eq_true rfl) (kr_7_0 (kr_11_0 hk)) hCe3 ?_
      refine bf_if_eq 78 dX11_plan_59 (by decide) (fun c5 => ?_) (fun c5 => ?_)
      · have hf := (if_pos c5).symm.trans hf
        refine bf_iconst (v := -1) dX11_plan_78 (by decide) ?_
        obtain rfl := Option.some.inj hf
        exact bf_iret dX11_plan_79 rfl (Nat.le_refl _) (Nat.le_refl _) ⟨rfl, rfl⟩
      · have hf := (if_neg c5).symm.trans hf
        refine bf_aload_n 0 dX11_plan_62 rfl rfl ?_
        refine fg_X11_14 dX11_plan_63 rfl hk ?_
        refine fg_X11_308 dX11_plan_66 rfl (kr_11_0 hk) ?_
        refine bf_iload_n 1 dX11_plan_69 rfl rfl ?_
        refine bf_iload_n 2 dX11_plan_70 rfl rfl ?_
        refine bf_iconst (v := 0) dX11_plan_71 (by decide) ?_
        obtain ⟨r7, e6, hf⟩ := bf_bind hf
        have hCe6 := ok_X5_append (Γ := Γ) (ad := ad) (kr_7_2 (kr_11_0 hk)) e6
        refine cv_X11_259 0 dX11_plan_72 rfl ⟨Nat.le_of_ble_eq_true rfl, Nat.le_of_ble_eq_true rfl⟩ (Nat.le_of_ble_eq_true rfl) (kr_7_2 (kr_11_0 hk)) hCe6 ?_
        refine bf_goto 79 dX11_plan_75 (by decide) ?_
        obtain rfl := Option.some.inj hf
        exact bf_iret dX11_plan_79 rfl (Nat.le_refl _) (Nat.le_refl _) ⟨rfl, rfl⟩
    · have hf := (if_neg c2).symm.trans hf
      rcases Decidable.em (a0 = 1) with c8 | c8
      · have hf := (if_pos c8).symm.trans hf
        refine bf_swIn 80 dX11_plan_17 (by rw [c8]; decide) (by rw [c8]; decide) (by rw [c8]; rfl) (by decide) ?_
        refine bf_aload_n 0 dX11_plan_80 rfl rfl ?_
        refine fg_X11_14 dX11_plan_81 rfl hk ?_
        refine fg_X11_60 dX11_plan_84 rfl (kr_11_0 hk) ?_
        refine bf_iload_n 2 dX11_plan_87 rfl rfl ?_
        obtain ⟨r10, e9, hf⟩ := bf_bind hf
        have hCe9 := ok_X3_hasWire (Γ := Γ) (ad := ad) (kr_7_0 (kr_11_0 hk)) e9
        refine cv_X11_71 0 dX11_plan_88 rfl ⟨Nat.le_of_ble_eq_true rfl, Nat.le_of_ble_eq_true rfl⟩ (Nat.le_of_ble_eq_true rfl) (kr_7_0 (kr_11_0 hk)) hCe9 ?_
        refine bf_if_eq 110 dX11_plan_91 (by decide) (fun c11 => ?_) (fun c11 => ?_)
        · have hf := (if_pos c11).symm.trans hf
          refine bf_iconst (v := -1) dX11_plan_110 (by decide) ?_
          obtain rfl := Option.some.inj hf
          exact bf_iret dX11_plan_111 rfl (Nat.le_refl _) (Nat.le_refl _) ⟨rfl, rfl⟩
        · have hf := (if_neg c11).symm.trans hf
          refine bf_aload_n 0 dX11_plan_94 rfl rfl ?_
          refine fg_X11_14 dX11_plan_95 rfl hk ?_
          refine fg_X11_308 dX11_plan_98 rfl (kr_11_0 hk) ?_
          refine bf_iload_n 1 dX11_plan_101 rfl rfl ?_
          refine bf_iload_n 2 dX11_plan_102 rfl rfl ?_
          refine bf_iconst (v := 0) dX11_plan_103 (by decide) ?_
          obtain ⟨r13, e12, hf⟩ := bf_bind hf
          have hCe12 := ok_X5_append (Γ := Γ) (ad := ad) (kr_7_2 (kr_11_0 hk)) e12
          refine cv_X11_259 0 dX11_plan_104 rfl ⟨Nat.le_of_ble_eq_true rfl, Nat.le_of_ble_eq_true rfl⟩ (Nat.le_of_ble_eq_true rfl) (kr_7_2 (kr_11_0 hk)) hCe12 ?_
          refine bf_goto 111 dX11_plan_107 (by decide) ?_
          obtain rfl := Option.some.inj hf
          exact bf_iret dX11_plan_111 rfl (Nat.le_refl _) (Nat.le_refl _) ⟨rfl, rfl⟩
      · have hf := (if_neg c8).symm.trans hf
        rcases Decidable.em (a0 = 2) with c14 | c14
        · have hf := (if_pos c14).symm.trans hf
          refine bf_swIn 48 dX11_plan_17 (by rw [c14]; decide) (by rw [c14]; decide) (by rw [c14]; rfl) (by decide) ?_
          refine bf_aload_n 0 dX11_plan_48 rfl rfl ?_
          refine fg_X11_14 dX11_plan_49 rfl hk ?_
          refine fg_X11_60 dX11_plan_52 rfl (kr_11_0 hk) ?_
          refine bf_iload_n 2 dX11_plan_55 rfl rfl ?_
          obtain ⟨r16, e15, hf⟩ := bf_bind hf
          have hCe15 := ok_X3_hasBox (Γ := Γ) (ad := ad) (kr_7_0 (kr_11_0 hk)) e15
          refine cv_X11_135 0 dX11_plan_56 rfl ⟨Nat.le_of_ble_eq_true rfl, Nat.le_of_ble_eq_true rfl⟩ (Nat.le_of_ble_eq_true rfl) (kr_7_0 (kr_11_0 hk)) hCe15 ?_
          refine bf_if_eq 78 dX11_plan_59 (by decide) (fun c17 => ?_) (fun c17 => ?_)
          · have hf := (if_pos c17).symm.trans hf
            refine bf_iconst (v := -1) dX11_plan_78 (by decide) ?_
            obtain rfl := Option.some.inj hf
            exact bf_iret dX11_plan_79 rfl (Nat.le_refl _) (Nat.le_refl _) ⟨rfl, rfl⟩
          · have hf := (if_neg c17).symm.trans hf
            refine bf_aload_n 0 dX11_plan_62 rfl rfl ?_
            refine fg_X11_14 dX11_plan_63 rfl hk ?_
            refine fg_X11_308 dX11_plan_66 rfl (kr_11_0 hk) ?_
            refine bf_iload_n 1 dX11_plan_69 rfl rfl ?_
            refine bf_iload_n 2 dX11_plan_70 rfl rfl ?_
            refine bf_iconst (v := 0) dX11_plan_71 (by decide) ?_
            obtain ⟨r19, e18, hf⟩ := bf_bind hf
            have hCe18 := ok_X5_append (Γ := Γ) (ad := ad) (kr_7_2 (kr_11_0 hk)) e18
            refine cv_X11_259 0 dX11_plan_72 rfl ⟨Nat.le_of_ble_eq_true rfl, Nat.le_of_ble_eq_true rfl⟩ (Nat.le_of_ble_eq_true rfl) (kr_7_2 (kr_11_0 hk)) hCe18 ?_
            refine bf_goto 79 dX11_plan_75 (by decide) ?_
            obtain rfl := Option.some.inj hf
            exact bf_iret dX11_plan_79 rfl (Nat.le_refl _) (Nat.le_refl _) ⟨rfl, rfl⟩
        · have hf := (if_neg c14).symm.trans hf
          rcases Decidable.em (a0 = 3) with c20 | c20
          · have hf := (if_pos c20).symm.trans hf
            refine bf_swIn 112 dX11_plan_17 (by rw [c20]; decide) (by rw [c20]; decide) (by rw [c20]; rfl) (by decide) ?_
            refine bf_aload_n 0 dX11_plan_112 rfl rfl ?_
            refine fg_X11_14 dX11_plan_113 rfl hk ?_
            refine fg_X11_308 dX11_plan_116 rfl (kr_11_0 hk) ?_
            refine bf_iload_n 1 dX11_plan_119 rfl rfl ?_
            refine bf_iconst (v := 0) dX11_plan_120 (by decide) ?_
            refine bf_iconst (v := 0) dX11_plan_121 (by decide) ?_
            obtain ⟨r22, e21, hf⟩ := bf_bind hf
            have hCe21 := ok_X5_append (Γ := Γ) (ad := ad) (kr_7_2 (kr_11_0 hk)) e21
            refine cv_X11_259 0 dX11_plan_122 rfl ⟨Nat.le_of_ble_eq_true rfl, Nat.le_of_ble_eq_true rfl⟩ (Nat.le_of_ble_eq_true rfl) (kr_7_2 (kr_11_0 hk)) hCe21 ?_
            obtain rfl := Option.some.inj hf
            exact bf_iret dX11_plan_125 rfl (Nat.le_refl _) (Nat.le_refl _) ⟨rfl, rfl⟩
          · have hf := (if_neg c20).symm.trans hf
            have c2 : _ ≠ (0 : Int) := bf_nne c2
            have c8 : _ ≠ (1 : Int) := bf_nne c8
            have c14 : _ ≠ (2 : Int) := bf_nne c14
            have c20 : _ ≠ (3 : Int) := bf_nne c20
            refine bf_swOut 126 dX11_plan_17 (by omega) (by decide) ?_
            refine bf_iconst (v := -1) dX11_plan_126 (by decide) ?_
            obtain rfl := Option.some.inj hf
            exact bf_iret dX11_plan_127 rfl (Nat.le_refl _) (Nat.le_refl _) ⟨rfl, rfl⟩
  · have hf := (if_pos c1).symm.trans hf
    refine bf_aload_n 0 dX11_plan_5 rfl rfl ?_
    refine fg_X11_14 dX11_plan_6 rfl hk ?_
    refine fg_X11_308 dX11_plan_9 rfl (kr_11_0 hk) ?_
    obtain ⟨r24, e23, hf⟩ := bf_bind hf
    have hCe23 := ok_X5_clear (Γ := Γ) (ad := ad) (kr_7_2 (kr_11_0 hk)) e23
    refine cv_X11_255 0 dX11_plan_12 rfl ⟨Nat.le_of_ble_eq_true rfl, Nat.le_of_ble_eq_true rfl⟩ (Nat.le_of_ble_eq_true rfl) (kr_7_2 (kr_11_0 hk)) hCe23 ?_
    obtain rfl := Option.some.inj hf
    exact bf_iret dX11_plan_15 rfl (Nat.le_refl _) (Nat.le_refl _) ⟨rfl, rfl⟩
def f_X11_playBoxRow (o : Nat) (a0 : Int32) (a1 : Int32) (I : Nat → Nat → Int32) (L : Nat → Nat → Int64) : Option (bf_St) :=
  (if a0 = (2 : Int32) then (if bf_ok a1 6 then (some ((bf_u I (((o + 77) + 1) + 1 + a1.toNatClampNeg) 1 (0 : Int32)), L)) else none) else ((f_X6_canFire (o + 102) (o + 77) a1 I L).bind (fun r3 => (if r3.1 = 0 then (some (r3.2.1, r3.2.2)) else ((f_X3_fireBox (o + 77) a1 r3.2.1 r3.2.2).bind (fun r6 => (some (r6.2.1, r6.2.2))))))))
set_option maxRecDepth 100000 in
set_option maxHeartbeats 4000000 in
theorem ok_X11_playBoxRow {Γ : bf_Gm} {ad : Nat → Nat} {o : Nat} {a0 : Int32} {a1 : Int32} {I : Nat → Nat → Int32} {L : Nat → Nat → Int64} (hk : bf_kd o = 11) {r : bf_St} (hf : f_X11_playBoxRow o a0 a1 I L = some r) : bf_Cn Γ 4 mu_X11_playBoxRow 0 0 [.ref (ad o), .int a0, .int a1] (bf_S ad I L) (fun q h => q = none ∧ h = bf_S ad r.1 r.2) := by
  refine bf_met rfl (Nat.le_of_ble_eq_true rfl) ?_
  unfold f_X11_playBoxRow at hf
  refine bf_iload_n 1 dX11_playBoxRow_0 rfl rfl ?_
  refine bf_iconst (v := 2) dX11_playBoxRow_1 (by decide) ?_
  refine bf_icmp_ne 21 dX11_playBoxRow_2 (by decide) (fun c1 => ?_) (fun c1 => ?_)
  · have hf := (if_neg c1).symm.trans hf
    refine bf_aload_n 0 dX11_playBoxRow_21 rfl rfl ?_
    refine fg_X11_35 dX11_playBoxRow_22 rfl hk ?_
    refine bf_aload_n 0 dX11_playBoxRow_25 rfl rfl ?_
    refine fg_X11_28 dX11_playBoxRow_26 rfl hk ?_
    refine bf_iload_n 2 dX11_playBoxRow_29 rfl rfl ?_
    obtain ⟨r3, e2, hf⟩ := bf_bind hf
    have hCe2 := ok_X6_canFire (Γ := Γ) (ad := ad) (kr_11_4 hk) (kr_11_3 hk) e2
    refine cv_X11_157 3 dX11_playBoxRow_30 rfl ⟨Nat.le_of_ble_eq_true rfl, Nat.le_of_ble_eq_true rfl⟩ (Nat.le_of_ble_eq_true rfl) (kr_11_4 hk) hCe2 ?_
    refine bf_if_eq 45 dX11_playBoxRow_33 (by decide) (fun c4 => ?_) (fun c4 => ?_)
    · have hf := (if_pos c4).symm.trans hf
      obtain rfl := Option.some.inj hf
      exact bf_vret dX11_playBoxRow_45 rfl (Nat.le_refl _) (Nat.le_refl _) ⟨rfl, rfl⟩
    · have hf := (if_neg c4).symm.trans hf
      refine bf_aload_n 0 dX11_playBoxRow_36 rfl rfl ?_
      refine fg_X11_28 dX11_playBoxRow_37 rfl hk ?_
      refine bf_iload_n 2 dX11_playBoxRow_40 rfl rfl ?_
      obtain ⟨r6, e5, hf⟩ := bf_bind hf
      have hCe5 := ok_X3_fireBox (Γ := Γ) (ad := ad) (kr_11_3 hk) e5
      refine cv_X11_213 3 dX11_playBoxRow_41 rfl ⟨Nat.le_of_ble_eq_true rfl, Nat.le_of_ble_eq_true rfl⟩ (Nat.le_of_ble_eq_true rfl) (kr_11_3 hk) hCe5 ?_
      refine bf_pop dX11_playBoxRow_44 rfl ?_
      obtain rfl := Option.some.inj hf
      exact bf_vret dX11_playBoxRow_45 rfl (Nat.le_refl _) (Nat.le_refl _) ⟨rfl, rfl⟩
  · have hf := (if_pos c1).symm.trans hf
    refine bf_aload_n 0 dX11_playBoxRow_5 rfl rfl ?_
    refine fg_X11_28 dX11_playBoxRow_6 rfl hk ?_
    refine fg_X11_138 dX11_playBoxRow_9 rfl (kr_11_3 hk) ?_
    refine bf_iload_n 2 dX11_playBoxRow_12 rfl rfl ?_
    rcases Decidable.em (bf_ok a1 6) with c7 | c7
    · have hf := (if_pos c7).symm.trans hf
      refine al_16 dX11_playBoxRow_13 (kr_3_0 (kr_11_3 hk)) (by rw [(la_16 (kr_3_0 (kr_11_3 hk)))]; exact c7) ?_
      refine bf_iconst (v := 0) dX11_playBoxRow_14 (by decide) ?_
      refine fp_X11_147 dX11_playBoxRow_15 rfl (ka_16 (kr_3_0 (kr_11_3 hk)) ((by rw [(la_16 (kr_3_0 (kr_11_3 hk)))]; exact c7) : bf_ok _ _).2) ?_
      refine bf_goto 45 dX11_playBoxRow_18 (by decide) ?_
      obtain rfl := Option.some.inj hf
      exact bf_vret dX11_playBoxRow_45 rfl (Nat.le_refl _) (Nat.le_refl _) ⟨rfl, rfl⟩
    · exact absurd ((if_neg c7).symm.trans hf) (by simp)
def f_X11_playRow (o : Nat) (a0 : Int32) (a1 : Int32) (I : Nat → Nat → Int32) (L : Nat → Nat → Int64) : Option (bf_St) :=
  (if a0 = (3 : Int32) then ((f_X6_look (o + 102) (o + 77) I L).bind (fun r15 => ((f_X11_playPeriods o (o + 77) (1 : Int32) r15.1 r15.2).bind (fun r17 => (some (r17.2.1, r17.2.2)))))) else (if a0 = (1 : Int32) then ((f_X3_hasWire (o + 77) a1 I L).bind (fun r9 => (if r9.1 = 0 then (some (r9.2.1, r9.2.2)) else (if bf_ok a1 8 then ((f_X10_clear (((o + 77) + 8) + 1 + 2 * a1.toNatClampNeg) r9.2.1 r9.2.2).bind (fun r13 => (some (r13.1, r13.2)))) else none)))) else ((f_X3_hasBox (o + 77) a1 I L).bind (fun r4 => (if r4.1 = 0 then (some (r4.2.1, r4.2.2)) else ((f_X11_playBoxRow o a0 a1 r4.2.1 r4.2.2).bind (fun r7 => (some (r7.1, r7.2)))))))))
set_option maxRecDepth 100000 in
set_option maxHeartbeats 4000000 in
theorem ok_X11_playRow {Γ : bf_Gm} {ad : Nat → Nat} {o : Nat} {a0 : Int32} {a1 : Int32} {I : Nat → Nat → Int32} {L : Nat → Nat → Int64} (hk : bf_kd o = 11) {r : bf_St} (hf : f_X11_playRow o a0 a1 I L = some r) : bf_Cn Γ 6 mu_X11_playRow 0 0 [.ref (ad o), .int a0, .int a1] (bf_S ad I L) (fun q h => q = none ∧ h = bf_S ad r.1 r.2) := by
  refine bf_met rfl (Nat.le_of_ble_eq_true rfl) ?_
  unfold f_X11_playRow at hf
  refine bf_iload_n 1 dX11_playRow_0 rfl rfl ?_
  refine bf_iconst (v := 3) dX11_playRow_1 (by decide) ?_
  refine bf_icmp_ne 29 dX11_playRow_2 (by decide) (fun c1 => ?_) (fun c1 => ?_)
  · have hf := (if_neg c1).symm.trans hf
    refine bf_iload_n 1 dX11_playRow_29 rfl rfl ?_
    refine bf_iconst (v := 1) dX11_playRow_30 (by decide) ?_
    refine bf_icmp_ne 60 dX11_playRow_31 (by decide) (fun c2 => ?_) (fun c2 => ?_)
    · have hf := (if_neg c2).symm.trans hf
      refine bf_aload_n 0 dX11_playRow_60 rfl rfl ?_
      refine fg_X11_28 dX11_playRow_61 rfl hk ?_
      refine bf_iload_n 2 dX11_playRow_64 rfl rfl ?_
      obtain ⟨r4, e3, hf⟩ := bf_bind hf
      have hCe3 := ok_X3_hasBox (Γ := Γ) (ad := ad) (kr_11_3 hk) e3
      refine cv_X11_135 0 dX11_playRow_65 rfl ⟨Nat.le_of_ble_eq_true rfl, Nat.le_of_ble_eq_true rfl⟩ (Nat.le_of_ble_eq_true rfl) (kr_11_3 hk) hCe3 ?_
      refine bf_if_eq 77 dX11_playRow_68 (by decide) (fun c5 => ?_) (fun c5 => ?_)
      · have hf := (if_pos c5).symm.trans hf
        obtain rfl := Option.some.inj hf
        exact bf_vret dX11_playRow_77 rfl (Nat.le_refl _) (Nat.le_refl _) ⟨rfl, rfl⟩
      · have hf := (if_neg c5).symm.trans hf
        refine bf_aload_n 0 dX11_playRow_71 rfl rfl ?_
        refine bf_iload_n 1 dX11_playRow_72 rfl rfl ?_
        refine bf_iload_n 2 dX11_playRow_73 rfl rfl ?_
        obtain ⟨r7, e6, hf⟩ := bf_bind hf
        have hCe6 := ok_X11_playBoxRow (Γ := Γ) (ad := ad) hk e6
        refine cv_X11_315 4 dX11_playRow_74 rfl ⟨Nat.le_of_ble_eq_true rfl, Nat.le_of_ble_eq_true rfl⟩ (Nat.le_of_ble_eq_true rfl) hk hCe6 ?_
        obtain rfl := Option.some.inj hf
        exact bf_vret dX11_playRow_77 rfl (Nat.le_refl _) (Nat.le_refl _) ⟨rfl, rfl⟩
    · have hf := (if_pos c2).symm.trans hf
      refine bf_aload_n 0 dX11_playRow_34 rfl rfl ?_
      refine fg_X11_28 dX11_playRow_35 rfl hk ?_
      refine bf_iload_n 2 dX11_playRow_38 rfl rfl ?_
      obtain ⟨r9, e8, hf⟩ := bf_bind hf
      have hCe8 := ok_X3_hasWire (Γ := Γ) (ad := ad) (kr_11_3 hk) e8
      refine cv_X11_71 0 dX11_playRow_39 rfl ⟨Nat.le_of_ble_eq_true rfl, Nat.le_of_ble_eq_true rfl⟩ (Nat.le_of_ble_eq_true rfl) (kr_11_3 hk) hCe8 ?_
      refine bf_if_eq 77 dX11_playRow_42 (by decide) (fun c10 => ?_) (fun c10 => ?_)
      · have hf := (if_pos c10).symm.trans hf
        obtain rfl := Option.some.inj hf
        exact bf_vret dX11_playRow_77 rfl (Nat.le_refl _) (Nat.le_refl _) ⟨rfl, rfl⟩
      · have hf := (if_neg c10).symm.trans hf
        refine bf_aload_n 0 dX11_playRow_45 rfl rfl ?_
        refine fg_X11_28 dX11_playRow_46 rfl hk ?_
        refine fg_X11_75 dX11_playRow_49 rfl (kr_11_3 hk) ?_
        refine bf_iload_n 2 dX11_playRow_52 rfl rfl ?_
        rcases Decidable.em (bf_ok a1 8) with c11 | c11
        · have hf := (if_pos c11).symm.trans hf
          refine al_19 dX11_playRow_53 (kr_3_1 (kr_11_3 hk)) (by rw [(la_19 (kr_3_1 (kr_11_3 hk)))]; exact c11) ?_
          obtain ⟨r13, e12, hf⟩ := bf_bind hf
          have hCe12 := ok_X10_clear (Γ := Γ) (ad := ad) (ka_19 (kr_3_1 (kr_11_3 hk)) ((by rw [(la_19 (kr_3_1 (kr_11_3 hk)))]; exact c11) : bf_ok _ _).2) e12
          refine cv_X11_89 0 dX11_playRow_54 rfl ⟨Nat.le_of_ble_eq_true rfl, Nat.le_of_ble_eq_true rfl⟩ (Nat.le_of_ble_eq_true rfl) (ka_19 (kr_3_1 (kr_11_3 hk)) ((by rw [(la_19 (kr_3_1 (kr_11_3 hk)))]; exact c11) : bf_ok _ _).2) hCe12 ?_
          refine bf_goto 77 dX11_playRow_57 (by decide) ?_
          obtain rfl := Option.some.inj hf
          exact bf_vret dX11_playRow_77 rfl (Nat.le_refl _) (Nat.le_refl _) ⟨rfl, rfl⟩
        · exact absurd ((if_neg c11).symm.trans hf) (by simp)
  · have hf := (if_pos c1).symm.trans hf
    refine bf_aload_n 0 dX11_playRow_5 rfl rfl ?_
    refine fg_X11_35 dX11_playRow_6 rfl hk ?_
    refine bf_aload_n 0 dX11_playRow_9 rfl rfl ?_
    refine fg_X11_28 dX11_playRow_10 rfl hk ?_
    obtain ⟨r15, e14, hf⟩ := bf_bind hf
    have hCe14 := ok_X6_look (Γ := Γ) (ad := ad) (kr_11_4 hk) (kr_11_3 hk) e14
    refine cv_X11_170 5 dX11_playRow_13 rfl ⟨Nat.le_of_ble_eq_true rfl, Nat.le_of_ble_eq_true rfl⟩ (Nat.le_of_ble_eq_true rfl) (kr_11_4 hk) hCe14 ?_
    refine bf_aload_n 0 dX11_playRow_16 rfl rfl ?_
    refine bf_aload_n 0 dX11_playRow_17 rfl rfl ?_
    refine fg_X11_28 dX11_playRow_18 rfl hk ?_
    refine bf_iconst (v := 1) dX11_playRow_21 (by decide) ?_
    obtain ⟨r17, e16, hf⟩ := bf_bind hf
    have hCe16 := ok_X11_playPeriods (Γ := Γ) (ad := ad) hk (kr_11_3 hk) e16
    refine cv_X11_216 5 dX11_playRow_22 rfl ⟨Nat.le_of_ble_eq_true rfl, Nat.le_of_ble_eq_true rfl⟩ (Nat.le_of_ble_eq_true rfl) hk hCe16 ?_
    refine bf_pop dX11_playRow_25 rfl ?_
    refine bf_goto 77 dX11_playRow_26 (by decide) ?_
    obtain rfl := Option.some.inj hf
    exact bf_vret dX11_playRow_77 rfl (Nat.le_refl _) (Nat.le_refl _) ⟨rfl, rfl⟩
def f_X11_ends_29 (v0 : Nat) (v1 : Int32) (K : (Nat → Nat → Int32) → (Nat → Nat → Int64) → Option (Int32 × bf_St)) : Nat → Int32 → (Nat → Nat → Int32) → (Nat → Nat → Int64) → Option (Int32 × bf_St)
  | 0, _, _, _ => none
  | n + 1, v2, I, L =>
    (if (I ((v0 + 1) + 30) 0) ≤ v2 then (K I L) else (if bf_ok v2 (bf_le (((v0 + 1) + 30) + 1)) then (if bf_ok v2 (bf_le (((v0 + 1) + 30) + 2)) then ((f_X11_playRow v0 (I (((v0 + 1) + 30) + 1) v2.toNatClampNeg) (I (((v0 + 1) + 30) + 2) v2.toNatClampNeg) I L).bind (fun r9 => (f_X11_ends_29 v0 v1 K n (v2 + (1 : Int32)) r9.1 r9.2))) else none) else none))
set_option maxRecDepth 100000 in
set_option maxHeartbeats 4000000 in
theorem ok_X11_ends_29 {Γ : bf_Gm} {ad : Nat → Nat} {v0 : Nat} {v1 : Int32} (hv0 : bf_kd v0 = 11) {r : Int32 × bf_St} {K : (Nat → Nat → Int32) → (Nat → Nat → Int64) → Option (Int32 × bf_St)} (hK : ∀ (I : Nat → Nat → Int32) (L : Nat → Nat → Int64), K  I L = some r → bf_Go Γ (bf_rm 7 0 0) mu_X11_ends bf_E0 (bf_Z Γ (fun q h => q = some (.int r.1) ∧ h = bf_S ad r.2.1 r.2.2) 0 0) (0, 0) 77 [(0, .ref (ad v0)), (1, .int v1)] [] (bf_S ad I L)) : ∀ (n : Nat) (v2 : Int32) (I : Nat → Nat → Int32) (L : Nat → Nat → Int64), f_X11_ends_29 v0 v1 K n v2 I L = some r → bf_Go Γ (bf_rm 7 0 0) mu_X11_ends bf_E0 (bf_Z Γ (fun q h => q = some (.int r.1) ∧ h = bf_S ad r.2.1 r.2.2) 0 0) (0, 0) 29 [(0, .ref (ad v0)), (1, .int v1), (2, .int v2)] [] (bf_S ad I L) := by
  intro n
  induction n with
  | zero => intro v2 I L hf; exact absurd (show none = some r from hf) (by simp)
  | succ n ih =>
    intro v2 I L hf
    rw [f_X11_ends_29] at hf
    refine bf_iload_n 2 dX11_ends_29 rfl rfl ?_
    refine bf_aload_n 0 dX11_ends_30 rfl rfl ?_
    refine fg_X11_14 dX11_ends_31 rfl hv0 ?_
    refine fg_X11_308 dX11_ends_34 rfl (kr_11_0 hv0) ?_
    refine fg_X11_272 dX11_ends_37 rfl (kr_7_2 (kr_11_0 hv0)) ?_
    refine bf_icmp_ge 77 dX11_ends_40 (by decide) (fun c5 => ?_) (fun c5 => ?_)
    · have hf := (if_pos c5).symm.trans hf
      refine bf_perm [0, 1] rfl ?_
      exact hK _ _ hf
    · have hf := (if_neg c5).symm.trans hf
      refine bf_aload_n 0 dX11_ends_43 rfl rfl ?_
      refine bf_aload_n 0 dX11_ends_44 rfl rfl ?_
      refine fg_X11_14 dX11_ends_45 rfl hv0 ?_
      refine fg_X11_308 dX11_ends_48 rfl (kr_11_0 hv0) ?_
      refine fg_X11_281 dX11_ends_51 rfl (kr_7_2 (kr_11_0 hv0)) ?_
      refine bf_iload_n 2 dX11_ends_54 rfl rfl ?_
      rcases Decidable.em (bf_ok v2 (bf_le (((v0 + 1) + 30) + 1))) with c6 | c6
      · have hf := (if_pos c6).symm.trans hf
        refine bf_iald dX11_ends_55 (kr_5_1 (kr_7_2 (kr_11_0 hv0))) c6 ?_
        refine bf_aload_n 0 dX11_ends_56 rfl rfl ?_
        refine fg_X11_14 dX11_ends_57 rfl hv0 ?_
        refine fg_X11_308 dX11_ends_60 rfl (kr_11_0 hv0) ?_
        refine fg_X11_273 dX11_ends_63 rfl (kr_7_2 (kr_11_0 hv0)) ?_
        refine bf_iload_n 2 dX11_ends_66 rfl rfl ?_
        rcases Decidable.em (bf_ok v2 (bf_le (((v0 + 1) + 30) + 2))) with c7 | c7
        · have hf := (if_pos c7).symm.trans hf
          refine bf_iald dX11_ends_67 (kr_5_2 (kr_7_2 (kr_11_0 hv0))) c7 ?_
          obtain ⟨r9, e8, hf⟩ := bf_bind hf
          have hCe8 := ok_X11_playRow (Γ := Γ) (ad := ad) hv0 e8
          refine cv_X11_311 6 dX11_ends_68 rfl ⟨Nat.le_of_ble_eq_true rfl, Nat.le_of_ble_eq_true rfl⟩ (Nat.le_of_ble_eq_true rfl) hv0 hCe8 ?_
          refine bf_iinc 2 (v := _ + (1 : Int32)) (lv2 := [(2, .int _), (0, .ref _), (1, .int _)]) dX11_ends_71 rfl (by rfl) (by decide) rfl ?_
          refine bf_goto 29 dX11_ends_74 (by decide) ?_
          refine bf_perm [1, 2, 0] rfl ?_
          exact ih _ _ _ hf
        · exact absurd ((if_neg c7).symm.trans hf) (by simp)
      · exact absurd ((if_neg c6).symm.trans hf) (by simp)
def f_X11_ends_p77 (v0 : Nat) (v1 : Int32) (I : Nat → Nat → Int32) (L : Nat → Nat → Int64) : Option (Int32 × bf_St) :=
  (if v1 = 0 then ((f_X3_tokenCount (v0 + 77) I L).bind (fun r15 => (some (r15.1, r15.2.1, r15.2.2)))) else ((f_X3_valuesTogether (v0 + 77) I L).bind (fun r13 => (some ((r13.1).toInt32, r13.2.1, r13.2.2)))))
set_option maxRecDepth 100000 in
set_option maxHeartbeats 4000000 in
theorem ok_X11_ends_p77 {Γ : bf_Gm} {ad : Nat → Nat} {v0 : Nat} {v1 : Int32} {I : Nat → Nat → Int32} {L : Nat → Nat → Int64} (hv0 : bf_kd v0 = 11) {r : Int32 × bf_St} (hf : f_X11_ends_p77 v0 v1 I L = some r) : bf_Go Γ (bf_rm 7 0 0) mu_X11_ends bf_E0 (bf_Z Γ (fun q h => q = some (.int r.1) ∧ h = bf_S ad r.2.1 r.2.2) 0 0) (0, 0) 77 [(0, .ref (ad v0)), (1, .int v1)] [] (bf_S ad I L) := by
  unfold f_X11_ends_p77 at hf
  refine bf_iload_n 1 dX11_ends_77 rfl rfl ?_
  refine bf_if_ne 91 dX11_ends_78 (by decide) (fun c11 => ?_) (fun c11 => ?_)
  · have hf := (if_neg c11).symm.trans hf
    refine bf_aload_n 0 dX11_ends_91 rfl rfl ?_
    refine fg_X11_28 dX11_ends_92 rfl hv0 ?_
    obtain ⟨r13, e12, hf⟩ := bf_bind hf
    have hCe12 := ok_X3_valuesTogether (Γ := Γ) (ad := ad) (kr_11_3 hv0) e12
    refine cv_X11_296 2 dX11_ends_95 rfl ⟨Nat.le_of_ble_eq_true rfl, Nat.le_of_ble_eq_true rfl⟩ (Nat.le_of_ble_eq_true rfl) (kr_11_3 hv0) hCe12 ?_
    refine bf_l2i dX11_ends_98 ?_
    obtain rfl := Option.some.inj hf
    exact bf_iret dX11_ends_99 rfl (Nat.le_refl _) (Nat.le_refl _) ⟨rfl, rfl⟩
  · have hf := (if_pos c11).symm.trans hf
    refine bf_aload_n 0 dX11_ends_81 rfl rfl ?_
    refine fg_X11_28 dX11_ends_82 rfl hv0 ?_
    obtain ⟨r15, e14, hf⟩ := bf_bind hf
    have hCe14 := ok_X3_tokenCount (Γ := Γ) (ad := ad) (kr_11_3 hv0) e14
    refine cv_X11_223 0 dX11_ends_85 rfl ⟨Nat.le_of_ble_eq_true rfl, Nat.le_of_ble_eq_true rfl⟩ (Nat.le_of_ble_eq_true rfl) (kr_11_3 hv0) hCe14 ?_
    refine bf_goto 99 dX11_ends_88 (by decide) ?_
    obtain rfl := Option.some.inj hf
    exact bf_iret dX11_ends_99 rfl (Nat.le_refl _) (Nat.le_refl _) ⟨rfl, rfl⟩
def f_X11_ends (o : Nat) (a0 : Int32) (I : Nat → Nat → Int32) (L : Nat → Nat → Int64) : Option (Int32 × bf_St) :=
  (if a0 < 0 then (some ((-10001 : Int32), I, L)) else (if a0 ≤ (1 : Int32) then ((f_X3_copyFrom (o + 77) ((o + 1) + 1) I L).bind (fun r4 => (f_X11_ends_29 o a0 (fun I10 L10 => (f_X11_ends_p77 o a0 I10 L10)) 400 (0 : Int32) r4.1 r4.2))) else (some ((-10001 : Int32), I, L))))
set_option maxRecDepth 100000 in
set_option maxHeartbeats 4000000 in
theorem ok_X11_ends {Γ : bf_Gm} {ad : Nat → Nat} {o : Nat} {a0 : Int32} {I : Nat → Nat → Int32} {L : Nat → Nat → Int64} (hk : bf_kd o = 11) {r : Int32 × bf_St} (hf : f_X11_ends o a0 I L = some r) : bf_Cn Γ 7 mu_X11_ends 0 0 [.ref (ad o), .int a0] (bf_S ad I L) (fun q h => q = some (.int r.1) ∧ h = bf_S ad r.2.1 r.2.2) := by
  refine bf_met rfl (Nat.le_of_ble_eq_true rfl) ?_
  unfold f_X11_ends at hf
  refine bf_iload_n 1 dX11_ends_0 rfl rfl ?_
  refine bf_if_lt 9 dX11_ends_1 (by decide) (fun c1 => ?_) (fun c1 => ?_)
  · have hf := (if_pos c1).symm.trans hf
    refine bf_sipush (v := -10001) dX11_ends_9 (by decide) ?_
    obtain rfl := Option.some.inj hf
    exact bf_iret dX11_ends_12 rfl (Nat.le_refl _) (Nat.le_refl _) ⟨rfl, rfl⟩
  · have hf := (if_neg c1).symm.trans hf
    refine bf_iload_n 1 dX11_ends_4 rfl rfl ?_
    refine bf_iconst (v := 1) dX11_ends_5 (by decide) ?_
    refine bf_icmp_le 13 dX11_ends_6 (by decide) (fun c2 => ?_) (fun c2 => ?_)
    · have hf := (if_pos c2).symm.trans hf
      refine bf_aload_n 0 dX11_ends_13 rfl rfl ?_
      refine fg_X11_28 dX11_ends_14 rfl hk ?_
      refine bf_aload_n 0 dX11_ends_17 rfl rfl ?_
      refine fg_X11_14 dX11_ends_18 rfl hk ?_
      refine fg_X11_60 dX11_ends_21 rfl (kr_11_0 hk) ?_
      obtain ⟨r4, e3, hf⟩ := bf_bind hf
      have hCe3 := ok_X3_copyFrom (Γ := Γ) (ad := ad) (kr_11_3 hk) (kr_7_0 (kr_11_0 hk)) e3
      refine cv_X11_248 2 dX11_ends_24 rfl ⟨Nat.le_of_ble_eq_true rfl, Nat.le_of_ble_eq_true rfl⟩ (Nat.le_of_ble_eq_true rfl) (kr_11_3 hk) hCe3 ?_
      refine bf_iconst (v := 0) dX11_ends_27 (by decide) ?_
      refine bf_istore_n (lv2 := [(2, .int _), (0, .ref _), (1, .int _)]) dX11_ends_28 rfl (by decide) rfl ?_
      refine bf_perm [1, 2, 0] rfl ?_
      refine ok_X11_ends_29 hk (fun I10 L10 hf => ?_) _ _ _ _  hf
      exact ok_X11_ends_p77 hk  hf
    · have hf := (if_neg c2).symm.trans hf
      refine bf_sipush (v := -10001) dX11_ends_9 (by decide) ?_
      obtain rfl := Option.some.inj hf
      exact bf_iret dX11_ends_12 rfl (Nat.le_refl _) (Nat.le_refl _) ⟨rfl, rfl⟩
def f_X11_book (o : Nat) (a0 : Int32) (a1 : Int32) (I : Nat → Nat → Int32) (L : Nat → Nat → Int64) : Option (Int32 × bf_St) :=
  (if a0 = (-1 : Int32) then ((f_X5_clear ((o + 1) + 34) I L).bind (fun r10 => (some (r10.1, r10.2.1, r10.2.2)))) else ((f_X3_hasWire ((o + 1) + 1) a0 I L).bind (fun r3 => (if r3.1 = 0 then (some ((-1 : Int32), r3.2.1, r3.2.2)) else (if a1 < 0 then (some ((-2 : Int32), r3.2.1, r3.2.2)) else (if a1 ≤ (99 : Int32) then ((f_X5_append ((o + 1) + 34) a0 a1 (0 : Int32) r3.2.1 r3.2.2).bind (fun r8 => (some (r8.1, r8.2.1, r8.2.2)))) else (some ((-2 : Int32), r3.2.1, r3.2.2))))))))
set_option maxRecDepth 100000 in
set_option maxHeartbeats 4000000 in
theorem ok_X11_book {Γ : bf_Gm} {ad : Nat → Nat} {o : Nat} {a0 : Int32} {a1 : Int32} {I : Nat → Nat → Int32} {L : Nat → Nat → Int64} (hk : bf_kd o = 11) {r : Int32 × bf_St} (hf : f_X11_book o a0 a1 I L = some r) : bf_Cn Γ 1 mu_X11_book 0 0 [.ref (ad o), .int a0, .int a1] (bf_S ad I L) (fun q h => q = some (.int r.1) ∧ h = bf_S ad r.2.1 r.2.2) := by
  refine bf_met rfl (Nat.le_of_ble_eq_true rfl) ?_
  unfold f_X11_book at hf
  refine bf_iload_n 1 dX11_book_0 rfl rfl ?_
  refine bf_iconst (v := -1) dX11_book_1 (by decide) ?_
  refine bf_icmp_ne 16 dX11_book_2 (by decide) (fun c1 => ?_) (fun c1 => ?_)
  · have hf := (if_neg c1).symm.trans hf
    refine bf_aload_n 0 dX11_book_16 rfl rfl ?_
    refine fg_X11_14 dX11_book_17 rfl hk ?_
    refine fg_X11_60 dX11_book_20 rfl (kr_11_0 hk) ?_
    refine bf_iload_n 1 dX11_book_23 rfl rfl ?_
    obtain ⟨r3, e2, hf⟩ := bf_bind hf
    have hCe2 := ok_X3_hasWire (Γ := Γ) (ad := ad) (kr_7_0 (kr_11_0 hk)) e2
    refine cv_X11_71 0 dX11_book_24 rfl ⟨Nat.le_of_ble_eq_true rfl, Nat.le_of_ble_eq_true rfl⟩ (Nat.le_of_ble_eq_true rfl) (kr_7_0 (kr_11_0 hk)) hCe2 ?_
    refine bf_if_ne 32 dX11_book_27 (by decide) (fun c4 => ?_) (fun c4 => ?_)
    · have hf := (if_neg c4).symm.trans hf
      refine bf_iload_n 2 dX11_book_32 rfl rfl ?_
      refine bf_if_lt 42 dX11_book_33 (by decide) (fun c5 => ?_) (fun c5 => ?_)
      · have hf := (if_pos c5).symm.trans hf
        refine bf_bipush (v := -2) dX11_book_42 (by decide) ?_
        obtain rfl := Option.some.inj hf
        exact bf_iret dX11_book_44 rfl (Nat.le_refl _) (Nat.le_refl _) ⟨rfl, rfl⟩
      · have hf := (if_neg c5).symm.trans hf
        refine bf_iload_n 2 dX11_book_36 rfl rfl ?_
        refine bf_bipush (v := 99) dX11_book_37 (by decide) ?_
        refine bf_icmp_le 45 dX11_book_39 (by decide) (fun c6 => ?_) (fun c6 => ?_)
        · have hf := (if_pos c6).symm.trans hf
          refine bf_aload_n 0 dX11_book_45 rfl rfl ?_
          refine fg_X11_14 dX11_book_46 rfl hk ?_
          refine fg_X11_318 dX11_book_49 rfl (kr_11_0 hk) ?_
          refine bf_iload_n 1 dX11_book_52 rfl rfl ?_
          refine bf_iload_n 2 dX11_book_53 rfl rfl ?_
          refine bf_iconst (v := 0) dX11_book_54 (by decide) ?_
          obtain ⟨r8, e7, hf⟩ := bf_bind hf
          have hCe7 := ok_X5_append (Γ := Γ) (ad := ad) (kr_7_3 (kr_11_0 hk)) e7
          refine cv_X11_259 0 dX11_book_55 rfl ⟨Nat.le_of_ble_eq_true rfl, Nat.le_of_ble_eq_true rfl⟩ (Nat.le_of_ble_eq_true rfl) (kr_7_3 (kr_11_0 hk)) hCe7 ?_
          obtain rfl := Option.some.inj hf
          exact bf_iret dX11_book_58 rfl (Nat.le_refl _) (Nat.le_refl _) ⟨rfl, rfl⟩
        · have hf := (if_neg c6).symm.trans hf
          refine bf_bipush (v := -2) dX11_book_42 (by decide) ?_
          obtain rfl := Option.some.inj hf
          exact bf_iret dX11_book_44 rfl (Nat.le_refl _) (Nat.le_refl _) ⟨rfl, rfl⟩
    · have hf := (if_pos c4).symm.trans hf
      refine bf_iconst (v := -1) dX11_book_30 (by decide) ?_
      obtain rfl := Option.some.inj hf
      exact bf_iret dX11_book_31 rfl (Nat.le_refl _) (Nat.le_refl _) ⟨rfl, rfl⟩
  · have hf := (if_pos c1).symm.trans hf
    refine bf_aload_n 0 dX11_book_5 rfl rfl ?_
    refine fg_X11_14 dX11_book_6 rfl hk ?_
    refine fg_X11_318 dX11_book_9 rfl (kr_11_0 hk) ?_
    obtain ⟨r10, e9, hf⟩ := bf_bind hf
    have hCe9 := ok_X5_clear (Γ := Γ) (ad := ad) (kr_7_3 (kr_11_0 hk)) e9
    refine cv_X11_255 0 dX11_book_12 rfl ⟨Nat.le_of_ble_eq_true rfl, Nat.le_of_ble_eq_true rfl⟩ (Nat.le_of_ble_eq_true rfl) (kr_7_3 (kr_11_0 hk)) hCe9 ?_
    obtain rfl := Option.some.inj hf
    exact bf_iret dX11_book_15 rfl (Nat.le_refl _) (Nat.le_refl _) ⟨rfl, rfl⟩
def f_X11_looked_10 (v0 : Nat) (v1 : Nat) (K : (Nat → Nat → Int32) → (Nat → Nat → Int64) → Option (Int32 × bf_St)) : Nat → Int32 → (Nat → Nat → Int32) → (Nat → Nat → Int64) → Option (Int32 × bf_St)
  | 0, _, _, _ => none
  | n + 1, v2, I, L =>
    (if (I v1 0) ≤ v2 then (K I L) else (if bf_ok v2 (bf_le (v1 + 1)) then ((f_X3_hasWire ((v0 + 1) + 1) (I (v1 + 1) v2.toNatClampNeg) I L).bind (fun r4 => (if r4.1 = 0 then (some (v2, r4.2.1, r4.2.2)) else (if bf_ok (I (v1 + 1) v2.toNatClampNeg) 8 then (if bf_ok v2 (bf_le (v1 + 2)) then (if (r4.2.1 ((((v0 + 1) + 1) + 8) + 1 + 2 * (I (v1 + 1) v2.toNatClampNeg).toNatClampNeg) 5) = (r4.2.1 (v1 + 2) v2.toNatClampNeg) then (f_X11_looked_10 v0 v1 K n (v2 + (1 : Int32)) r4.2.1 r4.2.2) else (some (v2, r4.2.1, r4.2.2))) else none) else none)))) else none))
set_option maxRecDepth 100000 in
set_option maxHeartbeats 4000000 in
theorem ok_X11_looked_10 {Γ : bf_Gm} {ad : Nat → Nat} {v0 : Nat} {v1 : Nat} (hv0 : bf_kd v0 = 11) (hv1 : bf_kd v1 = 5) {r : Int32 × bf_St} {K : (Nat → Nat → Int32) → (Nat → Nat → Int64) → Option (Int32 × bf_St)} (hK : ∀ (I : Nat → Nat → Int32) (L : Nat → Nat → Int64), K  I L = some r → bf_Go Γ (bf_rm 1 0 0) mu_X11_looked bf_E0 (bf_Z Γ (fun q h => q = some (.int r.1) ∧ h = bf_S ad r.2.1 r.2.2) 0 0) (0, 0) 71 [] [] (bf_S ad I L)) : ∀ (n : Nat) (v2 : Int32) (I : Nat → Nat → Int32) (L : Nat → Nat → Int64), f_X11_looked_10 v0 v1 K n v2 I L = some r → bf_Go Γ (bf_rm 1 0 0) mu_X11_looked bf_E0 (bf_Z Γ (fun q h => q = some (.int r.1) ∧ h = bf_S ad r.2.1 r.2.2) 0 0) (0, 0) 10 [(0, .ref (ad v0)), (1, .ref (ad v1)), (2, .int v2)] [] (bf_S ad I L) := by
  intro n
  induction n with
  | zero => intro v2 I L hf; exact absurd (show none = some r from hf) (by simp)
  | succ n ih =>
    intro v2 I L hf
    rw [f_X11_looked_10] at hf
    refine bf_iload_n 2 dX11_looked_10 rfl rfl ?_
    refine bf_aload_n 1 dX11_looked_11 rfl rfl ?_
    refine fg_X11_272 dX11_looked_12 rfl hv1 ?_
    refine bf_icmp_ge 71 dX11_looked_15 (by decide) (fun c1 => ?_) (fun c1 => ?_)
    · have hf := (if_pos c1).symm.trans hf
      refine bf_perm [] rfl ?_
      exact hK _ _ hf
    · have hf := (if_neg c1).symm.trans hf
      refine bf_aload_n 1 dX11_looked_18 rfl rfl ?_
      refine fg_X11_281 dX11_looked_19 rfl hv1 ?_
      refine bf_iload_n 2 dX11_looked_22 rfl rfl ?_
      rcases Decidable.em (bf_ok v2 (bf_le (v1 + 1))) with c2 | c2
      · have hf := (if_pos c2).symm.trans hf
        refine bf_iald dX11_looked_23 (kr_5_1 hv1) c2 ?_
        refine bf_istore_n (lv2 := [(3, .int _), (0, .ref _), (1, .ref _), (2, .int _)]) dX11_looked_24 rfl (by decide) rfl ?_
        refine bf_aload_n 1 dX11_looked_25 rfl rfl ?_
        refine fg_X11_14 dX11_looked_26 rfl hv0 ?_
        refine fg_X11_60 dX11_looked_29 rfl (kr_11_0 hv0) ?_
        refine bf_iload_n 0 dX11_looked_32 rfl rfl ?_
        obtain ⟨r4, e3, hf⟩ := bf_bind hf
        have hCe3 := ok_X3_hasWire (Γ := Γ) (ad := ad) (kr_7_0 (kr_11_0 hv0)) e3
        refine cv_X11_71 0 dX11_looked_33 rfl ⟨Nat.le_of_ble_eq_true rfl, Nat.le_of_ble_eq_true rfl⟩ (Nat.le_of_ble_eq_true rfl) (kr_7_0 (kr_11_0 hv0)) hCe3 ?_
        refine bf_if_eq 63 dX11_looked_36 (by decide) (fun c5 => ?_) (fun c5 => ?_)
        · have hf := (if_pos c5).symm.trans hf
          refine bf_iload_n 3 dX11_looked_63 rfl rfl ?_
          obtain rfl := Option.some.inj hf
          exact bf_iret dX11_looked_64 rfl (Nat.le_refl _) (Nat.le_refl _) ⟨rfl, rfl⟩
        · have hf := (if_neg c5).symm.trans hf
          refine bf_aload_n 1 dX11_looked_39 rfl rfl ?_
          refine fg_X11_14 dX11_looked_40 rfl hv0 ?_
          refine fg_X11_60 dX11_looked_43 rfl (kr_11_0 hv0) ?_
          refine fg_X11_75 dX11_looked_46 rfl (kr_7_0 (kr_11_0 hv0)) ?_
          refine bf_iload_n 0 dX11_looked_49 rfl rfl ?_
          rcases Decidable.em (bf_ok (I (v1 + 1) v2.toNatClampNeg) 8) with c6 | c6
          · have hf := (if_pos c6).symm.trans hf
            refine al_19 dX11_looked_50 (kr_3_1 (kr_7_0 (kr_11_0 hv0))) (by rw [(la_19 (kr_3_1 (kr_7_0 (kr_11_0 hv0))))]; exact c6) ?_
            refine fg_X11_79 dX11_looked_51 rfl (ka_19 (kr_3_1 (kr_7_0 (kr_11_0 hv0))) ((by rw [(la_19 (kr_3_1 (kr_7_0 (kr_11_0 hv0))))]; exact c6) : bf_ok _ _).2) ?_
            refine bf_aload_n 2 dX11_looked_54 rfl rfl ?_
            refine fg_X11_273 dX11_looked_55 rfl hv1 ?_
            refine bf_iload_n 3 dX11_looked_58 rfl rfl ?_
            rcases Decidable.em (bf_ok v2 (bf_le (v1 + 2))) with c7 | c7
            · have hf := (if_pos c7).symm.trans hf
              refine bf_iald dX11_looked_59 (kr_5_2 hv1) c7 ?_
              refine bf_icmp_eq 65 dX11_looked_60 (by decide) (fun c8 => ?_) (fun c8 => ?_)
              · have hf := (if_pos c8).symm.trans hf
                refine bf_iinc 3 (v := _ + (1 : Int32)) (lv2 := [(2, .int _), (3, .int _), (0, .ref _), (1, .ref _)]) dX11_looked_65 rfl (by rfl) (by decide) rfl ?_
                refine bf_goto 10 dX11_looked_68 (by decide) ?_
                refine bf_perm [2, 3, 0] rfl ?_
                exact ih _ _ _ hf
              · have hf := (if_neg c8).symm.trans hf
                refine bf_iload_n 3 dX11_looked_63 rfl rfl ?_
                obtain rfl := Option.some.inj hf
                exact bf_iret dX11_looked_64 rfl (Nat.le_refl _) (Nat.le_refl _) ⟨rfl, rfl⟩
            · exact absurd ((if_neg c7).symm.trans hf) (by simp)
          · exact absurd ((if_neg c6).symm.trans hf) (by simp)
      · exact absurd ((if_neg c2).symm.trans hf) (by simp)
def f_X11_looked (o : Nat) (I : Nat → Nat → Int32) (L : Nat → Nat → Int64) : Option (Int32 × bf_St) :=
  (f_X11_looked_10 o ((o + 1) + 34) (fun I9 L9 => (some ((-5 : Int32), I9, L9))) 400 (0 : Int32) I L)
set_option maxRecDepth 100000 in
set_option maxHeartbeats 4000000 in
theorem ok_X11_looked {Γ : bf_Gm} {ad : Nat → Nat} {o : Nat} {I : Nat → Nat → Int32} {L : Nat → Nat → Int64} (hk : bf_kd o = 11) {r : Int32 × bf_St} (hf : f_X11_looked o I L = some r) : bf_Cn Γ 1 mu_X11_looked 0 0 [.ref (ad o)] (bf_S ad I L) (fun q h => q = some (.int r.1) ∧ h = bf_S ad r.2.1 r.2.2) := by
  refine bf_met rfl (Nat.le_of_ble_eq_true rfl) ?_
  unfold f_X11_looked at hf
  refine bf_aload_n 0 dX11_looked_0 rfl rfl ?_
  refine fg_X11_14 dX11_looked_1 rfl hk ?_
  refine fg_X11_318 dX11_looked_4 rfl (kr_11_0 hk) ?_
  refine bf_astore_n (lv2 := [(1, .ref _), (0, .ref _)]) dX11_looked_7 rfl (by decide) rfl ?_
  refine bf_iconst (v := 0) dX11_looked_8 (by decide) ?_
  refine bf_istore_n (lv2 := [(2, .int _), (1, .ref _), (0, .ref _)]) dX11_looked_9 rfl (by decide) rfl ?_
  refine bf_perm [2, 1, 0] rfl ?_
  refine ok_X11_looked_10 hk (kr_7_3 (kr_11_0 hk)) (fun I9 L9 hf => ?_) _ _ _ _  hf
  refine bf_bipush (v := -5) dX11_looked_71 (by decide) ?_
  obtain rfl := Option.some.inj hf
  exact bf_iret dX11_looked_73 rfl (Nat.le_refl _) (Nat.le_refl _) ⟨rfl, rfl⟩
def f_X11_isTape (a0 : Int32) (I : Nat → Nat → Int32) (L : Nat → Nat → Int64) : Option (Int32 × bf_St) :=
  (if a0 < 0 then (some ((0 : Int32), I, L)) else (if (6 : Int32) ≤ a0 then (some ((0 : Int32), I, L)) else (some ((1 : Int32), I, L))))
set_option maxRecDepth 100000 in
set_option maxHeartbeats 4000000 in
theorem ok_X11_isTape {Γ : bf_Gm} {ad : Nat → Nat} {a0 : Int32} {I : Nat → Nat → Int32} {L : Nat → Nat → Int64} {r : Int32 × bf_St} (hf : f_X11_isTape a0 I L = some r) : bf_Cn Γ 0 mu_X11_isTape 0 0 [.int a0] (bf_S ad I L) (fun q h => q = some (.int r.1) ∧ h = bf_S ad r.2.1 r.2.2) := by
  refine bf_met rfl (Nat.le_of_ble_eq_true rfl) ?_
  unfold f_X11_isTape at hf
  refine bf_iload_n 0 dX11_isTape_0 rfl rfl ?_
  refine bf_if_lt 14 dX11_isTape_1 (by decide) (fun c1 => ?_) (fun c1 => ?_)
  · have hf := (if_pos c1).symm.trans hf
    refine bf_iconst (v := 0) dX11_isTape_14 (by decide) ?_
    obtain rfl := Option.some.inj hf
    exact bf_zret dX11_isTape_15 rfl rfl (Nat.le_refl _) (Nat.le_refl _) ⟨rfl, rfl⟩
  · have hf := (if_neg c1).symm.trans hf
    refine bf_iload_n 0 dX11_isTape_4 rfl rfl ?_
    refine bf_bipush (v := 6) dX11_isTape_5 (by decide) ?_
    refine bf_icmp_ge 14 dX11_isTape_7 (by decide) (fun c2 => ?_) (fun c2 => ?_)
    · have hf := (if_pos c2).symm.trans hf
      refine bf_iconst (v := 0) dX11_isTape_14 (by decide) ?_
      obtain rfl := Option.some.inj hf
      exact bf_zret dX11_isTape_15 rfl rfl (Nat.le_refl _) (Nat.le_refl _) ⟨rfl, rfl⟩
    · have hf := (if_neg c2).symm.trans hf
      refine bf_iconst (v := 1) dX11_isTape_10 (by decide) ?_
      refine bf_goto 15 dX11_isTape_11 (by decide) ?_
      obtain rfl := Option.some.inj hf
      exact bf_zret dX11_isTape_15 rfl rfl (Nat.le_refl _) (Nat.le_refl _) ⟨rfl, rfl⟩
def f_X11_judge_69 (v3 : Int32) (v4 : Nat) (v5 : Nat) (K : (Nat → Nat → Int32) → (Nat → Nat → Int64) → Option (Int32 × bf_St)) : Nat → Int32 → (Nat → Nat → Int32) → (Nat → Nat → Int64) → Option (Int32 × bf_St)
  | 0, _, _, _ => none
  | n + 1, v6, I, L =>
    (if (I v5 5) ≤ v6 then (K I L) else (if v3 < 0 then (some (((100 : Int32) + v6), I, L)) else (if v3 < ((I v4 1) - v6) then ((f_X8_itemAt v4 (v3 + v6) I L).bind (fun r14 => ((f_X10_tokenAt v5 v6 r14.2.1 r14.2.2).bind (fun r16 => (if (lg_cmp r14.1 (r16.1).toInt64) = 0 then (f_X11_judge_69 v3 v4 v5 K n (v6 + (1 : Int32)) r16.2.1 r16.2.2) else (some (v6, r16.2.1, r16.2.2))))))) else (some (((100 : Int32) + v6), I, L)))))
set_option maxRecDepth 100000 in
set_option maxHeartbeats 4000000 in
theorem ok_X11_judge_69 {Γ : bf_Gm} {ad : Nat → Nat} {v3 : Int32} {v4 : Nat} {v5 : Nat} (hv4 : bf_kd v4 = 8) (hv5 : bf_kd v5 = 10) {r : Int32 × bf_St} {K : (Nat → Nat → Int32) → (Nat → Nat → Int64) → Option (Int32 × bf_St)} (hK : ∀ (I : Nat → Nat → Int32) (L : Nat → Nat → Int64), K  I L = some r → bf_Go Γ (bf_rm 2 0 0) mu_X11_judge bf_E0 (bf_Z Γ (fun q h => q = some (.int r.1) ∧ h = bf_S ad r.2.1 r.2.2) 0 0) (0, 0) 131 [] [] (bf_S ad I L)) : ∀ (n : Nat) (v6 : Int32) (I : Nat → Nat → Int32) (L : Nat → Nat → Int64), f_X11_judge_69 v3 v4 v5 K n v6 I L = some r → bf_Go Γ (bf_rm 2 0 0) mu_X11_judge bf_E0 (bf_Z Γ (fun q h => q = some (.int r.1) ∧ h = bf_S ad r.2.1 r.2.2) 0 0) (0, 0) 69 [(3, .int v3), (4, .ref (ad v4)), (5, .ref (ad v5)), (6, .int v6)] [] (bf_S ad I L) := by
  intro n
  induction n with
  | zero => intro v6 I L hf; exact absurd (show none = some r from hf) (by simp)
  | succ n ih =>
    intro v6 I L hf
    rw [f_X11_judge_69] at hf
    refine bf_iload 3 dX11_judge_69 rfl ?_
    refine bf_aload 2 dX11_judge_71 rfl ?_
    refine fg_X11_79 dX11_judge_73 rfl hv5 ?_
    refine bf_icmp_ge 131 dX11_judge_76 (by decide) (fun c10 => ?_) (fun c10 => ?_)
    · have hf := (if_pos c10).symm.trans hf
      refine bf_perm [] rfl ?_
      exact hK _ _ hf
    · have hf := (if_neg c10).symm.trans hf
      refine bf_iload_n 0 dX11_judge_79 rfl rfl ?_
      refine bf_if_lt 95 dX11_judge_80 (by decide) (fun c11 => ?_) (fun c11 => ?_)
      · have hf := (if_pos c11).symm.trans hf
        refine bf_bipush (v := 100) dX11_judge_95 (by decide) ?_
        refine bf_iload 3 dX11_judge_97 rfl ?_
        refine bf_iadd dX11_judge_99 ?_
        obtain rfl := Option.some.inj hf
        exact bf_iret dX11_judge_100 rfl (Nat.le_refl _) (Nat.le_refl _) ⟨rfl, rfl⟩
      · have hf := (if_neg c11).symm.trans hf
        refine bf_iload_n 0 dX11_judge_83 rfl rfl ?_
        refine bf_aload 1 dX11_judge_84 rfl ?_
        refine fg_X11_327 dX11_judge_86 rfl hv4 ?_
        refine bf_iload 3 dX11_judge_89 rfl ?_
        refine bf_isub dX11_judge_91 ?_
        refine bf_icmp_lt 101 dX11_judge_92 (by decide) (fun c12 => ?_) (fun c12 => ?_)
        · have hf := (if_pos c12).symm.trans hf
          refine bf_aload 1 dX11_judge_101 rfl ?_
          refine bf_iload_n 0 dX11_judge_103 rfl rfl ?_
          refine bf_iload 3 dX11_judge_104 rfl ?_
          refine bf_iadd dX11_judge_106 ?_
          obtain ⟨r14, e13, hf⟩ := bf_bind hf
          have hCe13 := ok_X8_itemAt (Γ := Γ) (ad := ad) hv4 e13
          refine cv_X11_328 1 dX11_judge_107 rfl ⟨Nat.le_of_ble_eq_true rfl, Nat.le_of_ble_eq_true rfl⟩ (Nat.le_of_ble_eq_true rfl) hv4 hCe13 ?_
          refine bf_aload 2 dX11_judge_110 rfl ?_
          refine bf_iload 3 dX11_judge_112 rfl ?_
          obtain ⟨r16, e15, hf⟩ := bf_bind hf
          have hCe15 := ok_X10_tokenAt (Γ := Γ) (ad := ad) hv5 e15
          refine cv_X11_210 1 dX11_judge_114 rfl ⟨Nat.le_of_ble_eq_true rfl, Nat.le_of_ble_eq_true rfl⟩ (Nat.le_of_ble_eq_true rfl) hv5 hCe15 ?_
          refine bf_i2l dX11_judge_117 ?_
          refine bf_lcmp dX11_judge_118 ?_
          refine bf_if_eq 125 dX11_judge_119 (by decide) (fun c17 => ?_) (fun c17 => ?_)
          · have hf := (if_pos c17).symm.trans hf
            refine bf_iinc 3 (v := _ + (1 : Int32)) (lv2 := [(6, .int _), (3, .int _), (4, .ref _), (5, .ref _)]) dX11_judge_125 rfl (by rfl) (by decide) rfl ?_
            refine bf_goto 69 dX11_judge_128 (by decide) ?_
            refine bf_perm [1, 2, 3, 0] rfl ?_
            exact ih _ _ _ hf
          · have hf := (if_neg c17).symm.trans hf
            refine bf_iload 3 dX11_judge_122 rfl ?_
            obtain rfl := Option.some.inj hf
            exact bf_iret dX11_judge_124 rfl (Nat.le_refl _) (Nat.le_refl _) ⟨rfl, rfl⟩
        · have hf := (if_neg c12).symm.trans hf
          refine bf_bipush (v := 100) dX11_judge_95 (by decide) ?_
          refine bf_iload 3 dX11_judge_97 rfl ?_
          refine bf_iadd dX11_judge_99 ?_
          obtain rfl := Option.some.inj hf
          exact bf_iret dX11_judge_100 rfl (Nat.le_refl _) (Nat.le_refl _) ⟨rfl, rfl⟩
def f_X11_judge_p52 (v0 : Nat) (v1 : Int32) (v3 : Int32) (v4 : Nat) (I : Nat → Nat → Int32) (L : Nat → Nat → Int64) : Option (Int32 × bf_St) :=
  (if bf_ok v1 8 then (f_X11_judge_69 v3 v4 ((((v0 + 1) + 1) + 8) + 1 + 2 * v1.toNatClampNeg) (fun I18 L18 => (some ((-5 : Int32), I18, L18))) 400 (0 : Int32) I L) else none)
set_option maxRecDepth 100000 in
set_option maxHeartbeats 4000000 in
theorem ok_X11_judge_p52 {Γ : bf_Gm} {ad : Nat → Nat} {v0 : Nat} {v1 : Int32} {v3 : Int32} {v4 : Nat} {I : Nat → Nat → Int32} {L : Nat → Nat → Int64} (hv0 : bf_kd v0 = 11) (hv4 : bf_kd v4 = 8) {r : Int32 × bf_St} (hf : f_X11_judge_p52 v0 v1 v3 v4 I L = some r) : bf_Go Γ (bf_rm 2 0 0) mu_X11_judge bf_E0 (bf_Z Γ (fun q h => q = some (.int r.1) ∧ h = bf_S ad r.2.1 r.2.2) 0 0) (0, 0) 52 [(0, .ref (ad v0)), (1, .int v1), (3, .int v3), (4, .ref (ad v4))] [] (bf_S ad I L) := by
  unfold f_X11_judge_p52 at hf
  refine bf_aload_n 0 dX11_judge_52 rfl rfl ?_
  refine fg_X11_14 dX11_judge_53 rfl hv0 ?_
  refine fg_X11_60 dX11_judge_56 rfl (kr_11_0 hv0) ?_
  refine fg_X11_75 dX11_judge_59 rfl (kr_7_0 (kr_11_0 hv0)) ?_
  refine bf_iload_n 1 dX11_judge_62 rfl rfl ?_
  rcases Decidable.em (bf_ok v1 8) with c9 | c9
  · have hf := (if_pos c9).symm.trans hf
    refine al_19 dX11_judge_63 (kr_3_1 (kr_7_0 (kr_11_0 hv0))) (by rw [(la_19 (kr_3_1 (kr_7_0 (kr_11_0 hv0))))]; exact c9) ?_
    refine bf_astore (lv2 := [(5, .ref _), (0, .ref _), (1, .int _), (3, .int _), (4, .ref _)]) dX11_judge_64 (by decide) rfl ?_
    refine bf_iconst (v := 0) dX11_judge_66 (by decide) ?_
    refine bf_istore (lv2 := [(6, .int _), (5, .ref _), (0, .ref _), (1, .int _), (3, .int _), (4, .ref _)]) dX11_judge_67 (by decide) rfl ?_
    refine bf_perm [4, 5, 1, 0] rfl ?_
    refine ok_X11_judge_69 hv4 (ka_19 (kr_3_1 (kr_7_0 (kr_11_0 hv0))) ((by rw [(la_19 (kr_3_1 (kr_7_0 (kr_11_0 hv0))))]; exact c9) : bf_ok _ _).2) (fun I18 L18 hf => ?_) _ _ _ _  hf
    refine bf_bipush (v := -5) dX11_judge_131 (by decide) ?_
    obtain rfl := Option.some.inj hf
    exact bf_iret dX11_judge_133 rfl (Nat.le_refl _) (Nat.le_refl _) ⟨rfl, rfl⟩
  · exact absurd ((if_neg c9).symm.trans hf) (by simp)
def f_X11_judge (o : Nat) (a0 : Int32) (a1 : Int32) (a2 : Int32) (I : Nat → Nat → Int32) (L : Nat → Nat → Int64) : Option (Int32 × bf_St) :=
  ((f_X3_hasWire ((o + 1) + 1) a0 I L).bind (fun r2 => (if r2.1 = 0 then (some ((-1 : Int32), r2.2.1, r2.2.2)) else ((f_X11_isTape a1 r2.2.1 r2.2.2).bind (fun r5 => (if r5.1 = 0 then (some ((-1 : Int32), r5.2.1, r5.2.2)) else (if bf_ok a1 6 then (if (r5.2.1 ((o + 143) + 1 + 2 * a1.toNatClampNeg) 0) = (-1 : Int32) then (f_X11_judge_p52 o a0 a2 ((o + 143) + 1 + 2 * a1.toNatClampNeg) r5.2.1 r5.2.2) else (if (r5.2.1 ((o + 143) + 1 + 2 * a1.toNatClampNeg) 0) = (2 : Int32) then (f_X11_judge_p52 o a0 a2 ((o + 143) + 1 + 2 * a1.toNatClampNeg) r5.2.1 r5.2.2) else (some ((-12 : Int32), r5.2.1, r5.2.2)))) else none)))))))
set_option maxRecDepth 100000 in
set_option maxHeartbeats 4000000 in
theorem ok_X11_judge {Γ : bf_Gm} {ad : Nat → Nat} {o : Nat} {a0 : Int32} {a1 : Int32} {a2 : Int32} {I : Nat → Nat → Int32} {L : Nat → Nat → Int64} (hk : bf_kd o = 11) {r : Int32 × bf_St} (hf : f_X11_judge o a0 a1 a2 I L = some r) : bf_Cn Γ 2 mu_X11_judge 0 0 [.ref (ad o), .int a0, .int a1, .int a2] (bf_S ad I L) (fun q h => q = some (.int r.1) ∧ h = bf_S ad r.2.1 r.2.2) := by
  refine bf_met rfl (Nat.le_of_ble_eq_true rfl) ?_
  unfold f_X11_judge at hf
  refine bf_aload_n 0 dX11_judge_0 rfl rfl ?_
  refine fg_X11_14 dX11_judge_1 rfl hk ?_
  refine fg_X11_60 dX11_judge_4 rfl (kr_11_0 hk) ?_
  refine bf_iload_n 1 dX11_judge_7 rfl rfl ?_
  obtain ⟨r2, e1, hf⟩ := bf_bind hf
  have hCe1 := ok_X3_hasWire (Γ := Γ) (ad := ad) (kr_7_0 (kr_11_0 hk)) e1
  refine cv_X11_71 0 dX11_judge_8 rfl ⟨Nat.le_of_ble_eq_true rfl, Nat.le_of_ble_eq_true rfl⟩ (Nat.le_of_ble_eq_true rfl) (kr_7_0 (kr_11_0 hk)) hCe1 ?_
  refine bf_if_eq 21 dX11_judge_11 (by decide) (fun c3 => ?_) (fun c3 => ?_)
  · have hf := (if_pos c3).symm.trans hf
    refine bf_iconst (v := -1) dX11_judge_21 (by decide) ?_
    obtain rfl := Option.some.inj hf
    exact bf_iret dX11_judge_22 rfl (Nat.le_refl _) (Nat.le_refl _) ⟨rfl, rfl⟩
  · have hf := (if_neg c3).symm.trans hf
    refine bf_iload_n 2 dX11_judge_14 rfl rfl ?_
    obtain ⟨r5, e4, hf⟩ := bf_bind hf
    have hCe4 := ok_X11_isTape (Γ := Γ) (ad := ad)  e4
    refine cv_X11_321 0 dX11_judge_15 rfl ⟨Nat.le_of_ble_eq_true rfl, Nat.le_of_ble_eq_true rfl⟩ (Nat.le_of_ble_eq_true rfl) hCe4 ?_
    refine bf_if_ne 23 dX11_judge_18 (by decide) (fun c6 => ?_) (fun c6 => ?_)
    · have hf := (if_neg c6).symm.trans hf
      refine bf_aload_n 0 dX11_judge_23 rfl rfl ?_
      refine fg_X11_55 dX11_judge_24 rfl hk ?_
      refine bf_iload_n 2 dX11_judge_27 rfl rfl ?_
      rcases Decidable.em (bf_ok a1 6) with c7 | c7
      · have hf := (if_pos c7).symm.trans hf
        refine al_18 dX11_judge_28 (kr_11_7 hk) (by rw [(la_18 (kr_11_7 hk))]; exact c7) ?_
        refine bf_astore (lv2 := [(4, .ref _), (0, .ref _), (1, .int _), (2, .int _), (3, .int _)]) dX11_judge_29 (by decide) rfl ?_
        refine bf_aload 0 dX11_judge_31 rfl ?_
        refine fg_X11_324 dX11_judge_33 rfl (ka_18 (kr_11_7 hk) ((by rw [(la_18 (kr_11_7 hk))]; exact c7) : bf_ok _ _).2) ?_
        refine bf_iconst (v := -1) dX11_judge_36 (by decide) ?_
        refine bf_icmp_eq 52 dX11_judge_37 (by decide) (fun c8 => ?_) (fun c8 => ?_)
        · have hf := (if_pos c8).symm.trans hf
          refine bf_perm [1, 2, 4, 0] rfl ?_
          exact ok_X11_judge_p52 hk (ka_18 (kr_11_7 hk) ((by rw [(la_18 (kr_11_7 hk))]; exact c7) : bf_ok _ _).2)  hf
        · have hf := (if_neg c8).symm.trans hf
          refine bf_aload 0 dX11_judge_40 rfl ?_
          refine fg_X11_324 dX11_judge_42 rfl (ka_18 (kr_11_7 hk) ((by rw [(la_18 (kr_11_7 hk))]; exact c7) : bf_ok _ _).2) ?_
          refine bf_iconst (v := 2) dX11_judge_45 (by decide) ?_
          refine bf_icmp_eq 52 dX11_judge_46 (by decide) (fun c19 => ?_) (fun c19 => ?_)
          · have hf := (if_pos c19).symm.trans hf
            refine bf_perm [1, 2, 4, 0] rfl ?_
            exact ok_X11_judge_p52 hk (ka_18 (kr_11_7 hk) ((by rw [(la_18 (kr_11_7 hk))]; exact c7) : bf_ok _ _).2)  hf
          · have hf := (if_neg c19).symm.trans hf
            refine bf_bipush (v := -12) dX11_judge_49 (by decide) ?_
            obtain rfl := Option.some.inj hf
            exact bf_iret dX11_judge_51 rfl (Nat.le_refl _) (Nat.le_refl _) ⟨rfl, rfl⟩
      · exact absurd ((if_neg c7).symm.trans hf) (by simp)
    · have hf := (if_pos c6).symm.trans hf
      refine bf_iconst (v := -1) dX11_judge_21 (by decide) ?_
      obtain rfl := Option.some.inj hf
      exact bf_iret dX11_judge_22 rfl (Nat.le_refl _) (Nat.le_refl _) ⟨rfl, rfl⟩
