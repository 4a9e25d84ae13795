def f_X6_look (o : Nat) (a0 : Nat) (I : Nat → Nat → Int32) (L : Nat → Nat → Int64) : Option (bf_St) :=
  ((f_X2_load (o + 6) a0 I L).bind (fun r2 => ((f_X6_findPeriod o a0 r2.1 r2.2).bind (fun r4 => (some (r4.1, r4.2))))))
set_option maxRecDepth 100000 in
set_option maxHeartbeats 4000000 in
theorem ok_X6_look {Γ : bf_Gm} {ad : Nat → Nat} {o : Nat} {a0 : Nat} {I : Nat → Nat → Int32} {L : Nat → Nat → Int64} (hk : bf_kd o = 6) (hk0 : bf_kd a0 = 3) {r : bf_St} (hf : f_X6_look o a0 I L = some r) : bf_Cn Γ 5 mu_X6_look 0 0 [.ref (ad o), .ref (ad a0)] (bf_S ad I L) (fun q h => q = none ∧ h = bf_S ad r.1 r.2) := by
  refine bf_met rfl (Nat.le_of_ble_eq_true rfl) ?_
  unfold f_X6_look at hf
  refine bf_aload_n 0 dX6_look_0 rfl rfl ?_
  refine fg_X6_30 dX6_look_1 rfl hk ?_
  refine bf_aload_n 1 dX6_look_4 rfl rfl ?_
  obtain ⟨r2, e1, hf⟩ := bf_bind hf
  have hCe1 := ok_X2_load (Γ := Γ) (ad := ad) (kr_6_9 hk) hk0 e1
  refine cv_X6_34 0 dX6_look_5 rfl ⟨Nat.le_of_ble_eq_true rfl, Nat.le_of_ble_eq_true rfl⟩ (Nat.le_of_ble_eq_true rfl) (kr_6_9 hk) hCe1 ?_
  refine bf_aload_n 0 dX6_look_8 rfl rfl ?_
  refine bf_aload_n 1 dX6_look_9 rfl rfl ?_
  obtain ⟨r4, e3, hf⟩ := bf_bind hf
  have hCe3 := ok_X6_findPeriod (Γ := Γ) (ad := ad) hk hk0 e3
  refine cv_X6_49 4 dX6_look_10 rfl ⟨Nat.le_of_ble_eq_true rfl, Nat.le_of_ble_eq_true rfl⟩ (Nat.le_of_ble_eq_true rfl) hk hCe3 ?_
  obtain rfl := Option.some.inj hf
  exact bf_vret dX6_look_13 rfl (Nat.le_refl _) (Nat.le_refl _) ⟨rfl, rfl⟩
def f_X6_lookWith (o : Nat) (a0 : Nat) (a1 : Int32) (a2 : Int32) (I : Nat → Nat → Int32) (L : Nat → Nat → Int64) : Option (bf_St) :=
  ((f_X2_load (o + 6) a0 I L).bind (fun r2 => ((f_X3_hasWire a0 a1 r2.1 r2.2).bind (fun r4 => (if r4.1 = 0 then ((f_X6_findPeriod o a0 r4.2.1 r4.2.2).bind (fun r7 => (some (r7.1, r7.2)))) else (if bf_ok a1 8 then ((f_X6_findPeriod o a0 (bf_u r4.2.1 ((o + 6) + 1) a1.toNatClampNeg a2) r4.2.2).bind (fun r10 => (some (r10.1, r10.2)))) else none))))))
set_option maxRecDepth 100000 in
set_option maxHeartbeats 4000000 in
theorem ok_X6_lookWith {Γ : bf_Gm} {ad : Nat → Nat} {o : Nat} {a0 : Nat} {a1 : Int32} {a2 : Int32} {I : Nat → Nat → Int32} {L : Nat → Nat → Int64} (hk : bf_kd o = 6) (hk0 : bf_kd a0 = 3) {r : bf_St} (hf : f_X6_lookWith o a0 a1 a2 I L = some r) : bf_Cn Γ 5 mu_X6_lookWith 0 0 [.ref (ad o), .ref (ad a0), .int a1, .int a2] (bf_S ad I L) (fun q h => q = none ∧ h = bf_S ad r.1 r.2) := by
  refine bf_met rfl (Nat.le_of_ble_eq_true rfl) ?_
  unfold f_X6_lookWith at hf
  refine bf_aload_n 0 dX6_lookWith_0 rfl rfl ?_
  refine fg_X6_30 dX6_lookWith_1 rfl hk ?_
  refine bf_aload_n 1 dX6_lookWith_4 rfl rfl ?_
  obtain ⟨r2, e1, hf⟩ := bf_bind hf
  have hCe1 := ok_X2_load (Γ := Γ) (ad := ad) (kr_6_9 hk) hk0 e1
  refine cv_X6_34 0 dX6_lookWith_5 rfl ⟨Nat.le_of_ble_eq_true rfl, Nat.le_of_ble_eq_true rfl⟩ (Nat.le_of_ble_eq_true rfl) (kr_6_9 hk) hCe1 ?_
  refine bf_aload_n 1 dX6_lookWith_8 rfl rfl ?_
  refine bf_iload_n 2 dX6_lookWith_9 rfl rfl ?_
  obtain ⟨r4, e3, hf⟩ := bf_bind hf
  have hCe3 := ok_X3_hasWire (Γ := Γ) (ad := ad) hk0 e3
  refine cv_X6_52 0 dX6_lookWith_10 rfl ⟨Nat.le_of_ble_eq_true rfl, Nat.le_of_ble_eq_true rfl⟩ (Nat.le_of_ble_eq_true rfl) hk0 hCe3 ?_
  refine bf_if_eq 26 dX6_lookWith_13 (by decide) (fun c5 => ?_) (fun c5 => ?_)
  · have hf := (if_pos c5).symm.trans hf
    refine bf_aload_n 0 dX6_lookWith_26 rfl rfl ?_
    refine bf_aload_n 1 dX6_lookWith_27 rfl rfl ?_
    obtain ⟨r7, e6, hf⟩ := bf_bind hf
    have hCe6 := ok_X6_findPeriod (Γ := Γ) (ad := ad) hk hk0 e6
    refine cv_X6_49 4 dX6_lookWith_28 rfl ⟨Nat.le_of_ble_eq_true rfl, Nat.le_of_ble_eq_true rfl⟩ (Nat.le_of_ble_eq_true rfl) hk hCe6 ?_
    obtain rfl := Option.some.inj hf
    exact bf_vret dX6_lookWith_31 rfl (Nat.le_refl _) (Nat.le_refl _) ⟨rfl, rfl⟩
  · have hf := (if_neg c5).symm.trans hf
    refine bf_aload_n 0 dX6_lookWith_16 rfl rfl ?_
    refine fg_X6_30 dX6_lookWith_17 rfl hk ?_
    refine fg_X6_58 dX6_lookWith_20 rfl (kr_6_9 hk) ?_
    refine bf_iload_n 2 dX6_lookWith_23 rfl rfl ?_
    refine bf_iload_n 3 dX6_lookWith_24 rfl rfl ?_
    rcases Decidable.em (bf_ok a1 8) with c8 | c8
    · have hf := (if_pos c8).symm.trans hf
      refine bf_iast dX6_lookWith_25 (kr_2_0 (kr_6_9 hk)) (by rw [(kl_2_0 (kr_6_9 hk))]; exact c8) ?_
      refine bf_aload_n 0 dX6_lookWith_26 rfl rfl ?_
      refine bf_aload_n 1 dX6_lookWith_27 rfl rfl ?_
      obtain ⟨r10, e9, hf⟩ := bf_bind hf
      have hCe9 := ok_X6_findPeriod (Γ := Γ) (ad := ad) hk hk0 e9
      refine cv_X6_49 4 dX6_lookWith_28 rfl ⟨Nat.le_of_ble_eq_true rfl, Nat.le_of_ble_eq_true rfl⟩ (Nat.le_of_ble_eq_true rfl) hk hCe9 ?_
      obtain rfl := Option.some.inj hf
      exact bf_vret dX6_lookWith_31 rfl (Nat.le_refl _) (Nat.le_refl _) ⟨rfl, rfl⟩
    · exact absurd ((if_neg c8).symm.trans hf) (by simp)
def f_X6_play_2 (v0 : Nat) (v1 : Nat) (K : (Nat → Nat → Int32) → (Nat → Nat → Int64) → Option (bf_St)) : Nat → Int32 → (Nat → Nat → Int32) → (Nat → Nat → Int64) → Option (bf_St)
  | 0, _, _, _ => none
  | n + 1, v2, I, L =>
    (if (I v0 5) ≤ v2 then (K I L) else (if bf_ok v2 360 then ((f_X3_fireBox v1 (I (v0 + 2) v2.toNatClampNeg) I L).bind (fun r4 => (f_X6_play_2 v0 v1 K n (v2 + (1 : Int32)) r4.2.1 r4.2.2))) else none))
set_option maxRecDepth 100000 in
set_option maxHeartbeats 4000000 in
theorem ok_X6_play_2 {Γ : bf_Gm} {ad : Nat → Nat} {v0 : Nat} {v1 : Nat} (hv0 : bf_kd v0 = 6) (hv1 : bf_kd v1 = 3) {r : bf_St} {K : (Nat → Nat → Int32) → (Nat → Nat → Int64) → Option (bf_St)} (hK : ∀ (I : Nat → Nat → Int32) (L : Nat → Nat → Int64), K  I L = some r → bf_Go Γ (bf_rm 4 0 0) mu_X6_play bf_E0 (bf_Z Γ (fun q h => q = none ∧ h = bf_S ad r.1 r.2) 0 0) (0, 0) 27 [] [] (bf_S ad I L)) : ∀ (n : Nat) (v2 : Int32) (I : Nat → Nat → Int32) (L : Nat → Nat → Int64), f_X6_play_2 v0 v1 K n v2 I L = some r → bf_Go Γ (bf_rm 4 0 0) mu_X6_play bf_E0 (bf_Z Γ (fun q h => q = none ∧ h = bf_S ad r.1 r.2) 0 0) (0, 0) 2 [(0, .ref (ad v0)), (1, .ref (ad v1)), (2, .int v2)] [] (bf_S ad I L) := by
  intro n
  induction n with
  | zero => intro v2 I L hf; exact absurd (show none = some r from hf) (by simp)
  | succ n ih =>
    intro v2 I L hf
    rw [f_X6_play_2] at hf
    refine bf_iload_n 2 dX6_play_2 rfl rfl ?_
    refine bf_aload_n 0 dX6_play_3 rfl rfl ?_
    refine fg_X6_61 dX6_play_4 rfl hv0 ?_
    refine bf_icmp_ge 27 dX6_play_7 (by decide) (fun c1 => ?_) (fun c1 => ?_)
    · have hf := (if_pos c1).symm.trans hf
      refine bf_perm [] rfl ?_
      exact hK _ _ hf
    · have hf := (if_neg c1).symm.trans hf
      refine bf_aload_n 1 dX6_play_10 rfl rfl ?_
      refine bf_aload_n 0 dX6_play_11 rfl rfl ?_
      refine fg_X6_15 dX6_play_12 rfl hv0 ?_
      refine bf_iload_n 2 dX6_play_15 rfl rfl ?_
      rcases Decidable.em (bf_ok v2 360) with c2 | c2
      · have hf := (if_pos c2).symm.trans hf
        refine bf_iald dX6_play_16 (kr_6_4 hv0) (by rw [(kl_6_4 hv0)]; exact c2) ?_
        obtain ⟨r4, e3, hf⟩ := bf_bind hf
        have hCe3 := ok_X3_fireBox (Γ := Γ) (ad := ad) hv1 e3
        refine cv_X6_95 3 dX6_play_17 rfl ⟨Nat.le_of_ble_eq_true rfl, Nat.le_of_ble_eq_true rfl⟩ (Nat.le_of_ble_eq_true rfl) hv1 hCe3 ?_
        refine bf_pop dX6_play_20 rfl ?_
        refine bf_iinc 2 (v := _ + (1 : Int32)) (lv2 := [(2, .int _), (0, .ref _), (1, .ref _)]) dX6_play_21 rfl (by rfl) (by decide) rfl ?_
        refine bf_goto 2 dX6_play_24 (by decide) ?_
        refine bf_perm [1, 2, 0] rfl ?_
        exact ih _ _ _ hf
      · exact absurd ((if_neg c2).symm.trans hf) (by simp)
def f_X6_play (o : Nat) (a0 : Nat) (I : Nat → Nat → Int32) (L : Nat → Nat → Int64) : Option (bf_St) :=
  (f_X6_play_2 o a0 (fun I5 L5 => (some (I5, L5))) 400 (0 : Int32) I L)
set_option maxRecDepth 100000 in
set_option maxHeartbeats 4000000 in
theorem ok_X6_play {Γ : bf_Gm} {ad : Nat → Nat} {o : Nat} {a0 : Nat} {I : Nat → Nat → Int32} {L : Nat → Nat → Int64} (hk : bf_kd o = 6) (hk0 : bf_kd a0 = 3) {r : bf_St} (hf : f_X6_play o a0 I L = some r) : bf_Cn Γ 4 mu_X6_play 0 0 [.ref (ad o), .ref (ad a0)] (bf_S ad I L) (fun q h => q = none ∧ h = bf_S ad r.1 r.2) := by
  refine bf_met rfl (Nat.le_of_ble_eq_true rfl) ?_
  unfold f_X6_play at hf
  refine bf_iconst (v := 0) dX6_play_0 (by decide) ?_
  refine bf_istore_n (lv2 := [(2, .int _), (0, .ref _), (1, .ref _)]) dX6_play_1 rfl (by decide) rfl ?_
  refine bf_perm [1, 2, 0] rfl ?_
  refine ok_X6_play_2 hk hk0 (fun I5 L5 hf => ?_) _ _ _ _  hf
  obtain rfl := Option.some.inj hf
  exact bf_vret dX6_play_27 rfl (Nat.le_refl _) (Nat.le_refl _) ⟨rfl, rfl⟩
def f_X6_hold_4 (v0 : Nat) (K : Int32 → (Nat → Nat → Int32) → (Nat → Nat → Int64) → Option (Int32 × bf_St)) : Nat → Int32 → Int32 → (Nat → Nat → Int32) → (Nat → Nat → Int64) → Option (Int32 × bf_St)
  | 0, _, _, _, _ => none
  | n + 1, v1, v2, I, L =>
    (if (8 : Int32) ≤ v2 then (K v1 I L) else (if bf_ok v2 8 then (f_X6_hold_4 v0 K n (v1 + (I (v0 + 3) v2.toNatClampNeg)) (v2 + (1 : Int32)) I L) else none))
set_option maxRecDepth 100000 in
set_option maxHeartbeats 4000000 in
theorem ok_X6_hold_4 {Γ : bf_Gm} {ad : Nat → Nat} {v0 : Nat} (hv0 : bf_kd v0 = 6) {r : Int32 × bf_St} {K : Int32 → (Nat → Nat → Int32) → (Nat → Nat → Int64) → Option (Int32 × bf_St)} (hK : ∀ (v1 : Int32) (I : Nat → Nat → Int32) (L : Nat → Nat → Int64), K v1 I L = some r → bf_Go Γ (bf_rm 0 0 0) mu_X6_hold bf_E0 (bf_Z Γ (fun q h => q = some (.int r.1) ∧ h = bf_S ad r.2.1 r.2.2) 0 0) (0, 0) 25 [(1, .int v1)] [] (bf_S ad I L)) : ∀ (n : Nat) (v1 : Int32) (v2 : Int32) (I : Nat → Nat → Int32) (L : Nat → Nat → Int64), f_X6_hold_4 v0 K n v1 v2 I L = some r → bf_Go Γ (bf_rm 0 0 0) mu_X6_hold bf_E0 (bf_Z Γ (fun q h => q = some (.int r.1) ∧ h = bf_S ad r.2.1 r.2.2) 0 0) (0, 0) 4 [(0, .ref (ad v0)), (1, .int v1), (2, .int v2)] [] (bf_S ad I L) := by
  intro n
  induction n with
  | zero => intro v1 v2 I L hf; exact absurd (show none = some r from hf) (by simp)
  | succ n ih =>
    intro v1 v2 I L hf
    rw [f_X6_hold_4] at hf
    refine bf_iload_n 2 dX6_hold_4 rfl rfl ?_
    refine bf_bipush (v := 8) dX6_hold_5 (by decide) ?_
    refine bf_icmp_ge 25 dX6_hold_7 (by decide) (fun c1 => ?_) (fun c1 => ?_)
    · have hf := (if_pos c1).symm.trans hf
      refine bf_perm [1] rfl ?_
      exact hK _ _ _ hf
    · have hf := (if_neg c1).symm.trans hf
      refine bf_iload_n 1 dX6_hold_10 rfl rfl ?_
      refine bf_aload_n 0 dX6_hold_11 rfl rfl ?_
      refine fg_X6_18 dX6_hold_12 rfl hv0 ?_
      refine bf_iload_n 2 dX6_hold_15 rfl rfl ?_
      rcases Decidable.em (bf_ok v2 8) with c2 | c2
      · have hf := (if_pos c2).symm.trans hf
        refine bf_iald dX6_hold_16 (kr_6_6 hv0) (by rw [(kl_6_6 hv0)]; exact c2) ?_
        refine bf_iadd dX6_hold_17 ?_
        refine bf_istore_n (lv2 := [(1, .int _), (0, .ref _), (2, .int _)]) dX6_hold_18 rfl (by decide) rfl ?_
        refine bf_iinc 2 (v := _ + (1 : Int32)) (lv2 := [(2, .int _), (1, .int _), (0, .ref _)]) dX6_hold_19 rfl (by rfl) (by decide) rfl ?_
        refine bf_goto 4 dX6_hold_22 (by decide) ?_
        refine bf_perm [2, 1, 0] rfl ?_
        exact ih _ _ _ _ hf
      · exact absurd ((if_neg c2).symm.trans hf) (by simp)
def f_X6_hold (o : Nat) (I : Nat → Nat → Int32) (L : Nat → Nat → Int64) : Option (Int32 × bf_St) :=
  (f_X6_hold_4 o (fun k1_3 I3 L3 => (some (k1_3, I3, L3))) 400 (0 : Int32) (0 : Int32) I L)
set_option maxRecDepth 100000 in
set_option maxHeartbeats 4000000 in
theorem ok_X6_hold {Γ : bf_Gm} {ad : Nat → Nat} {o : Nat} {I : Nat → Nat → Int32} {L : Nat → Nat → Int64} (hk : bf_kd o = 6) {r : Int32 × bf_St} (hf : f_X6_hold o I L = some r) : bf_Cn Γ 0 mu_X6_hold 0 0 [.ref (ad o)] (bf_S ad I L) (fun q h => q = some (.int r.1) ∧ h = bf_S ad r.2.1 r.2.2) := by
  refine bf_met rfl (Nat.le_of_ble_eq_true rfl) ?_
  unfold f_X6_hold at hf
  refine bf_iconst (v := 0) dX6_hold_0 (by decide) ?_
  refine bf_istore_n (lv2 := [(1, .int _), (0, .ref _)]) dX6_hold_1 rfl (by decide) rfl ?_
  refine bf_iconst (v := 0) dX6_hold_2 (by decide) ?_
  refine bf_istore_n (lv2 := [(2, .int _), (1, .int _), (0, .ref _)]) dX6_hold_3 rfl (by decide) rfl ?_
  refine bf_perm [2, 1, 0] rfl ?_
  refine ok_X6_hold_4 hk (fun k1_3 I3 L3 hf => ?_) _ _ _ _ _  hf
  refine bf_iload_n 0 dX6_hold_25 rfl rfl ?_
  obtain rfl := Option.some.inj hf
  exact bf_iret dX6_hold_26 rfl (Nat.le_refl _) (Nat.le_refl _) ⟨rfl, rfl⟩
def f_X7_copyFrom (o : Nat) (a0 : Nat) (I : Nat → Nat → Int32) (L : Nat → Nat → Int64) : Option (bf_St) :=
  ((f_X3_copyFrom (o + 1) (a0 + 1) I L).bind (fun r2 => ((f_X5_copyFrom (o + 26) (a0 + 26) r2.1 r2.2).bind (fun r4 => ((f_X5_copyFrom (o + 30) (a0 + 30) r4.1 r4.2).bind (fun r6 => ((f_X5_copyFrom (o + 34) (a0 + 34) r6.1 r6.2).bind (fun r8 => (some (r8.1, r8.2))))))))))
set_option maxRecDepth 100000 in
set_option maxHeartbeats 4000000 in
theorem ok_X7_copyFrom {Γ : bf_Gm} {ad : Nat → Nat} {o : Nat} {a0 : Nat} {I : Nat → Nat → Int32} {L : Nat → Nat → Int64} (hk : bf_kd o = 7) (hk0 : bf_kd a0 = 7) {r : bf_St} (hf : f_X7_copyFrom o a0 I L = some r) : bf_Cn Γ 3 mu_X7_copyFrom 0 0 [.ref (ad o), .ref (ad a0)] (bf_S ad I L) (fun q h => q = none ∧ h = bf_S ad r.1 r.2) := by
  refine bf_met rfl (Nat.le_of_ble_eq_true rfl) ?_
  unfold f_X7_copyFrom at hf
  refine bf_aload_n 0 dX7_copyFrom_0 rfl rfl ?_
  refine fg_X7_12 dX7_copyFrom_1 rfl hk ?_
  refine bf_aload_n 1 dX7_copyFrom_4 rfl rfl ?_
  refine fg_X7_12 dX7_copyFrom_5 rfl hk0 ?_
  obtain ⟨r2, e1, hf⟩ := bf_bind hf
  have hCe1 := ok_X3_copyFrom (Γ := Γ) (ad := ad) (kr_7_0 hk) (kr_7_0 hk0) e1
  refine cv_X7_33 2 dX7_copyFrom_8 rfl ⟨Nat.le_of_ble_eq_true rfl, Nat.le_of_ble_eq_true rfl⟩ (Nat.le_of_ble_eq_true rfl) (kr_7_0 hk) hCe1 ?_
  refine bf_aload_n 0 dX7_copyFrom_11 rfl rfl ?_
  refine fg_X7_23 dX7_copyFrom_12 rfl hk ?_
  refine bf_aload_n 1 dX7_copyFrom_15 rfl rfl ?_
  refine fg_X7_23 dX7_copyFrom_16 rfl hk0 ?_
  obtain ⟨r4, e3, hf⟩ := bf_bind hf
  have hCe3 := ok_X5_copyFrom (Γ := Γ) (ad := ad) (kr_7_1 hk) (kr_7_1 hk0) e3
  refine cv_X7_37 1 dX7_copyFrom_19 rfl ⟨Nat.le_of_ble_eq_true rfl, Nat.le_of_ble_eq_true rfl⟩ (Nat.le_of_ble_eq_true rfl) (kr_7_1 hk) hCe3 ?_
  refine bf_aload_n 0 dX7_copyFrom_22 rfl rfl ?_
  refine fg_X7_27 dX7_copyFrom_23 rfl hk ?_
  refine bf_aload_n 1 dX7_copyFrom_26 rfl rfl ?_
  refine fg_X7_27 dX7_copyFrom_27 rfl hk0 ?_
  obtain ⟨r6, e5, hf⟩ := bf_bind hf
  have hCe5 := ok_X5_copyFrom (Γ := Γ) (ad := ad) (kr_7_2 hk) (kr_7_2 hk0) e5
  refine cv_X7_37 1 dX7_copyFrom_30 rfl ⟨Nat.le_of_ble_eq_true rfl, Nat.le_of_ble_eq_true rfl⟩ (Nat.le_of_ble_eq_true rfl) (kr_7_2 hk) hCe5 ?_
  refine bf_aload_n 0 dX7_copyFrom_33 rfl rfl ?_
  refine fg_X7_30 dX7_copyFrom_34 rfl hk ?_
  refine bf_aload_n 1 dX7_copyFrom_37 rfl rfl ?_
  refine fg_X7_30 dX7_copyFrom_38 rfl hk0 ?_
  obtain ⟨r8, e7, hf⟩ := bf_bind hf
  have hCe7 := ok_X5_copyFrom (Γ := Γ) (ad := ad) (kr_7_3 hk) (kr_7_3 hk0) e7
  refine cv_X7_37 1 dX7_copyFrom_41 rfl ⟨Nat.le_of_ble_eq_true rfl, Nat.le_of_ble_eq_true rfl⟩ (Nat.le_of_ble_eq_true rfl) (kr_7_3 hk) hCe7 ?_
  obtain rfl := Option.some.inj hf
  exact bf_vret dX7_copyFrom_44 rfl (Nat.le_refl _) (Nat.le_refl _) ⟨rfl, rfl⟩
def f_J7_fill_d0a16_6 (v0 : Nat) (v1 : Int64) (v4 : Int32) (K : (Nat → Nat → Int32) → (Nat → Nat → Int64) → Option (bf_St)) : Nat → Int32 → (Nat → Nat → Int32) → (Nat → Nat → Int64) → Option (bf_St)
  | 0, _, _, _ => none
  | n + 1, v3, I, L =>
    (if v4 ≤ v3 then (K I L) else (if bf_ok v3 (bf_le v0) then (f_J7_fill_d0a16_6 v0 v1 v4 K n (v3 + (1 : Int32)) I (bf_u L v0 v3.toNatClampNeg v1)) else none))
set_option maxRecDepth 100000 in
set_option maxHeartbeats 4000000 in
theorem ok_J7_fill_d0a16_6 {Γ : bf_Gm} {ad : Nat → Nat} {v0 : Nat} {v1 : Int64} {v4 : Int32} (hv0 : bf_kd v0 = 15) {r : bf_St} {K : (Nat → Nat → Int32) → (Nat → Nat → Int64) → Option (bf_St)} (hK : ∀ (I : Nat → Nat → Int32) (L : Nat → Nat → Int64), K  I L = some r → bf_Go Γ (bf_rm 0 0 0) mu_J7_fill_d0a16 bf_E0 (bf_Z Γ (fun q h => q = none ∧ h = bf_S ad r.1 r.2) 0 0) (0, 0) 22 [] [] (bf_S ad I L)) : ∀ (n : Nat) (v3 : Int32) (I : Nat → Nat → Int32) (L : Nat → Nat → Int64), f_J7_fill_d0a16_6 v0 v1 v4 K n v3 I L = some r → bf_Go Γ (bf_rm 0 0 0) mu_J7_fill_d0a16 bf_E0 (bf_Z Γ (fun q h => q = none ∧ h = bf_S ad r.1 r.2) 0 0) (0, 0) 6 [(0, .ref (ad v0)), (1, .long v1), (3, .int v3), (4, .int v4)] [] (bf_S ad I L) := by
  intro n
  induction n with
  | zero => intro v3 I L hf; exact absurd (show none = some r from hf) (by simp)
  | succ n ih =>
    intro v3 I L hf
    rw [f_J7_fill_d0a16_6] at hf
    refine bf_iload_n 2 dJ7_fill_d0a16_6 rfl rfl ?_
    refine bf_iload 3 dJ7_fill_d0a16_7 rfl ?_
    refine bf_icmp_ge 22 dJ7_fill_d0a16_9 (by decide) (fun c1 => ?_) (fun c1 => ?_)
    · have hf := (if_pos c1).symm.trans hf
      refine bf_perm [] rfl ?_
      exact hK _ _ hf
    · have hf := (if_neg c1).symm.trans hf
      refine bf_aload_n 0 dJ7_fill_d0a16_12 rfl rfl ?_
      refine bf_iload_n 2 dJ7_fill_d0a16_13 rfl rfl ?_
      refine bf_lload_n 1 dJ7_fill_d0a16_14 rfl rfl ?_
      rcases Decidable.em (bf_ok v3 (bf_le v0)) with c2 | c2
      · have hf := (if_pos c2).symm.trans hf
        refine bf_last dJ7_fill_d0a16_15 hv0 c2 ?_
        refine bf_iinc 2 (v := _ + (1 : Int32)) (lv2 := [(3, .int _), (0, .ref _), (1, .long _), (4, .int _)]) dJ7_fill_d0a16_16 rfl (by rfl) (by decide) rfl ?_
        refine bf_goto 6 dJ7_fill_d0a16_19 (by decide) ?_
        refine bf_perm [1, 2, 0, 3] rfl ?_
        exact ih _ _ _ hf
      · exact absurd ((if_neg c2).symm.trans hf) (by simp)
def f_J7_fill_d0a16 (a0 : Nat) (a1 : Int64) (I : Nat → Nat → Int32) (L : Nat → Nat → Int64) : Option (bf_St) :=
  (f_J7_fill_d0a16_6 a0 a1 (Int32.ofNat (bf_le a0)) (fun I3 L3 => (some (I3, L3))) 400 (0 : Int32) I L)
set_option maxRecDepth 100000 in
set_option maxHeartbeats 4000000 in
theorem ok_J7_fill_d0a16 {Γ : bf_Gm} {ad : Nat → Nat} {a0 : Nat} {a1 : Int64} {I : Nat → Nat → Int32} {L : Nat → Nat → Int64} (hk0 : bf_kd a0 = 15) {r : bf_St} (hf : f_J7_fill_d0a16 a0 a1 I L = some r) : bf_Cn Γ 0 mu_J7_fill_d0a16 0 0 [.ref (ad a0), .long a1] (bf_S ad I L) (fun q h => q = none ∧ h = bf_S ad r.1 r.2) := by
  refine bf_met rfl (Nat.le_of_ble_eq_true rfl) ?_
  unfold f_J7_fill_d0a16 at hf
  refine bf_iconst (v := 0) dJ7_fill_d0a16_0 (by decide) ?_
  refine bf_istore_n (lv2 := [(3, .int _), (0, .ref _), (1, .long _)]) dJ7_fill_d0a16_1 rfl (by decide) rfl ?_
  refine bf_aload_n 1 dJ7_fill_d0a16_2 rfl rfl ?_
  refine bf_alenJ dJ7_fill_d0a16_3 hk0 ?_
  refine bf_istore (lv2 := [(4, .int _), (3, .int _), (0, .ref _), (1, .long _)]) dJ7_fill_d0a16_4 (by decide) rfl ?_
  refine bf_perm [2, 3, 1, 0] rfl ?_
  refine ok_J7_fill_d0a16_6 hk0 (fun I3 L3 hf => ?_) _ _ _ _  hf
  obtain rfl := Option.some.inj hf
  exact bf_vret dJ7_fill_d0a16_22 rfl (Nat.le_refl _) (Nat.le_refl _) ⟨rfl, rfl⟩
def f_X8_become (o : Nat) (a0 : Int32) (a1 : Int32) (I : Nat → Nat → Int32) (L : Nat → Nat → Int64) : Option (bf_St) :=
  ((f_J7_fill_d0a16 (o + 1) (0 : Int64) (bf_u (bf_u I o 0 a0) o 1 (bf_max (0 : Int32) (bf_min a1 (60 : Int32)))) L).bind (fun r2 => (some (r2.1, r2.2))))
set_option maxRecDepth 100000 in
set_option maxHeartbeats 4000000 in
theorem ok_X8_become {Γ : bf_Gm} {ad : Nat → Nat} {o : Nat} {a0 : Int32} {a1 : Int32} {I : Nat → Nat → Int32} {L : Nat → Nat → Int64} (hk : bf_kd o = 8) {r : bf_St} (hf : f_X8_become o a0 a1 I L = some r) : bf_Cn Γ 1 mu_X8_become 0 0 [.ref (ad o), .int a0, .int a1] (bf_S ad I L) (fun q h => q = none ∧ h = bf_S ad r.1 r.2) := by
  refine bf_met rfl (Nat.le_of_ble_eq_true rfl) ?_
  unfold f_X8_become at hf
  refine bf_aload_n 0 dX8_become_0 rfl rfl ?_
  refine bf_iload_n 1 dX8_become_1 rfl rfl ?_
  refine fp_X8_15 dX8_become_2 rfl hk ?_
  refine bf_aload_n 0 dX8_become_5 rfl rfl ?_
  refine bf_iconst (v := 0) dX8_become_6 (by decide) ?_
  refine bf_iload_n 2 dX8_become_7 rfl rfl ?_
  refine bf_bipush (v := 60) dX8_become_8 (by decide) ?_
  refine bf_mmin dX8_become_10 wl_X8_22 wt_Jmin wi_J9 wc_Jmin (Nat.le_of_ble_eq_true rfl) (Nat.le_of_ble_eq_true rfl) (Nat.zero_le _) (Nat.zero_le _) ?_
  refine bf_mmax dX8_become_13 wl_X8_28 wt_Jmax wi_J9 wc_Jmax (Nat.le_of_ble_eq_true rfl) (Nat.le_of_ble_eq_true rfl) (Nat.zero_le _) (Nat.zero_le _) ?_
  refine fp_X8_19 dX8_become_16 rfl hk ?_
  refine bf_aload_n 0 dX8_become_19 rfl rfl ?_
  refine fg_X8_9 dX8_become_20 rfl hk ?_
  refine bf_lconst (v := 0) dX8_become_23 (by decide) ?_
  obtain ⟨r2, e1, hf⟩ := bf_bind hf
  have hCe1 := ok_J7_fill_d0a16 (Γ := Γ) (ad := ad) (kr_8_2 hk) e1
  refine cv_X8_31 0 dX8_become_24 rfl ⟨Nat.le_of_ble_eq_true rfl, Nat.le_of_ble_eq_true rfl⟩ (Nat.le_of_ble_eq_true rfl) hCe1 ?_
  obtain rfl := Option.some.inj hf
  exact bf_vret dX8_become_27 rfl (Nat.le_refl _) (Nat.le_refl _) ⟨rfl, rfl⟩
def f_X8_holds (o : Nat) (a0 : Int32) (I : Nat → Nat → Int32) (L : Nat → Nat → Int64) : Option (Int32 × bf_St) :=
  (if a0 < 0 then (some ((0 : Int32), I, L)) else (if (I o 1) ≤ a0 then (some ((0 : Int32), I, L)) else (some ((1 : Int32), I, L))))
set_option maxRecDepth 100000 in
set_option maxHeartbeats 4000000 in
theorem ok_X8_holds {Γ : bf_Gm} {ad : Nat → Nat} {o : Nat} {a0 : Int32} {I : Nat → Nat → Int32} {L : Nat → Nat → Int64} (hk : bf_kd o = 8) {r : Int32 × bf_St} (hf : f_X8_holds o a0 I L = some r) : bf_Cn Γ 0 mu_X8_holds 0 0 [.ref (ad o), .int a0] (bf_S ad I L) (fun q h => q = some (.int r.1) ∧ h = bf_S ad r.2.1 r.2.2) := by
  refine bf_met rfl (Nat.le_of_ble_eq_true rfl) ?_
  unfold f_X8_holds at hf
  refine bf_iload_n 1 dX8_holds_0 rfl rfl ?_
  refine bf_if_lt 16 dX8_holds_1 (by decide) (fun c1 => ?_) (fun c1 => ?_)
  · have hf := (if_pos c1).symm.trans hf
    refine bf_iconst (v := 0) dX8_holds_16 (by decide) ?_
    obtain rfl := Option.some.inj hf
    exact bf_zret dX8_holds_17 rfl rfl (Nat.le_refl _) (Nat.le_refl _) ⟨rfl, rfl⟩
  · have hf := (if_neg c1).symm.trans hf
    refine bf_iload_n 1 dX8_holds_4 rfl rfl ?_
    refine bf_aload_n 0 dX8_holds_5 rfl rfl ?_
    refine fg_X8_19 dX8_holds_6 rfl hk ?_
    refine bf_icmp_ge 16 dX8_holds_9 (by decide) (fun c2 => ?_) (fun c2 => ?_)
    · have hf := (if_pos c2).symm.trans hf
      refine bf_iconst (v := 0) dX8_holds_16 (by decide) ?_
      obtain rfl := Option.some.inj hf
      exact bf_zret dX8_holds_17 rfl rfl (Nat.le_refl _) (Nat.le_refl _) ⟨rfl, rfl⟩
    · have hf := (if_neg c2).symm.trans hf
      refine bf_iconst (v := 1) dX8_holds_12 (by decide) ?_
      refine bf_goto 17 dX8_holds_13 (by decide) ?_
      obtain rfl := Option.some.inj hf
      exact bf_zret dX8_holds_17 rfl rfl (Nat.le_refl _) (Nat.le_refl _) ⟨rfl, rfl⟩
def f_X8_holdsRun (o : Nat) (a0 : Int32) (a1 : Int32) (I : Nat → Nat → Int32) (L : Nat → Nat → Int64) : Option (Int32 × bf_St) :=
  (if a1 < 0 then (some ((0 : Int32), I, L)) else (if a0 < 0 then (some ((0 : Int32), I, L)) else (if (I o 1) < a1 then (some ((0 : Int32), I, L)) else (if ((I o 1) - a1) < a0 then (some ((0 : Int32), I, L)) else (some ((1 : Int32), I, L))))))
set_option maxRecDepth 100000 in
set_option maxHeartbeats 4000000 in
theorem ok_X8_holdsRun {Γ : bf_Gm} {ad : Nat → Nat} {o : Nat} {a0 : Int32} {a1 : Int32} {I : Nat → Nat → Int32} {L : Nat → Nat → Int64} (hk : bf_kd o = 8) {r : Int32 × bf_St} (hf : f_X8_holdsRun o a0 a1 I L = some r) : bf_Cn Γ 0 mu_X8_holdsRun 0 0 [.ref (ad o), .int a0, .int a1] (bf_S ad I L) (fun q h => q = some (.int r.1) ∧ h = bf_S ad r.2.1 r.2.2) := by
  refine bf_met rfl (Nat.le_of_ble_eq_true rfl) ?_
  unfold f_X8_holdsRun at hf
  refine bf_iload_n 2 dX8_holdsRun_0 rfl rfl ?_
  refine bf_if_lt 30 dX8_holdsRun_1 (by decide) (fun c1 => ?_) (fun c1 => ?_)
  · have hf := (if_pos c1).symm.trans hf
    refine bf_iconst (v := 0) dX8_holdsRun_30 (by decide) ?_
    obtain rfl := Option.some.inj hf
    exact bf_zret dX8_holdsRun_31 rfl rfl (Nat.le_refl _) (Nat.le_refl _) ⟨rfl, rfl⟩
  · have hf := (if_neg c1).symm.trans hf
    refine bf_iload_n 1 dX8_holdsRun_4 rfl rfl ?_
    refine bf_if_lt 30 dX8_holdsRun_5 (by decide) (fun c2 => ?_) (fun c2 => ?_)
    · have hf := (if_pos c2).symm.trans hf
      refine bf_iconst (v := 0) dX8_holdsRun_30 (by decide) ?_
      obtain rfl := Option.some.inj hf
      exact bf_zret dX8_holdsRun_31 rfl rfl (Nat.le_refl _) (Nat.le_refl _) ⟨rfl, rfl⟩
    · have hf := (if_neg c2).symm.trans hf
      refine bf_iload_n 2 dX8_holdsRun_8 rfl rfl ?_
      refine bf_aload_n 0 dX8_holdsRun_9 rfl rfl ?_
      refine fg_X8_19 dX8_holdsRun_10 rfl hk ?_
      refine bf_icmp_gt 30 dX8_holdsRun_13 (by decide) (fun c3 => ?_) (fun c3 => ?_)
      · have hf := (if_pos c3).symm.trans hf
        refine bf_iconst (v := 0) dX8_holdsRun_30 (by decide) ?_
        obtain rfl := Option.some.inj hf
        exact bf_zret dX8_holdsRun_31 rfl rfl (Nat.le_refl _) (Nat.le_refl _) ⟨rfl, rfl⟩
      · have hf := (if_neg c3).symm.trans hf
        refine bf_iload_n 1 dX8_holdsRun_16 rfl rfl ?_
        refine bf_aload_n 0 dX8_holdsRun_17 rfl rfl ?_
        refine fg_X8_19 dX8_holdsRun_18 rfl hk ?_
        refine bf_iload_n 2 dX8_holdsRun_21 rfl rfl ?_
        refine bf_isub dX8_holdsRun_22 ?_
        refine bf_icmp_gt 30 dX8_holdsRun_23 (by decide) (fun c4 => ?_) (fun c4 => ?_)
        · have hf := (if_pos c4).symm.trans hf
          refine bf_iconst (v := 0) dX8_holdsRun_30 (by decide) ?_
          obtain rfl := Option.some.inj hf
          exact bf_zret dX8_holdsRun_31 rfl rfl (Nat.le_refl _) (Nat.le_refl _) ⟨rfl, rfl⟩
        · have hf := (if_neg c4).symm.trans hf
          refine bf_iconst (v := 1) dX8_holdsRun_26 (by decide) ?_
          refine bf_goto 31 dX8_holdsRun_27 (by decide) ?_
          obtain rfl := Option.some.inj hf
          exact bf_zret dX8_holdsRun_31 rfl rfl (Nat.le_refl _) (Nat.le_refl _) ⟨rfl, rfl⟩
def f_X8_itemAt (o : Nat) (a0 : Int32) (I : Nat → Nat → Int32) (L : Nat → Nat → Int64) : Option (Int64 × bf_St) :=
  ((f_X8_holds o a0 I L).bind (fun r2 => (if r2.1 = 0 then (some ((0 : Int64), r2.2.1, r2.2.2)) else (if bf_ok a0 60 then (some ((r2.2.2 (o + 1) a0.toNatClampNeg), r2.2.1, r2.2.2)) else none))))
set_option maxRecDepth 100000 in
set_option maxHeartbeats 4000000 in
theorem ok_X8_itemAt {Γ : bf_Gm} {ad : Nat → Nat} {o : Nat} {a0 : Int32} {I : Nat → Nat → Int32} {L : Nat → Nat → Int64} (hk : bf_kd o = 8) {r : Int64 × bf_St} (hf : f_X8_itemAt o a0 I L = some r) : bf_Cn Γ 1 mu_X8_itemAt 0 0 [.ref (ad o), .int a0] (bf_S ad I L) (fun q h => q = some (.long r.1) ∧ h = bf_S ad r.2.1 r.2.2) := by
  refine bf_met rfl (Nat.le_of_ble_eq_true rfl) ?_
  unfold f_X8_itemAt at hf
  refine bf_aload_n 0 dX8_itemAt_0 rfl rfl ?_
  refine bf_iload_n 1 dX8_itemAt_1 rfl rfl ?_
  obtain ⟨r2, e1, hf⟩ := bf_bind hf
  have hCe1 := ok_X8_holds (Γ := Γ) (ad := ad) hk e1
  refine cv_X8_37 0 dX8_itemAt_2 rfl ⟨Nat.le_of_ble_eq_true rfl, Nat.le_of_ble_eq_true rfl⟩ (Nat.le_of_ble_eq_true rfl) hk hCe1 ?_
  refine bf_if_eq 17 dX8_itemAt_5 (by decide) (fun c3 => ?_) (fun c3 => ?_)
  · have hf := (if_pos c3).symm.trans hf
    refine bf_lconst (v := 0) dX8_itemAt_17 (by decide) ?_
    obtain rfl := Option.some.inj hf
    exact bf_lret dX8_itemAt_18 rfl (Nat.le_refl _) (Nat.le_refl _) ⟨rfl, rfl⟩
  · have hf := (if_neg c3).symm.trans hf
    refine bf_aload_n 0 dX8_itemAt_8 rfl rfl ?_
    refine fg_X8_9 dX8_itemAt_9 rfl hk ?_
    refine bf_iload_n 1 dX8_itemAt_12 rfl rfl ?_
    rcases Decidable.em (bf_ok a0 60) with c4 | c4
    · have hf := (if_pos c4).symm.trans hf
      refine bf_lald dX8_itemAt_13 (kr_8_2 hk) (by rw [(kl_8_2 hk)]; exact c4) ?_
      refine bf_goto 18 dX8_itemAt_14 (by decide) ?_
      obtain rfl := Option.some.inj hf
      exact bf_lret dX8_itemAt_18 rfl (Nat.le_refl _) (Nat.le_refl _) ⟨rfl, rfl⟩
    · exact absurd ((if_neg c4).symm.trans hf) (by simp)
def f_X8_asItem (o : Nat) (a0 : Int64) (I : Nat → Nat → Int32) (L : Nat → Nat → Int64) : Option (Int64 × bf_St) :=
  (if (I o 0) = 0 then (some ((((a0).toInt32).toInt8.toInt32).toInt64, I, L)) else (if (I o 0) = 1 then (some ((((a0).toInt32).toInt16.toInt32).toInt64, I, L)) else (if (I o 0) = 2 then (some (((a0).toInt32).toInt64, I, L)) else (if (I o 0) = 3 then (some (a0, I, L)) else (if (I o 0) = 4 then (if (lg_cmp a0 (0 : Int64)) = 0 then (some ((0 : Int64), I, L)) else (some ((1 : Int64), I, L))) else (some (a0, I, L)))))))
set_option maxRecDepth 100000 in
set_option maxHeartbeats 4000000 in
theorem ok_X8_asItem {Γ : bf_Gm} {ad : Nat → Nat} {o : Nat} {a0 : Int64} {I : Nat → Nat → Int32} {L : Nat → Nat → Int64} (hk : bf_kd o = 8) {r : Int64 × bf_St} (hf : f_X8_asItem o a0 I L = some r) : bf_Cn Γ 0 mu_X8_asItem 0 0 [.ref (ad o), .long a0] (bf_S ad I L) (fun q h => q = some (.long r.1) ∧ h = bf_S ad r.2.1 r.2.2) := by
  refine bf_met rfl (Nat.le_of_ble_eq_true rfl) ?_
  unfold f_X8_asItem at hf
  refine bf_aload_n 0 dX8_asItem_0 rfl rfl ?_
  refine fg_X8_15 dX8_asItem_1 rfl hk ?_
  rcases Decidable.em ((I o 0) = 0) with c1 | c1
  · have hf := (if_pos c1).symm.trans hf
    refine bf_swIn 40 dX8_asItem_4 (by rw [c1]; decide) (by rw [c1]; decide) (by rw [c1]; rfl) (by decide) ?_
    refine bf_lload_n 1 dX8_asItem_40 rfl rfl ?_
    refine bf_l2i dX8_asItem_41 ?_
    refine bf_i2b dX8_asItem_42 ?_
    refine bf_i2l dX8_asItem_43 ?_
    obtain rfl := Option.some.inj hf
    exact bf_lret dX8_asItem_44 rfl (Nat.le_refl _) (Nat.le_refl _) ⟨rfl, rfl⟩
  · have hf := (if_neg c1).symm.trans hf
    rcases Decidable.em ((I o 0) = 1) with c2 | c2
    · have hf := (if_pos c2).symm.trans hf
      refine bf_swIn 45 dX8_asItem_4 (by rw [c2]; decide) (by rw [c2]; decide) (by rw [c2]; rfl) (by decide) ?_
      refine bf_lload_n 1 dX8_asItem_45 rfl rfl ?_
      refine bf_l2i dX8_asItem_46 ?_
      refine bf_i2s dX8_asItem_47 ?_
      refine bf_i2l dX8_asItem_48 ?_
      obtain rfl := Option.some.inj hf
      exact bf_lret dX8_asItem_49 rfl (Nat.le_refl _) (Nat.le_refl _) ⟨rfl, rfl⟩
    · have hf := (if_neg c2).symm.trans hf
      rcases Decidable.em ((I o 0) = 2) with c3 | c3
      · have hf := (if_pos c3).symm.trans hf
        refine bf_swIn 50 dX8_asItem_4 (by rw [c3]; decide) (by rw [c3]; decide) (by rw [c3]; rfl) (by decide) ?_
        refine bf_lload_n 1 dX8_asItem_50 rfl rfl ?_
        refine bf_l2i dX8_asItem_51 ?_
        refine bf_i2l dX8_asItem_52 ?_
        obtain rfl := Option.some.inj hf
        exact bf_lret dX8_asItem_53 rfl (Nat.le_refl _) (Nat.le_refl _) ⟨rfl, rfl⟩
      · have hf := (if_neg c3).symm.trans hf
        rcases Decidable.em ((I o 0) = 3) with c4 | c4
        · have hf := (if_pos c4).symm.trans hf
          refine bf_swIn 66 dX8_asItem_4 (by rw [c4]; decide) (by rw [c4]; decide) (by rw [c4]; rfl) (by decide) ?_
          refine bf_lload_n 1 dX8_asItem_66 rfl rfl ?_
          obtain rfl := Option.some.inj hf
          exact bf_lret dX8_asItem_67 rfl (Nat.le_refl _) (Nat.le_refl _) ⟨rfl, rfl⟩
        · have hf := (if_neg c4).symm.trans hf
          rcases Decidable.em ((I o 0) = 4) with c5 | c5
          · have hf := (if_pos c5).symm.trans hf
            refine bf_swIn 54 dX8_asItem_4 (by rw [c5]; decide) (by rw [c5]; decide) (by rw [c5]; rfl) (by decide) ?_
            refine bf_lload_n 1 dX8_asItem_54 rfl rfl ?_
            refine bf_lconst (v := 0) dX8_asItem_55 (by decide) ?_
            refine bf_lcmp dX8_asItem_56 ?_
            refine bf_if_eq 64 dX8_asItem_57 (by decide) (fun c6 => ?_) (fun c6 => ?_)
            · have hf := (if_pos c6).symm.trans hf
              refine bf_lconst (v := 0) dX8_asItem_64 (by decide) ?_
              obtain rfl := Option.some.inj hf
              exact bf_lret dX8_asItem_65 rfl (Nat.le_refl _) (Nat.le_refl _) ⟨rfl, rfl⟩
            · have hf := (if_neg c6).symm.trans hf
              refine bf_lconst (v := 1) dX8_asItem_60 (by decide) ?_
              refine bf_goto 65 dX8_asItem_61 (by decide) ?_
              obtain rfl := Option.some.inj hf
              exact bf_lret dX8_asItem_65 rfl (Nat.le_refl _) (Nat.le_refl _) ⟨rfl, rfl⟩
          · have hf := (if_neg c5).symm.trans hf
            have c1 : _ ≠ (0 : Int) := bf_nne c1
            have c2 : _ ≠ (1 : Int) := bf_nne c2
            have c3 : _ ≠ (2 : Int) := bf_nne c3
            have c4 : _ ≠ (3 : Int) := bf_nne c4
            have c5 : _ ≠ (4 : Int) := bf_nne c5
            refine bf_swOut 66 dX8_asItem_4 (by omega) (by decide) ?_
            refine bf_lload_n 1 dX8_asItem_66 rfl rfl ?_
            obtain rfl := Option.some.inj hf
            exact bf_lret dX8_asItem_67 rfl (Nat.le_refl _) (Nat.le_refl _) ⟨rfl, rfl⟩
def f_X8_put (o : Nat) (a0 : Int32) (a1 : Int64) (I : Nat → Nat → Int32) (L : Nat → Nat → Int64) : Option (bf_St) :=
  ((f_X8_holds o a0 I L).bind (fun r2 => (if r2.1 = 0 then (some (r2.2.1, r2.2.2)) else ((f_X8_asItem o a1 r2.2.1 r2.2.2).bind (fun r5 => (if bf_ok a0 60 then (some (r5.2.1, (bf_u r5.2.2 (o + 1) a0.toNatClampNeg r5.1))) else none))))))
set_option maxRecDepth 100000 in
set_option maxHeartbeats 4000000 in
theorem ok_X8_put {Γ : bf_Gm} {ad : Nat → Nat} {o : Nat} {a0 : Int32} {a1 : Int64} {I : Nat → Nat → Int32} {L : Nat → Nat → Int64} (hk : bf_kd o = 8) {r : bf_St} (hf : f_X8_put o a0 a1 I L = some r) : bf_Cn Γ 1 mu_X8_put 0 0 [.ref (ad o), .int a0, .long a1] (bf_S ad I L) (fun q h => q = none ∧ h = bf_S ad r.1 r.2) := by
  refine bf_met rfl (Nat.le_of_ble_eq_true rfl) ?_
  unfold f_X8_put at hf
  refine bf_aload_n 0 dX8_put_0 rfl rfl ?_
  refine bf_iload_n 1 dX8_put_1 rfl rfl ?_
  obtain ⟨r2, e1, hf⟩ := bf_bind hf
  have hCe1 := ok_X8_holds (Γ := Γ) (ad := ad) hk e1
  refine cv_X8_37 0 dX8_put_2 rfl ⟨Nat.le_of_ble_eq_true rfl, Nat.le_of_ble_eq_true rfl⟩ (Nat.le_of_ble_eq_true rfl) hk hCe1 ?_
  refine bf_if_eq 19 dX8_put_5 (by decide) (fun c3 => ?_) (fun c3 => ?_)
  · have hf := (if_pos c3).symm.trans hf
    obtain rfl := Option.some.inj hf
    exact bf_vret dX8_put_19 rfl (Nat.le_refl _) (Nat.le_refl _) ⟨rfl, rfl⟩
  · have hf := (if_neg c3).symm.trans hf
    refine bf_aload_n 0 dX8_put_8 rfl rfl ?_
    refine fg_X8_9 dX8_put_9 rfl hk ?_
    refine bf_iload_n 1 dX8_put_12 rfl rfl ?_
    refine bf_aload_n 0 dX8_put_13 rfl rfl ?_
    refine bf_lload_n 2 dX8_put_14 rfl rfl ?_
    obtain ⟨r5, e4, hf⟩ := bf_bind hf
    have hCe4 := ok_X8_asItem (Γ := Γ) (ad := ad) hk e4
    refine cv_X8_41 0 dX8_put_15 rfl ⟨Nat.le_of_ble_eq_true rfl, Nat.le_of_ble_eq_true rfl⟩ (Nat.le_of_ble_eq_true rfl) hk hCe4 ?_
    rcases Decidable.em (bf_ok a0 60) with c6 | c6
    · have hf := (if_pos c6).symm.trans hf
      refine bf_last dX8_put_18 (kr_8_2 hk) (by rw [(kl_8_2 hk)]; exact c6) ?_
      obtain rfl := Option.some.inj hf
      exact bf_vret dX8_put_19 rfl (Nat.le_refl _) (Nat.le_refl _) ⟨rfl, rfl⟩
    · exact absurd ((if_neg c6).symm.trans hf) (by simp)
def f_X9_append (o : Nat) (a0 : Int32) (I : Nat → Nat → Int32) (L : Nat → Nat → Int64) : Option (bf_St) :=
  (if (100 : Int32) ≤ (I o 0) then (some (I, L)) else (if bf_ok (I o 0) 100 then (some ((bf_u (bf_u I (o + 1) (I o 0).toNatClampNeg (vp_nar .byte a0)) o 0 (((bf_u I (o + 1) (I o 0).toNatClampNeg (vp_nar .byte a0)) o 0) + (1 : Int32))), L)) else none))
set_option maxRecDepth 100000 in
set_option maxHeartbeats 4000000 in
theorem ok_X9_append {Γ : bf_Gm} {ad : Nat → Nat} {o : Nat} {a0 : Int32} {I : Nat → Nat → Int32} {L : Nat → Nat → Int64} (hk : bf_kd o = 9) {r : bf_St} (hf : f_X9_append o a0 I L = some r) : bf_Cn Γ 0 mu_X9_append 0 0 [.ref (ad o), .int a0] (bf_S ad I L) (fun q h => q = none ∧ h = bf_S ad r.1 r.2) := by
  refine bf_met rfl (Nat.le_of_ble_eq_true rfl) ?_
  unfold f_X9_append at hf
  refine bf_aload_n 0 dX9_append_0 rfl rfl ?_
  refine fg_X9_9 dX9_append_1 rfl hk ?_
  refine bf_bipush (v := 100) dX9_append_4 (by decide) ?_
  refine bf_icmp_ge 29 dX9_append_6 (by decide) (fun c1 => ?_) (fun c1 => ?_)
  · have hf := (if_pos c1).symm.trans hf
    obtain rfl := Option.some.inj hf
    exact bf_vret dX9_append_29 rfl (Nat.le_refl _) (Nat.le_refl _) ⟨rfl, rfl⟩
  · have hf := (if_neg c1).symm.trans hf
    refine bf_aload_n 0 dX9_append_9 rfl rfl ?_
    refine fg_X9_15 dX9_append_10 rfl hk ?_
    refine bf_aload_n 0 dX9_append_13 rfl rfl ?_
    refine fg_X9_9 dX9_append_14 rfl hk ?_
    refine bf_iload_n 1 dX9_append_17 rfl rfl ?_
    rcases Decidable.em (bf_ok (I o 0) 100) with c2 | c2
    · have hf := (if_pos c2).symm.trans hf
      refine bf_bast dX9_append_18 (kr_9_3 hk) (by rw [(kl_9_3 hk)]; exact c2) ?_
      refine bf_aload_n 0 dX9_append_19 rfl rfl ?_
      refine bf_dup dX9_append_20 rfl ?_
      refine fg_X9_9 dX9_append_21 rfl hk ?_
      refine bf_iconst (v := 1) dX9_append_24 (by decide) ?_
      refine bf_iadd dX9_append_25 ?_
      refine fp_X9_9 dX9_append_26 rfl hk ?_
      obtain rfl := Option.some.inj hf
      exact bf_vret dX9_append_29 rfl (Nat.le_refl _) (Nat.le_refl _) ⟨rfl, rfl⟩
    · exact absurd ((if_neg c2).symm.trans hf) (by simp)
def f_X9_readDigit (o : Nat) (a0 : Int32) (a1 : Int32) (I : Nat → Nat → Int32) (L : Nat → Nat → Int64) : Option (Int32 × bf_St) :=
  (if (I o 0) ≤ (I o 4) then (some ((-1 : Int32), I, L)) else (if (I o 4) < (100 : Int32) then (if bf_ok (I o 4) 100 then (if ((I (o + 1) (I o 4).toNatClampNeg) - (48 : Int32)) < a0 then (some ((-1 : Int32), I, L)) else (if ((I (o + 1) (I o 4).toNatClampNeg) - (48 : Int32)) ≤ a1 then (some (((I (o + 1) (I o 4).toNatClampNeg) - (48 : Int32)), (bf_u I o 4 ((I o 4) + (1 : Int32))), L)) else (some ((-1 : Int32), I, L)))) else none) else (some ((-1 : Int32), I, L))))
set_option maxRecDepth 100000 in
set_option maxHeartbeats 4000000 in
theorem ok_X9_readDigit {Γ : bf_Gm} {ad : Nat → Nat} {o : Nat} {a0 : Int32} {a1 : Int32} {I : Nat → Nat → Int32} {L : Nat → Nat → Int64} (hk : bf_kd o = 9) {r : Int32 × bf_St} (hf : f_X9_readDigit o a0 a1 I L = some r) : bf_Cn Γ 0 mu_X9_readDigit 0 0 [.ref (ad o), .int a0, .int a1] (bf_S ad I L) (fun q h => q = some (.int r.1) ∧ h = bf_S ad r.2.1 r.2.2) := by
  refine bf_met rfl (Nat.le_of_ble_eq_true rfl) ?_
  unfold f_X9_readDigit at hf
  refine bf_aload_n 0 dX9_readDigit_0 rfl rfl ?_
  refine fg_X9_26 dX9_readDigit_1 rfl hk ?_
  refine bf_aload_n 0 dX9_readDigit_4 rfl rfl ?_
  refine fg_X9_9 dX9_readDigit_5 rfl hk ?_
  refine bf_icmp_ge 20 dX9_readDigit_8 (by decide) (fun c1 => ?_) (fun c1 => ?_)
  · have hf := (if_pos c1).symm.trans hf
    refine bf_iconst (v := -1) dX9_readDigit_20 (by decide) ?_
    obtain rfl := Option.some.inj hf
    exact bf_iret dX9_readDigit_21 rfl (Nat.le_refl _) (Nat.le_refl _) ⟨rfl, rfl⟩
  · have hf := (if_neg c1).symm.trans hf
    refine bf_aload_n 0 dX9_readDigit_11 rfl rfl ?_
    refine fg_X9_26 dX9_readDigit_12 rfl hk ?_
    refine bf_bipush (v := 100) dX9_readDigit_15 (by decide) ?_
    refine bf_icmp_lt 22 dX9_readDigit_17 (by decide) (fun c2 => ?_) (fun c2 => ?_)
    · have hf := (if_pos c2).symm.trans hf
      refine bf_aload_n 0 dX9_readDigit_22 rfl rfl ?_
      refine fg_X9_15 dX9_readDigit_23 rfl hk ?_
      refine bf_aload_n 0 dX9_readDigit_26 rfl rfl ?_
      refine fg_X9_26 dX9_readDigit_27 rfl hk ?_
      rcases Decidable.em (bf_ok (I o 4) 100) with c3 | c3
      · have hf := (if_pos c3).symm.trans hf
        refine bf_bald dX9_readDigit_30 (kr_9_3 hk) (by rw [(kl_9_3 hk)]; exact c3) ?_
        refine bf_bipush (v := 48) dX9_readDigit_31 (by decide) ?_
        refine bf_isub dX9_readDigit_33 ?_
        refine bf_istore_n (lv2 := [(3, .int _), (0, .ref _), (1, .int _), (2, .int _)]) dX9_readDigit_34 rfl (by decide) rfl ?_
        refine bf_iload_n 0 dX9_readDigit_35 rfl rfl ?_
        refine bf_iload_n 2 dX9_readDigit_36 rfl rfl ?_
        refine bf_icmp_lt 45 dX9_readDigit_37 (by decide) (fun c4 => ?_) (fun c4 => ?_)
        · have hf := (if_pos c4).symm.trans hf
          refine bf_iconst (v := -1) dX9_readDigit_45 (by decide) ?_
          obtain rfl := Option.some.inj hf
          exact bf_iret dX9_readDigit_46 rfl (Nat.le_refl _) (Nat.le_refl _) ⟨rfl, rfl⟩
        · have hf := (if_neg c4).symm.trans hf
          refine bf_iload_n 0 dX9_readDigit_40 rfl rfl ?_
          refine bf_iload_n 3 dX9_readDigit_41 rfl rfl ?_
          refine bf_icmp_le 47 dX9_readDigit_42 (by decide) (fun c5 => ?_) (fun c5 => ?_)
          · have hf := (if_pos c5).symm.trans hf
            refine bf_aload_n 1 dX9_readDigit_47 rfl rfl ?_
            refine bf_dup dX9_readDigit_48 rfl ?_
            refine fg_X9_26 dX9_readDigit_49 rfl hk ?_
            refine bf_iconst (v := 1) dX9_readDigit_52 (by decide) ?_
            refine bf_iadd dX9_readDigit_53 ?_
            refine fp_X9_26 dX9_readDigit_54 rfl hk ?_
            refine bf_iload_n 0 dX9_readDigit_57 rfl rfl ?_
            obtain rfl := Option.some.inj hf
            exact bf_iret dX9_readDigit_58 rfl (Nat.le_refl _) (Nat.le_refl _) ⟨rfl, rfl⟩
          · have hf := (if_neg c5).symm.trans hf
            refine bf_iconst (v := -1) dX9_readDigit_45 (by decide) ?_
            obtain rfl := Option.some.inj hf
            exact bf_iret dX9_readDigit_46 rfl (Nat.le_refl _) (Nat.le_refl _) ⟨rfl, rfl⟩
      · exact absurd ((if_neg c3).symm.trans hf) (by simp)
    · have hf := (if_neg c2).symm.trans hf
      refine bf_iconst (v := -1) dX9_readDigit_20 (by decide) ?_
      obtain rfl := Option.some.inj hf
      exact bf_iret dX9_readDigit_21 rfl (Nat.le_refl _) (Nat.le_refl _) ⟨rfl, rfl⟩
def f_X9_skip (o : Nat) (a0 : Int32) (I : Nat → Nat → Int32) (L : Nat → Nat → Int64) : Option (Int32 × bf_St) :=
  (if (I o 0) ≤ (I o 4) then (some ((0 : Int32), I, L)) else (if (100 : Int32) ≤ (I o 4) then (some ((0 : Int32), I, L)) else (if bf_ok (I o 4) 100 then (if (I (o + 1) (I o 4).toNatClampNeg) = a0 then (some ((1 : Int32), (bf_u I o 4 ((I o 4) + (1 : Int32))), L)) else (some ((0 : Int32), I, L))) else none)))
set_option maxRecDepth 100000 in
set_option maxHeartbeats 4000000 in
theorem ok_X9_skip {Γ : bf_Gm} {ad : Nat → Nat} {o : Nat} {a0 : Int32} {I : Nat → Nat → Int32} {L : Nat → Nat → Int64} (hk : bf_kd o = 9) {r : Int32 × bf_St} (hf : f_X9_skip o a0 I L = some r) : bf_Cn Γ 0 mu_X9_skip 0 0 [.ref (ad o), .int a0] (bf_S ad I L) (fun q h => q = some (.int r.1) ∧ h = bf_S ad r.2.1 r.2.2) := by
  refine bf_met rfl (Nat.le_of_ble_eq_true rfl) ?_
  unfold f_X9_skip at hf
  refine bf_aload_n 0 dX9_skip_0 rfl rfl ?_
  refine fg_X9_26 dX9_skip_1 rfl hk ?_
  refine bf_aload_n 0 dX9_skip_4 rfl rfl ?_
  refine fg_X9_9 dX9_skip_5 rfl hk ?_
  refine bf_icmp_ge 33 dX9_skip_8 (by decide) (fun c1 => ?_) (fun c1 => ?_)
  · have hf := (if_pos c1).symm.trans hf
    refine bf_iconst (v := 0) dX9_skip_33 (by decide) ?_
    obtain rfl := Option.some.inj hf
    exact bf_zret dX9_skip_34 rfl rfl (Nat.le_refl _) (Nat.le_refl _) ⟨rfl, rfl⟩
  · have hf := (if_neg c1).symm.trans hf
    refine bf_aload_n 0 dX9_skip_11 rfl rfl ?_
    refine fg_X9_26 dX9_skip_12 rfl hk ?_
    refine bf_bipush (v := 100) dX9_skip_15 (by decide) ?_
    refine bf_icmp_ge 33 dX9_skip_17 (by decide) (fun c2 => ?_) (fun c2 => ?_)
    · have hf := (if_pos c2).symm.trans hf
      refine bf_iconst (v := 0) dX9_skip_33 (by decide) ?_
      obtain rfl := Option.some.inj hf
      exact bf_zret dX9_skip_34 rfl rfl (Nat.le_refl _) (Nat.le_refl _) ⟨rfl, rfl⟩
    · have hf := (if_neg c2).symm.trans hf
      refine bf_aload_n 0 dX9_skip_20 rfl rfl ?_
      refine fg_X9_15 dX9_skip_21 rfl hk ?_
      refine bf_aload_n 0 dX9_skip_24 rfl rfl ?_
      refine fg_X9_26 dX9_skip_25 rfl hk ?_
      rcases Decidable.em (bf_ok (I o 4) 100) with c3 | c3
      · have hf := (if_pos c3).symm.trans hf
        refine bf_bald dX9_skip_28 (kr_9_3 hk) (by rw [(kl_9_3 hk)]; exact c3) ?_
        refine bf_iload_n 1 dX9_skip_29 rfl rfl ?_
        refine bf_icmp_eq 35 dX9_skip_30 (by decide) (fun c4 => ?_) (fun c4 => ?_)
        · have hf := (if_pos c4).symm.trans hf
          refine bf_aload_n 0 dX9_skip_35 rfl rfl ?_
          refine bf_dup dX9_skip_36 rfl ?_
          refine fg_X9_26 dX9_skip_37 rfl hk ?_
          refine bf_iconst (v := 1) dX9_skip_40 (by decide) ?_
          refine bf_iadd dX9_skip_41 ?_
          refine fp_X9_26 dX9_skip_42 rfl hk ?_
          refine bf_iconst (v := 1) dX9_skip_45 (by decide) ?_
          obtain rfl := Option.some.inj hf
          exact bf_zret dX9_skip_46 rfl rfl (Nat.le_refl _) (Nat.le_refl _) ⟨rfl, rfl⟩
        · have hf := (if_neg c4).symm.trans hf
          refine bf_iconst (v := 0) dX9_skip_33 (by decide) ?_
          obtain rfl := Option.some.inj hf
          exact bf_zret dX9_skip_34 rfl rfl (Nat.le_refl _) (Nat.le_refl _) ⟨rfl, rfl⟩
      · exact absurd ((if_neg c3).symm.trans hf) (by simp)
def f_X9_readNumber_10 (v0 : Nat) (K : Int32 → (Nat → Nat → Int32) → (Nat → Nat → Int64) → Option (Int32 × bf_St)) : Nat → Int32 → Int32 → (Nat → Nat → Int32) → (Nat → Nat → Int64) → Option (Int32 × bf_St)
  | 0, _, _, _, _ => none
  | n + 1, v1, v2, I, L =>
    (if (3 : Int32) ≤ v2 then (K v1 I L) else (if v1 = (-1 : Int32) then (K v1 I L) else ((f_X9_readDigit v0 (0 : Int32) (9 : Int32) I L).bind (fun r6 => (if r6.1 = (-1 : Int32) then (some (v1, r6.2.1, r6.2.2)) else (f_X9_readNumber_10 v0 K n ((v1 * (10 : Int32)) + r6.1) (v2 + (1 : Int32)) r6.2.1 r6.2.2))))))
set_option maxRecDepth 100000 in
set_option maxHeartbeats 4000000 in
theorem ok_X9_readNumber_10 {Γ : bf_Gm} {ad : Nat → Nat} {v0 : Nat} (hv0 : bf_kd v0 = 9) {r : Int32 × bf_St} {K : Int32 → (Nat → Nat → Int32) → (Nat → Nat → Int64) → Option (Int32 × bf_St)} (hK : ∀ (v1 : Int32) (I : Nat → Nat → Int32) (L : Nat → Nat → Int64), K v1 I L = some r → bf_Go Γ (bf_rm 1 0 0) mu_X9_readNumber bf_E0 (bf_Z Γ (fun q h => q = some (.int r.1) ∧ h = bf_S ad r.2.1 r.2.2) 0 0) (0, 0) 48 [(1, .int v1)] [] (bf_S ad I L)) : ∀ (n : Nat) (v1 : Int32) (v2 : Int32) (I : Nat → Nat → Int32) (L : Nat → Nat → Int64), f_X9_readNumber_10 v0 K n v1 v2 I L = some r → bf_Go Γ (bf_rm 1 0 0) mu_X9_readNumber bf_E0 (bf_Z Γ (fun q h => q = some (.int r.1) ∧ h = bf_S ad r.2.1 r.2.2) 0 0) (0, 0) 10 [(0, .ref (ad v0)), (1, .int v1), (2, .int v2)] [] (bf_S ad I L) := by
  intro n
  induction n with
  | zero => intro v1 v2 I L hf; exact absurd (show none = some r from hf) (by simp)
  | succ n ih =>
    intro v1 v2 I L hf
    rw [f_X9_readNumber_10] at hf
    refine bf_iload_n 2 dX9_readNumber_10 rfl rfl ?_
    refine bf_iconst (v := 3) dX9_readNumber_11 (by decide) ?_
    refine bf_icmp_ge 48 dX9_readNumber_12 (by decide) (fun c3 => ?_) (fun c3 => ?_)
    · have hf := (if_pos c3).symm.trans hf
      refine bf_perm [1] rfl ?_
      exact hK _ _ _ hf
    · have hf := (if_neg c3).symm.trans hf
      refine bf_iload_n 1 dX9_readNumber_15 rfl rfl ?_
      refine bf_iconst (v := -1) dX9_readNumber_16 (by decide) ?_
      refine bf_icmp_eq 48 dX9_readNumber_17 (by decide) (fun c4 => ?_) (fun c4 => ?_)
      · have hf := (if_pos c4).symm.trans hf
        refine bf_perm [1] rfl ?_
        exact hK _ _ _ hf
      · have hf := (if_neg c4).symm.trans hf
        refine bf_aload_n 0 dX9_readNumber_20 rfl rfl ?_
        refine bf_iconst (v := 0) dX9_readNumber_21 (by decide) ?_
        refine bf_bipush (v := 9) dX9_readNumber_22 (by decide) ?_
        obtain ⟨r6, e5, hf⟩ := bf_bind hf
        have hCe5 := ok_X9_readDigit (Γ := Γ) (ad := ad) hv0 e5
        refine cv_X9_43 0 dX9_readNumber_24 rfl ⟨Nat.le_of_ble_eq_true rfl, Nat.le_of_ble_eq_true rfl⟩ (Nat.le_of_ble_eq_true rfl) hv0 hCe5 ?_
        refine bf_istore_n (lv2 := [(3, .int _), (0, .ref _), (1, .int _), (2, .int _)]) dX9_readNumber_27 rfl (by decide) rfl ?_
        refine bf_iload_n 0 dX9_readNumber_28 rfl rfl ?_
        refine bf_iconst (v := -1) dX9_readNumber_29 (by decide) ?_
        refine bf_icmp_ne 35 dX9_readNumber_30 (by decide) (fun c7 => ?_) (fun c7 => ?_)
        · have hf := (if_neg c7).symm.trans hf
          refine bf_iload_n 2 dX9_readNumber_35 rfl rfl ?_
          refine bf_bipush (v := 10) dX9_readNumber_36 (by decide) ?_
          refine bf_imul dX9_readNumber_38 ?_
          refine bf_iload_n 0 dX9_readNumber_39 rfl rfl ?_
          refine bf_iadd dX9_readNumber_40 ?_
          refine bf_istore_n (lv2 := [(1, .int _), (3, .int _), (0, .ref _), (2, .int _)]) dX9_readNumber_41 rfl (by decide) rfl ?_
          refine bf_iinc 3 (v := _ + (1 : Int32)) (lv2 := [(2, .int _), (1, .int _), (3, .int _), (0, .ref _)]) dX9_readNumber_42 rfl (by rfl) (by decide) rfl ?_
          refine bf_goto 10 dX9_readNumber_45 (by decide) ?_
          refine bf_perm [3, 1, 0] rfl ?_
          exact ih _ _ _ _ hf
        · have hf := (if_pos c7).symm.trans hf
          refine bf_iload_n 2 dX9_readNumber_33 rfl rfl ?_
          obtain rfl := Option.some.inj hf
          exact bf_iret dX9_readNumber_34 rfl (Nat.le_refl _) (Nat.le_refl _) ⟨rfl, rfl⟩
def f_X9_readNumber (o : Nat) (I : Nat → Nat → Int32) (L : Nat → Nat → Int64) : Option (Int32 × bf_St) :=
  ((f_X9_readDigit o (0 : Int32) (9 : Int32) I L).bind (fun r2 => (f_X9_readNumber_10 o (fun k1_8 I8 L8 => (some (k1_8, I8, L8))) 400 r2.1 (1 : Int32) r2.2.1 r2.2.2)))
set_option maxRecDepth 100000 in
set_option maxHeartbeats 4000000 in
theorem ok_X9_readNumber {Γ : bf_Gm} {ad : Nat → Nat} {o : Nat} {I : Nat → Nat → Int32} {L : Nat → Nat → Int64} (hk : bf_kd o = 9) {r : Int32 × bf_St} (hf : f_X9_readNumber o I L = some r) : bf_Cn Γ 1 mu_X9_readNumber 0 0 [.ref (ad o)] (bf_S ad I L) (fun q h => q = some (.int r.1) ∧ h = bf_S ad r.2.1 r.2.2) := by
  refine bf_met rfl (Nat.le_of_ble_eq_true rfl) ?_
  unfold f_X9_readNumber at hf
  refine bf_aload_n 0 dX9_readNumber_0 rfl rfl ?_
  refine bf_iconst (v := 0) dX9_readNumber_1 (by decide) ?_
  refine bf_bipush (v := 9) dX9_readNumber_2 (by decide) ?_
  obtain ⟨r2, e1, hf⟩ := bf_bind hf
  have hCe1 := ok_X9_readDigit (Γ := Γ) (ad := ad) hk e1
  refine cv_X9_43 0 dX9_readNumber_4 rfl ⟨Nat.le_of_ble_eq_true rfl, Nat.le_of_ble_eq_true rfl⟩ (Nat.le_of_ble_eq_true rfl) hk hCe1 ?_
  refine bf_istore_n (lv2 := [(1, .int _), (0, .ref _)]) dX9_readNumber_7 rfl (by decide) rfl ?_
  refine bf_iconst (v := 1) dX9_readNumber_8 (by decide) ?_
  refine bf_istore_n (lv2 := [(2, .int _), (1, .int _), (0, .ref _)]) dX9_readNumber_9 rfl (by decide) rfl ?_
  refine bf_perm [2, 1, 0] rfl ?_
  refine ok_X9_readNumber_10 hk (fun k1_8 I8 L8 hf => ?_) _ _ _ _ _  hf
  refine bf_iload_n 0 dX9_readNumber_48 rfl rfl ?_
  obtain rfl := Option.some.inj hf
  exact bf_iret dX9_readNumber_49 rfl (Nat.le_refl _) (Nat.le_refl _) ⟨rfl, rfl⟩
def f_X9_readTokens_2 (v0 : Nat) (v1 : Nat) (K : (Nat → Nat → Int32) → (Nat → Nat → Int64) → Option (Int32 × bf_St)) : Nat → Int32 → (Nat → Nat → Int32) → (Nat → Nat → Int64) → Option (Int32 × bf_St)
  | 0, _, _, _ => none
  | n + 1, v2, I, L =>
    (if (6 : Int32) ≤ v2 then (K I L) else ((f_X9_readNumber v0 I L).bind (fun r3 => (if r3.1 = (-1 : Int32) then (some ((0 : Int32), r3.2.1, r3.2.2)) else (if bf_ok v2 6 then (if (6 : Int32) ≤ ((bf_u (bf_u r3.2.1 (v1 + 1) v2.toNatClampNeg r3.1) v1 4 (v2 + (1 : Int32))) v1 4) then (some ((1 : Int32), (bf_u (bf_u r3.2.1 (v1 + 1) v2.toNatClampNeg r3.1) v1 4 (v2 + (1 : Int32))), r3.2.2)) else ((f_X9_skip v0 (44 : Int32) (bf_u (bf_u r3.2.1 (v1 + 1) v2.toNatClampNeg r3.1) v1 4 (v2 + (1 : Int32))) r3.2.2).bind (fun r8 => (if r8.1 = 0 then (some ((1 : Int32), r8.2.1, r8.2.2)) else (f_X9_readTokens_2 v0 v1 K n (v2 + (1 : Int32)) r8.2.1 r8.2.2))))) else none)))))
set_option maxRecDepth 100000 in
set_option maxHeartbeats 4000000 in
theorem ok_X9_readTokens_2 {Γ : bf_Gm} {ad : Nat → Nat} {v0 : Nat} {v1 : Nat} (hv0 : bf_kd v0 = 9) (hv1 : bf_kd v1 = 1) {r : Int32 × bf_St} {K : (Nat → Nat → Int32) → (Nat → Nat → Int64) → Option (Int32 × bf_St)} (hK : ∀ (I : Nat → Nat → Int32) (L : Nat → Nat → Int64), K  I L = some r → bf_Go Γ (bf_rm 2 0 0) mu_X9_readTokens bf_E0 (bf_Z Γ (fun q h => q = some (.int r.1) ∧ h = bf_S ad r.2.1 r.2.2) 0 0) (0, 0) 60 [] [] (bf_S ad I L)) : ∀ (n : Nat) (v2 : Int32) (I : Nat → Nat → Int32) (L : Nat → Nat → Int64), f_X9_readTokens_2 v0 v1 K n v2 I L = some r → bf_Go Γ (bf_rm 2 0 0) mu_X9_readTokens bf_E0 (bf_Z Γ (fun q h => q = some (.int r.1) ∧ h = bf_S ad r.2.1 r.2.2) 0 0) (0, 0) 2 [(0, .ref (ad v0)), (1, .ref (ad v1)), (2, .int v2)] [] (bf_S ad I L) := by
  intro n
  induction n with
  | zero => intro v2 I L hf; exact absurd (show none = some r from hf) (by simp)
  | succ n ih =>
    intro v2 I L hf
    rw [f_X9_readTokens_2] at hf
    refine bf_iload_n 2 dX9_readTokens_2 rfl rfl ?_
    refine bf_bipush (v := 6) dX9_readTokens_3 (by decide) ?_
    refine bf_icmp_ge 60 dX9_readTokens_5 (by decide) (fun c1 => ?_) (fun c1 => ?_)
    · have hf := (if_pos c1).symm.trans hf
      refine bf_perm [] rfl ?_
      exact hK _ _ hf
    · have hf := (if_neg c1).symm.trans hf
      refine bf_aload_n 0 dX9_readTokens_8 rfl rfl ?_
      obtain ⟨r3, e2, hf⟩ := bf_bind hf
      have hCe2 := ok_X9_readNumber (Γ := Γ) (ad := ad) hv0 e2
      refine cv_X9_62 1 dX9_readTokens_9 rfl ⟨Nat.le_of_ble_eq_true rfl, Nat.le_of_ble_eq_true rfl⟩ (Nat.le_of_ble_eq_true rfl) hv0 hCe2 ?_
      refine bf_istore_n (lv2 := [(3, .int _), (0, .ref _), (1, .ref _), (2, .int _)]) dX9_readTokens_12 rfl (by decide) rfl ?_
      refine bf_iload_n 0 dX9_readTokens_13 rfl rfl ?_
      refine bf_iconst (v := -1) dX9_readTokens_14 (by decide) ?_
      refine bf_icmp_ne 20 dX9_readTokens_15 (by decide) (fun c4 => ?_) (fun c4 => ?_)
      · have hf := (if_neg c4).symm.trans hf
        refine bf_aload_n 2 dX9_readTokens_20 rfl rfl ?_
        refine fg_X9_66 dX9_readTokens_21 rfl hv1 ?_
        refine bf_iload_n 3 dX9_readTokens_24 rfl rfl ?_
        refine bf_iload_n 0 dX9_readTokens_25 rfl rfl ?_
        rcases Decidable.em (bf_ok v2 6) with c5 | c5
        · have hf := (if_pos c5).symm.trans hf
          refine bf_iast dX9_readTokens_26 (kr_1_5 hv1) (by rw [(kl_1_5 hv1)]; exact c5) ?_
          refine bf_aload_n 2 dX9_readTokens_27 rfl rfl ?_
          refine bf_iload_n 3 dX9_readTokens_28 rfl rfl ?_
          refine bf_iconst (v := 1) dX9_readTokens_29 (by decide) ?_
          refine bf_iadd dX9_readTokens_30 ?_
          refine fp_X9_40 dX9_readTokens_31 rfl hv1 ?_
          refine bf_aload_n 2 dX9_readTokens_34 rfl rfl ?_
          refine fg_X9_40 dX9_readTokens_35 rfl hv1 ?_
          refine bf_bipush (v := 6) dX9_readTokens_38 (by decide) ?_
          refine bf_icmp_ge 52 dX9_readTokens_40 (by decide) (fun c6 => ?_) (fun c6 => ?_)
          · have hf := (if_pos c6).symm.trans hf
            refine bf_iconst (v := 1) dX9_readTokens_52 (by decide) ?_
            obtain rfl := Option.some.inj hf
            exact bf_zret dX9_readTokens_53 rfl rfl (Nat.le_refl _) (Nat.le_refl _) ⟨rfl, rfl⟩
          · have hf := (if_neg c6).symm.trans hf
            refine bf_aload_n 1 dX9_readTokens_43 rfl rfl ?_
            refine bf_bipush (v := 44) dX9_readTokens_44 (by decide) ?_
            obtain ⟨r8, e7, hf⟩ := bf_bind hf
            have hCe7 := ok_X9_skip (Γ := Γ) (ad := ad) hv0 e7
            refine cv_X9_36 0 dX9_readTokens_46 rfl ⟨Nat.le_of_ble_eq_true rfl, Nat.le_of_ble_eq_true rfl⟩ (Nat.le_of_ble_eq_true rfl) hv0 hCe7 ?_
            refine bf_if_ne 54 dX9_readTokens_49 (by decide) (fun c9 => ?_) (fun c9 => ?_)
            · have hf := (if_neg c9).symm.trans hf
              refine bf_iinc 3 (v := _ + (1 : Int32)) (lv2 := [(2, .int _), (3, .int _), (0, .ref _), (1, .ref _)]) dX9_readTokens_54 rfl (by rfl) (by decide) rfl ?_
              refine bf_goto 2 dX9_readTokens_57 (by decide) ?_
              refine bf_perm [2, 3, 0] rfl ?_
              exact ih _ _ _ hf
            · have hf := (if_pos c9).symm.trans hf
              refine bf_iconst (v := 1) dX9_readTokens_52 (by decide) ?_
              obtain rfl := Option.some.inj hf
              exact bf_zret dX9_readTokens_53 rfl rfl (Nat.le_refl _) (Nat.le_refl _) ⟨rfl, rfl⟩
        · exact absurd ((if_neg c5).symm.trans hf) (by simp)
      · have hf := (if_pos c4).symm.trans hf
        refine bf_iconst (v := 0) dX9_readTokens_18 (by decide) ?_
        obtain rfl := Option.some.inj hf
        exact bf_zret dX9_readTokens_19 rfl rfl (Nat.le_refl _) (Nat.le_refl _) ⟨rfl, rfl⟩
def f_X9_readTokens (o : Nat) (a0 : Nat) (I : Nat → Nat → Int32) (L : Nat → Nat → Int64) : Option (Int32 × bf_St) :=
  (f_X9_readTokens_2 o a0 (fun I10 L10 => (some ((1 : Int32), I10, L10))) 400 (0 : Int32) I L)
set_option maxRecDepth 100000 in
set_option maxHeartbeats 4000000 in
theorem ok_X9_readTokens {Γ : bf_Gm} {ad : Nat → Nat} {o : Nat} {a0 : Nat} {I : Nat → Nat → Int32} {L : Nat → Nat → Int64} (hk : bf_kd o = 9) (hk0 : bf_kd a0 = 1) {r : Int32 × bf_St} (hf : f_X9_readTokens o a0 I L = some r) : bf_Cn Γ 2 mu_X9_readTokens 0 0 [.ref (ad o), .ref (ad a0)] (bf_S ad I L) (fun q h => q = some (.int r.1) ∧ h = bf_S ad r.2.1 r.2.2) := by
  refine bf_met rfl (Nat.le_of_ble_eq_true rfl) ?_
  unfold f_X9_readTokens at hf
  refine bf_iconst (v := 0) dX9_readTokens_0 (by decide) ?_
  refine bf_istore_n (lv2 := [(2, .int _), (0, .ref _), (1, .ref _)]) dX9_readTokens_1 rfl (by decide) rfl ?_
  refine bf_perm [1, 2, 0] rfl ?_
  refine ok_X9_readTokens_2 hk hk0 (fun I10 L10 hf => ?_) _ _ _ _  hf
  refine bf_iconst (v := 1) dX9_readTokens_60 (by decide) ?_
  obtain rfl := Option.some.inj hf
  exact bf_zret dX9_readTokens_61 rfl rfl (Nat.le_refl _) (Nat.le_refl _) ⟨rfl, rfl⟩
def f_X9_readClause (o : Nat) (a0 : Nat) (I : Nat → Nat → Int32) (L : Nat → Nat → Int64) : Option (Int32 × bf_St) :=
  ((f_X9_readDigit o (0 : Int32) (9 : Int32) (bf_u I a0 4 (0 : Int32)) L).bind (fun r2 => (if ((bf_u r2.2.1 a0 0 r2.1) a0 0) = (-1 : Int32) then (some ((0 : Int32), (bf_u r2.2.1 a0 0 r2.1), r2.2.2)) else ((f_X9_skip o (58 : Int32) (bf_u r2.2.1 a0 0 r2.1) r2.2.2).bind (fun r5 => (if r5.1 = 0 then (some ((0 : Int32), r5.2.1, r5.2.2)) else ((f_X9_readDigit o (1 : Int32) (4 : Int32) r5.2.1 r5.2.2).bind (fun r8 => (if ((bf_u r8.2.1 a0 1 r8.1) a0 1) = (-1 : Int32) then (some ((0 : Int32), (bf_u r8.2.1 a0 1 r8.1), r8.2.2)) else ((f_X9_skip o (62 : Int32) (bf_u r8.2.1 a0 1 r8.1) r8.2.2).bind (fun r11 => (if r11.1 = 0 then (some ((0 : Int32), r11.2.1, r11.2.2)) else ((f_X9_readDigit o (0 : Int32) (9 : Int32) r11.2.1 r11.2.2).bind (fun r14 => (if ((bf_u r14.2.1 a0 2 r14.1) a0 2) = (-1 : Int32) then (some ((0 : Int32), (bf_u r14.2.1 a0 2 r14.1), r14.2.2)) else ((f_X9_skip o (58 : Int32) (bf_u r14.2.1 a0 2 r14.1) r14.2.2).bind (fun r17 => (if r17.1 = 0 then (some ((0 : Int32), r17.2.1, r17.2.2)) else ((f_X9_readDigit o (1 : Int32) (4 : Int32) r17.2.1 r17.2.2).bind (fun r20 => (if ((bf_u r20.2.1 a0 3 r20.1) a0 3) = (-1 : Int32) then (some ((0 : Int32), (bf_u r20.2.1 a0 3 r20.1), r20.2.2)) else ((f_X9_skip o (43 : Int32) (bf_u r20.2.1 a0 3 r20.1) r20.2.2).bind (fun r23 => (if r23.1 = 0 then (some ((1 : Int32), r23.2.1, r23.2.2)) else ((f_X9_readTokens o a0 r23.2.1 r23.2.2).bind (fun r26 => (if r26.1 = 0 then (some ((0 : Int32), r26.2.1, r26.2.2)) else (some ((1 : Int32), r26.2.1, r26.2.2)))))))))))))))))))))))))))))
set_option maxRecDepth 100000 in
set_option maxHeartbeats 4000000 in
theorem ok_X9_readClause {Γ : bf_Gm} {ad : Nat → Nat} {o : Nat} {a0 : Nat} {I : Nat → Nat → Int32} {L : Nat → Nat → Int64} (hk : bf_kd o = 9) (hk0 : bf_kd a0 = 1) {r : Int32 × bf_St} (hf : f_X9_readClause o a0 I L = some r) : bf_Cn Γ 3 mu_X9_readClause 0 0 [.ref (ad o), .ref (ad a0)] (bf_S ad I L) (fun q h => q = some (.int r.1) ∧ h = bf_S ad r.2.1 r.2.2) := by
  refine bf_met rfl (Nat.le_of_ble_eq_true rfl) ?_
  unfold f_X9_readClause at hf
  refine bf_aload_n 1 dX9_readClause_0 rfl rfl ?_
  refine bf_iconst (v := 0) dX9_readClause_1 (by decide) ?_
  refine fp_X9_40 dX9_readClause_2 rfl hk0 ?_
  refine bf_aload_n 1 dX9_readClause_5 rfl rfl ?_
  refine bf_aload_n 0 dX9_readClause_6 rfl rfl ?_
  refine bf_iconst (v := 0) dX9_readClause_7 (by decide) ?_
  refine bf_bipush (v := 9) dX9_readClause_8 (by decide) ?_
  obtain ⟨r2, e1, hf⟩ := bf_bind hf
  have hCe1 := ok_X9_readDigit (Γ := Γ) (ad := ad) hk e1
  refine cv_X9_43 0 dX9_readClause_10 rfl ⟨Nat.le_of_ble_eq_true rfl, Nat.le_of_ble_eq_true rfl⟩ (Nat.le_of_ble_eq_true rfl) hk hCe1 ?_
  refine fp_X9_47 dX9_readClause_13 rfl hk0 ?_
  refine bf_aload_n 1 dX9_readClause_16 rfl rfl ?_
  refine fg_X9_47 dX9_readClause_17 rfl hk0 ?_
  refine bf_iconst (v := -1) dX9_readClause_20 (by decide) ?_
  refine bf_icmp_eq 33 dX9_readClause_21 (by decide) (fun c3 => ?_) (fun c3 => ?_)
  · have hf := (if_pos c3).symm.trans hf
    refine bf_iconst (v := 0) dX9_readClause_33 (by decide) ?_
    obtain rfl := Option.some.inj hf
    exact bf_zret dX9_readClause_34 rfl rfl (Nat.le_refl _) (Nat.le_refl _) ⟨rfl, rfl⟩
  · have hf := (if_neg c3).symm.trans hf
    refine bf_aload_n 0 dX9_readClause_24 rfl rfl ?_
    refine bf_bipush (v := 58) dX9_readClause_25 (by decide) ?_
    obtain ⟨r5, e4, hf⟩ := bf_bind hf
    have hCe4 := ok_X9_skip (Γ := Γ) (ad := ad) hk e4
    refine cv_X9_36 0 dX9_readClause_27 rfl ⟨Nat.le_of_ble_eq_true rfl, Nat.le_of_ble_eq_true rfl⟩ (Nat.le_of_ble_eq_true rfl) hk hCe4 ?_
    refine bf_if_ne 35 dX9_readClause_30 (by decide) (fun c6 => ?_) (fun c6 => ?_)
    · have hf := (if_neg c6).symm.trans hf
      refine bf_aload_n 1 dX9_readClause_35 rfl rfl ?_
      refine bf_aload_n 0 dX9_readClause_36 rfl rfl ?_
      refine bf_iconst (v := 1) dX9_readClause_37 (by decide) ?_
      refine bf_iconst (v := 4) dX9_readClause_38 (by decide) ?_
      obtain ⟨r8, e7, hf⟩ := bf_bind hf
      have hCe7 := ok_X9_readDigit (Γ := Γ) (ad := ad) hk e7
      refine cv_X9_43 0 dX9_readClause_39 rfl ⟨Nat.le_of_ble_eq_true rfl, Nat.le_of_ble_eq_true rfl⟩ (Nat.le_of_ble_eq_true rfl) hk hCe7 ?_
      refine fp_X9_50 dX9_readClause_42 rfl hk0 ?_
      refine bf_aload_n 1 dX9_readClause_45 rfl rfl ?_
      refine fg_X9_50 dX9_readClause_46 rfl hk0 ?_
      refine bf_iconst (v := -1) dX9_readClause_49 (by decide) ?_
      refine bf_icmp_eq 62 dX9_readClause_50 (by decide) (fun c9 => ?_) (fun c9 => ?_)
      · have hf := (if_pos c9).symm.trans hf
        refine bf_iconst (v := 0) dX9_readClause_62 (by decide) ?_
        obtain rfl := Option.some.inj hf
        exact bf_zret dX9_readClause_63 rfl rfl (Nat.le_refl _) (Nat.le_refl _) ⟨rfl, rfl⟩
      · have hf := (if_neg c9).symm.trans hf
        refine bf_aload_n 0 dX9_readClause_53 rfl rfl ?_
        refine bf_bipush (v := 62) dX9_readClause_54 (by decide) ?_
        obtain ⟨r11, e10, hf⟩ := bf_bind hf
        have hCe10 := ok_X9_skip (Γ := Γ) (ad := ad) hk e10
        refine cv_X9_36 0 dX9_readClause_56 rfl ⟨Nat.le_of_ble_eq_true rfl, Nat.le_of_ble_eq_true rfl⟩ (Nat.le_of_ble_eq_true rfl) hk hCe10 ?_
        refine bf_if_ne 64 dX9_readClause_59 (by decide) (fun c12 => ?_) (fun c12 => ?_)
        · have hf := (if_neg c12).symm.trans hf
          refine bf_aload_n 1 dX9_readClause_64 rfl rfl ?_
          refine bf_aload_n 0 dX9_readClause_65 rfl rfl ?_
          refine bf_iconst (v := 0) dX9_readClause_66 (by decide) ?_
          refine bf_bipush (v := 9) dX9_readClause_67 (by decide) ?_
          obtain ⟨r14, e13, hf⟩ := bf_bind hf
          have hCe13 := ok_X9_readDigit (Γ := Γ) (ad := ad) hk e13
          refine cv_X9_43 0 dX9_readClause_69 rfl ⟨Nat.le_of_ble_eq_true rfl, Nat.le_of_ble_eq_true rfl⟩ (Nat.le_of_ble_eq_true rfl) hk hCe13 ?_
          refine fp_X9_53 dX9_readClause_72 rfl hk0 ?_
          refine bf_aload_n 1 dX9_readClause_75 rfl rfl ?_
          refine fg_X9_53 dX9_readClause_76 rfl hk0 ?_
          refine bf_iconst (v := -1) dX9_readClause_79 (by decide) ?_
          refine bf_icmp_eq 92 dX9_readClause_80 (by decide) (fun c15 => ?_) (fun c15 => ?_)
          · have hf := (if_pos c15).symm.trans hf
            refine bf_iconst (v := 0) dX9_readClause_92 (by decide) ?_
            obtain rfl := Option.some.inj hf
            exact bf_zret dX9_readClause_93 rfl rfl (Nat.le_refl _) (Nat.le_refl _) ⟨rfl, rfl⟩
          · have hf := (if_neg c15).symm.trans hf
            refine bf_aload_n 0 dX9_readClause_83 rfl rfl ?_
            refine bf_bipush (v := 58) dX9_readClause_84 (by decide) ?_
            obtain ⟨r17, e16, hf⟩ := bf_bind hf
            have hCe16 := ok_X9_skip (Γ := Γ) (ad := ad) hk e16
            refine cv_X9_36 0 dX9_readClause_86 rfl ⟨Nat.le_of_ble_eq_true rfl, Nat.le_of_ble_eq_true rfl⟩ (Nat.le_of_ble_eq_true rfl) hk hCe16 ?_
            refine bf_if_ne 94 dX9_readClause_89 (by decide) (fun c18 => ?_) (fun c18 => ?_)
            · have hf := (if_neg c18).symm.trans hf
              refine bf_aload_n 1 dX9_readClause_94 rfl rfl ?_
              refine bf_aload_n 0 dX9_readClause_95 rfl rfl ?_
              refine bf_iconst (v := 1) dX9_readClause_96 (by decide) ?_
              refine bf_iconst (v := 4) dX9_readClause_97 (by decide) ?_
              obtain ⟨r20, e19, hf⟩ := bf_bind hf
              have hCe19 := ok_X9_readDigit (Γ := Γ) (ad := ad) hk e19
              refine cv_X9_43 0 dX9_readClause_98 rfl ⟨Nat.le_of_ble_eq_true rfl, Nat.le_of_ble_eq_true rfl⟩ (Nat.le_of_ble_eq_true rfl) hk hCe19 ?_
              refine fp_X9_56 dX9_readClause_101 rfl hk0 ?_
              refine bf_aload_n 1 dX9_readClause_104 rfl rfl ?_
              refine fg_X9_56 dX9_readClause_105 rfl hk0 ?_
              refine bf_iconst (v := -1) dX9_readClause_108 (by decide) ?_
              refine bf_icmp_ne 114 dX9_readClause_109 (by decide) (fun c21 => ?_) (fun c21 => ?_)
              · have hf := (if_neg c21).symm.trans hf
                refine bf_aload_n 0 dX9_readClause_114 rfl rfl ?_
                refine bf_bipush (v := 43) dX9_readClause_115 (by decide) ?_
                obtain ⟨r23, e22, hf⟩ := bf_bind hf
                have hCe22 := ok_X9_skip (Γ := Γ) (ad := ad) hk e22
                refine cv_X9_36 0 dX9_readClause_117 rfl ⟨Nat.le_of_ble_eq_true rfl, Nat.le_of_ble_eq_true rfl⟩ (Nat.le_of_ble_eq_true rfl) hk hCe22 ?_
                refine bf_if_eq 131 dX9_readClause_120 (by decide) (fun c24 => ?_) (fun c24 => ?_)
                · have hf := (if_pos c24).symm.trans hf
                  refine bf_iconst (v := 1) dX9_readClause_131 (by decide) ?_
                  refine bf_goto 136 dX9_readClause_132 (by decide) ?_
                  obtain rfl := Option.some.inj hf
                  exact bf_zret dX9_readClause_136 rfl rfl (Nat.le_refl _) (Nat.le_refl _) ⟨rfl, rfl⟩
                · have hf := (if_neg c24).symm.trans hf
                  refine bf_aload_n 0 dX9_readClause_123 rfl rfl ?_
                  refine bf_aload_n 1 dX9_readClause_124 rfl rfl ?_
                  obtain ⟨r26, e25, hf⟩ := bf_bind hf
                  have hCe25 := ok_X9_readTokens (Γ := Γ) (ad := ad) hk hk0 e25
                  refine cv_X9_59 2 dX9_readClause_125 rfl ⟨Nat.le_of_ble_eq_true rfl, Nat.le_of_ble_eq_true rfl⟩ (Nat.le_of_ble_eq_true rfl) hk hCe25 ?_
                  refine bf_if_eq 135 dX9_readClause_128 (by decide) (fun c27 => ?_) (fun c27 => ?_)
                  · have hf := (if_pos c27).symm.trans hf
                    refine bf_iconst (v := 0) dX9_readClause_135 (by decide) ?_
                    obtain rfl := Option.some.inj hf
                    exact bf_zret dX9_readClause_136 rfl rfl (Nat.le_refl _) (Nat.le_refl _) ⟨rfl, rfl⟩
                  · have hf := (if_neg c27).symm.trans hf
                    refine bf_iconst (v := 1) dX9_readClause_131 (by decide) ?_
                    refine bf_goto 136 dX9_readClause_132 (by decide) ?_
                    obtain rfl := Option.some.inj hf
                    exact bf_zret dX9_readClause_136 rfl rfl (Nat.le_refl _) (Nat.le_refl _) ⟨rfl, rfl⟩
              · have hf := (if_pos c21).symm.trans hf
                refine bf_iconst (v := 0) dX9_readClause_112 (by decide) ?_
                obtain rfl := Option.some.inj hf
                exact bf_zret dX9_readClause_113 rfl rfl (Nat.le_refl _) (Nat.le_refl _) ⟨rfl, rfl⟩
            · have hf := (if_pos c18).symm.trans hf
              refine bf_iconst (v := 0) dX9_readClause_92 (by decide) ?_
              obtain rfl := Option.some.inj hf
              exact bf_zret dX9_readClause_93 rfl rfl (Nat.le_refl _) (Nat.le_refl _) ⟨rfl, rfl⟩
        · have hf := (if_pos c12).symm.trans hf
          refine bf_iconst (v := 0) dX9_readClause_62 (by decide) ?_
          obtain rfl := Option.some.inj hf
          exact bf_zret dX9_readClause_63 rfl rfl (Nat.le_refl _) (Nat.le_refl _) ⟨rfl, rfl⟩
    · have hf := (if_pos c6).symm.trans hf
      refine bf_iconst (v := 0) dX9_readClause_33 (by decide) ?_
      obtain rfl := Option.some.inj hf
      exact bf_zret dX9_readClause_34 rfl rfl (Nat.le_refl _) (Nat.le_refl _) ⟨rfl, rfl⟩
def f_X9_findFault_12 (v0 : Nat) (K : (Nat → Nat → Int32) → (Nat → Nat → Int64) → Option (Int32 × bf_St)) : Nat → Int32 → (Nat → Nat → Int32) → (Nat → Nat → Int64) → Option (Int32 × bf_St)
  | 0, _, _, _ => none
  | n + 1, v1, I, L =>
    (if (8 : Int32) ≤ v1 then (K I L) else (if bf_ok v1 8 then ((f_X9_readClause v0 ((v0 + 2) + 1 + 2 * v1.toNatClampNeg) I L).bind (fun r4 => (if r4.1 = 0 then (some ((r4.2.1 v0 4), r4.2.1, r4.2.2)) else (if ((bf_u r4.2.1 v0 1 ((r4.2.1 v0 1) + (1 : Int32))) v0 4) < ((bf_u r4.2.1 v0 1 ((r4.2.1 v0 1) + (1 : Int32))) v0 0) then (if (8 : Int32) ≤ ((bf_u r4.2.1 v0 1 ((r4.2.1 v0 1) + (1 : Int32))) v0 1) then (some (((bf_u r4.2.1 v0 1 ((r4.2.1 v0 1) + (1 : Int32))) v0 4), (bf_u r4.2.1 v0 1 ((r4.2.1 v0 1) + (1 : Int32))), r4.2.2)) else ((f_X9_skip v0 (59 : Int32) (bf_u r4.2.1 v0 1 ((r4.2.1 v0 1) + (1 : Int32))) r4.2.2).bind (fun r9 => (if r9.1 = 0 then (some ((r9.2.1 v0 4), r9.2.1, r9.2.2)) else (f_X9_findFault_12 v0 K n (v1 + (1 : Int32)) r9.2.1 r9.2.2))))) else (some ((-1 : Int32), (bf_u r4.2.1 v0 1 ((r4.2.1 v0 1) + (1 : Int32))), r4.2.2)))))) else none))
set_option maxRecDepth 100000 in
set_option maxHeartbeats 4000000 in
theorem ok_X9_findFault_12 {Γ : bf_Gm} {ad : Nat → Nat} {v0 : Nat} (hv0 : bf_kd v0 = 9) {r : Int32 × bf_St} {K : (Nat → Nat → Int32) → (Nat → Nat → Int64) → Option (Int32 × bf_St)} (hK : ∀ (I : Nat → Nat → Int32) (L : Nat → Nat → Int64), K  I L = some r → bf_Go Γ (bf_rm 4 0 0) mu_X9_findFault bf_E0 (bf_Z Γ (fun q h => q = some (.int r.1) ∧ h = bf_S ad r.2.1 r.2.2) 0 0) (0, 0) 88 [(0, .ref (ad v0))] [] (bf_S ad I L)) : ∀ (n : Nat) (v1 : Int32) (I : Nat → Nat → Int32) (L : Nat → Nat → Int64), f_X9_findFault_12 v0 K n v1 I L = some r → bf_Go Γ (bf_rm 4 0 0) mu_X9_findFault bf_E0 (bf_Z Γ (fun q h => q = some (.int r.1) ∧ h = bf_S ad r.2.1 r.2.2) 0 0) (0, 0) 12 [(0, .ref (ad v0)), (1, .int v1)] [] (bf_S ad I L) := by
  intro n
  induction n with
  | zero => intro v1 I L hf; exact absurd (show none = some r from hf) (by simp)
  | succ n ih =>
    intro v1 I L hf
    rw [f_X9_findFault_12] at hf
    refine bf_iload_n 1 dX9_findFault_12 rfl rfl ?_
    refine bf_bipush (v := 8) dX9_findFault_13 (by decide) ?_
    refine bf_icmp_ge 88 dX9_findFault_15 (by decide) (fun c1 => ?_) (fun c1 => ?_)
    · have hf := (if_pos c1).symm.trans hf
      refine bf_perm [0] rfl ?_
      exact hK _ _ hf
    · have hf := (if_neg c1).symm.trans hf
      refine bf_aload_n 0 dX9_findFault_18 rfl rfl ?_
      refine bf_aload_n 0 dX9_findFault_19 rfl rfl ?_
      refine fg_X9_21 dX9_findFault_20 rfl hv0 ?_
      refine bf_iload_n 1 dX9_findFault_23 rfl rfl ?_
      rcases Decidable.em (bf_ok v1 8) with c2 | c2
      · have hf := (if_pos c2).symm.trans hf
        refine al_17 dX9_findFault_24 (kr_9_2 hv0) (by rw [(la_17 (kr_9_2 hv0))]; exact c2) ?_
        obtain ⟨r4, e3, hf⟩ := bf_bind hf
        have hCe3 := ok_X9_readClause (Γ := Γ) (ad := ad) hv0 (ka_17 (kr_9_2 hv0) ((by rw [(la_17 (kr_9_2 hv0))]; exact c2) : bf_ok _ _).2) e3
        refine cv_X9_32 3 dX9_findFault_25 rfl ⟨Nat.le_of_ble_eq_true rfl, Nat.le_of_ble_eq_true rfl⟩ (Nat.le_of_ble_eq_true rfl) hv0 hCe3 ?_
        refine bf_if_ne 36 dX9_findFault_28 (by decide) (fun c5 => ?_) (fun c5 => ?_)
        · have hf := (if_neg c5).symm.trans hf
          refine bf_aload_n 0 dX9_findFault_36 rfl rfl ?_
          refine bf_dup dX9_findFault_37 rfl ?_
          refine fg_X9_29 dX9_findFault_38 rfl hv0 ?_
          refine bf_iconst (v := 1) dX9_findFault_41 (by decide) ?_
          refine bf_iadd dX9_findFault_42 ?_
          refine fp_X9_29 dX9_findFault_43 rfl hv0 ?_
          refine bf_aload_n 0 dX9_findFault_46 rfl rfl ?_
          refine fg_X9_26 dX9_findFault_47 rfl hv0 ?_
          refine bf_aload_n 0 dX9_findFault_50 rfl rfl ?_
          refine fg_X9_9 dX9_findFault_51 rfl hv0 ?_
          refine bf_icmp_lt 59 dX9_findFault_54 (by decide) (fun c6 => ?_) (fun c6 => ?_)
          · have hf := (if_pos c6).symm.trans hf
            refine bf_aload_n 0 dX9_findFault_59 rfl rfl ?_
            refine fg_X9_29 dX9_findFault_60 rfl hv0 ?_
            refine bf_bipush (v := 8) dX9_findFault_63 (by decide) ?_
            refine bf_icmp_ge 77 dX9_findFault_65 (by decide) (fun c7 => ?_) (fun c7 => ?_)
            · have hf := (if_pos c7).symm.trans hf
              refine bf_aload_n 0 dX9_findFault_77 rfl rfl ?_
              refine fg_X9_26 dX9_findFault_78 rfl hv0 ?_
              obtain rfl := Option.some.inj hf
              exact bf_iret dX9_findFault_81 rfl (Nat.le_refl _) (Nat.le_refl _) ⟨rfl, rfl⟩
            · have hf := (if_neg c7).symm.trans hf
              refine bf_aload_n 0 dX9_findFault_68 rfl rfl ?_
              refine bf_bipush (v := 59) dX9_findFault_69 (by decide) ?_
              obtain ⟨r9, e8, hf⟩ := bf_bind hf
              have hCe8 := ok_X9_skip (Γ := Γ) (ad := ad) hv0 e8
              refine cv_X9_36 0 dX9_findFault_71 rfl ⟨Nat.le_of_ble_eq_true rfl, Nat.le_of_ble_eq_true rfl⟩ (Nat.le_of_ble_eq_true rfl) hv0 hCe8 ?_
              refine bf_if_ne 82 dX9_findFault_74 (by decide) (fun c10 => ?_) (fun c10 => ?_)
              · have hf := (if_neg c10).symm.trans hf
                refine bf_iinc 1 (v := _ + (1 : Int32)) (lv2 := [(1, .int _), (0, .ref _)]) dX9_findFault_82 rfl (by rfl) (by decide) rfl ?_
                refine bf_goto 12 dX9_findFault_85 (by decide) ?_
                refine bf_perm [1, 0] rfl ?_
                exact ih _ _ _ hf
              · have hf := (if_pos c10).symm.trans hf
                refine bf_aload_n 0 dX9_findFault_77 rfl rfl ?_
                refine fg_X9_26 dX9_findFault_78 rfl hv0 ?_
                obtain rfl := Option.some.inj hf
                exact bf_iret dX9_findFault_81 rfl (Nat.le_refl _) (Nat.le_refl _) ⟨rfl, rfl⟩
          · have hf := (if_neg c6).symm.trans hf
            refine bf_iconst (v := -1) dX9_findFault_57 (by decide) ?_
            obtain rfl := Option.some.inj hf
            exact bf_iret dX9_findFault_58 rfl (Nat.le_refl _) (Nat.le_refl _) ⟨rfl, rfl⟩
        · have hf := (if_pos c5).symm.trans hf
          refine bf_aload_n 0 dX9_findFault_31 rfl rfl ?_
          refine fg_X9_26 dX9_findFault_32 rfl hv0 ?_
          obtain rfl := Option.some.inj hf
          exact bf_iret dX9_findFault_35 rfl (Nat.le_refl _) (Nat.le_refl _) ⟨rfl, rfl⟩
      · exact absurd ((if_neg c2).symm.trans hf) (by simp)
def f_X9_findFault (o : Nat) (I : Nat → Nat → Int32) (L : Nat → Nat → Int64) : Option (Int32 × bf_St) :=
  (f_X9_findFault_12 o (fun I11 L11 => (some ((I11 o 4), I11, L11))) 400 (0 : Int32) (bf_u (bf_u I o 4 (0 : Int32)) o 1 (0 : Int32)) L)
set_option maxRecDepth 100000 in
set_option maxHeartbeats 4000000 in
theorem ok_X9_findFault {Γ : bf_Gm} {ad : Nat → Nat} {o : Nat} {I : Nat → Nat → Int32} {L : Nat → Nat → Int64} (hk : bf_kd o = 9) {r : Int32 × bf_St} (hf : f_X9_findFault o I L = some r) : bf_Cn Γ 4 mu_X9_findFault 0 0 [.ref (ad o)] (bf_S ad I L) (fun q h => q = some (.int r.1) ∧ h = bf_S ad r.2.1 r.2.2) := by
  refine bf_met rfl (Nat.le_of_ble_eq_true rfl) ?_
  unfold f_X9_findFault at hf
  refine bf_aload_n 0 dX9_findFault_0 rfl rfl ?_
  refine bf_iconst (v := 0) dX9_findFault_1 (by decide) ?_
  refine fp_X9_26 dX9_findFault_2 rfl hk ?_
  refine bf_aload_n 0 dX9_findFault_5 rfl rfl ?_
  refine bf_iconst (v := 0) dX9_findFault_6 (by decide) ?_
  refine fp_X9_29 dX9_findFault_7 rfl hk ?_
  refine bf_iconst (v := 0) dX9_findFault_10 (by decide) ?_
  refine bf_istore_n (lv2 := [(1, .int _), (0, .ref _)]) dX9_findFault_11 rfl (by decide) rfl ?_
  refine bf_perm [1, 0] rfl ?_
  refine ok_X9_findFault_12 hk (fun I11 L11 hf => ?_) _ _ _ _  hf
  refine bf_aload_n 0 dX9_findFault_88 rfl rfl ?_
  refine fg_X9_26 dX9_findFault_89 rfl hk ?_
  obtain rfl := Option.some.inj hf
  exact bf_iret dX9_findFault_92 rfl (Nat.le_refl _) (Nat.le_refl _) ⟨rfl, rfl⟩
def f_X11_box (o : Nat) (a0 : Int32) (a1 : Int32) (I : Nat → Nat → Int32) (L : Nat → Nat → Int64) : Option (Int32 × bf_St) :=
  (if a0 < 0 then (some ((-1 : Int32), I, L)) else (if a0 ≤ (4 : Int32) then (if a1 < 0 then (some ((-2 : Int32), I, L)) else (if a1 ≤ (9 : Int32) then ((f_X3_addBox ((o + 1) + 1) a0 a1 I L).bind (fun r6 => (some (r6.1, r6.2.1, r6.2.2)))) else (some ((-2 : Int32), I, L)))) else (some ((-1 : Int32), I, L))))
set_option maxRecDepth 100000 in
set_option maxHeartbeats 4000000 in
theorem ok_X11_box {Γ : bf_Gm} {ad : Nat → Nat} {o : Nat} {a0 : Int32} {a1 : Int32} {I : Nat → Nat → Int32} {L : Nat → Nat → Int64} (hk : bf_kd o = 11) {r : Int32 × bf_St} (hf : f_X11_box o a0 a1 I L = some r) : bf_Cn Γ 2 mu_X11_box 0 0 [.ref (ad o), .int a0, .int a1] (bf_S ad I L) (fun q h => q = some (.int r.1) ∧ h = bf_S ad r.2.1 r.2.2) := by
  refine bf_met rfl (Nat.le_of_ble_eq_true rfl) ?_
  unfold f_X11_box at hf
  refine bf_iload_n 1 dX11_box_0 rfl rfl ?_
  refine bf_if_lt 9 dX11_box_1 (by decide) (fun c1 => ?_) (fun c1 => ?_)
  · have hf := (if_pos c1).symm.trans hf
    refine bf_iconst (v := -1) dX11_box_9 (by decide) ?_
    obtain rfl := Option.some.inj hf
    exact bf_iret dX11_box_10 rfl (Nat.le_refl _) (Nat.le_refl _) ⟨rfl, rfl⟩
  · have hf := (if_neg c1).symm.trans hf
    refine bf_iload_n 1 dX11_box_4 rfl rfl ?_
    refine bf_iconst (v := 4) dX11_box_5 (by decide) ?_
    refine bf_icmp_le 11 dX11_box_6 (by decide) (fun c2 => ?_) (fun c2 => ?_)
    · have hf := (if_pos c2).symm.trans hf
      refine bf_iload_n 2 dX11_box_11 rfl rfl ?_
      refine bf_if_lt 21 dX11_box_12 (by decide) (fun c3 => ?_) (fun c3 => ?_)
      · have hf := (if_pos c3).symm.trans hf
        refine bf_bipush (v := -2) dX11_box_21 (by decide) ?_
        obtain rfl := Option.some.inj hf
        exact bf_iret dX11_box_23 rfl (Nat.le_refl _) (Nat.le_refl _) ⟨rfl, rfl⟩
      · have hf := (if_neg c3).symm.trans hf
        refine bf_iload_n 2 dX11_box_15 rfl rfl ?_
        refine bf_bipush (v := 9) dX11_box_16 (by decide) ?_
        refine bf_icmp_le 24 dX11_box_18 (by decide) (fun c4 => ?_) (fun c4 => ?_)
        · have hf := (if_pos c4).symm.trans hf
          refine bf_aload_n 0 dX11_box_24 rfl rfl ?_
          refine fg_X11_14 dX11_box_25 rfl hk ?_
          refine fg_X11_60 dX11_box_28 rfl (kr_11_0 hk) ?_
          refine bf_iload_n 1 dX11_box_31 rfl rfl ?_
          refine bf_iload_n 2 dX11_box_32 rfl rfl ?_
          obtain ⟨r6, e5, hf⟩ := bf_bind hf
          have hCe5 := ok_X3_addBox (Γ := Γ) (ad := ad) (kr_7_0 (kr_11_0 hk)) e5
          refine cv_X11_63 1 dX11_box_33 rfl ⟨Nat.le_of_ble_eq_true rfl, Nat.le_of_ble_eq_true rfl⟩ (Nat.le_of_ble_eq_true rfl) (kr_7_0 (kr_11_0 hk)) hCe5 ?_
          obtain rfl := Option.some.inj hf
          exact bf_iret dX11_box_36 rfl (Nat.le_refl _) (Nat.le_refl _) ⟨rfl, rfl⟩
        · have hf := (if_neg c4).symm.trans hf
          refine bf_bipush (v := -2) dX11_box_21 (by decide) ?_
          obtain rfl := Option.some.inj hf
          exact bf_iret dX11_box_23 rfl (Nat.le_refl _) (Nat.le_refl _) ⟨rfl, rfl⟩
    · have hf := (if_neg c2).symm.trans hf
      refine bf_iconst (v := -1) dX11_box_9 (by decide) ?_
      obtain rfl := Option.some.inj hf
      exact bf_iret dX11_box_10 rfl (Nat.le_refl _) (Nat.le_refl _) ⟨rfl, rfl⟩
def f_X11_wire (o : Nat) (a0 : Int32) (a1 : Int32) (a2 : Int32) (a3 : Int32) (I : Nat → Nat → Int32) (L : Nat → Nat → Int64) : Option (Int32 × bf_St) :=
  ((f_X3_addWire ((o + 1) + 1) a0 a1 a2 a3 I L).bind (fun r2 => (some (r2.1, r2.2.1, r2.2.2))))
set_option maxRecDepth 100000 in
set_option maxHeartbeats 4000000 in
theorem ok_X11_wire {Γ : bf_Gm} {ad : Nat → Nat} {o : Nat} {a0 : Int32} {a1 : Int32} {a2 : Int32} {a3 : Int32} {I : Nat → Nat → Int32} {L : Nat → Nat → Int64} (hk : bf_kd o = 11) {r : Int32 × bf_St} (hf : f_X11_wire o a0 a1 a2 a3 I L = some r) : bf_Cn Γ 3 mu_X11_wire 0 0 [.ref (ad o), .int a0, .int a1, .int a2, .int a3] (bf_S ad I L) (fun q h => q = some (.int r.1) ∧ h = bf_S ad r.2.1 r.2.2) := by
  refine bf_met rfl (Nat.le_of_ble_eq_true rfl) ?_
  unfold f_X11_wire at hf
  refine bf_aload_n 0 dX11_wire_0 rfl rfl ?_
  refine fg_X11_14 dX11_wire_1 rfl hk ?_
  refine fg_X11_60 dX11_wire_4 rfl (kr_11_0 hk) ?_
  refine bf_iload_n 1 dX11_wire_7 rfl rfl ?_
  refine bf_iload_n 2 dX11_wire_8 rfl rfl ?_
  refine bf_iload_n 3 dX11_wire_9 rfl rfl ?_
  refine bf_iload 4 dX11_wire_10 rfl ?_
  obtain ⟨r2, e1, hf⟩ := bf_bind hf
  have hCe1 := ok_X3_addWire (Γ := Γ) (ad := ad) (kr_7_0 (kr_11_0 hk)) e1
  refine cv_X11_67 2 dX11_wire_12 rfl ⟨Nat.le_of_ble_eq_true rfl, Nat.le_of_ble_eq_true rfl⟩ (Nat.le_of_ble_eq_true rfl) (kr_7_0 (kr_11_0 hk)) hCe1 ?_
  obtain rfl := Option.some.inj hf
  exact bf_iret dX11_wire_15 rfl (Nat.le_refl _) (Nat.le_refl _) ⟨rfl, rfl⟩
def f_X11_token (o : Nat) (a0 : Int32) (a1 : Int32) (I : Nat → Nat → Int32) (L : Nat → Nat → Int64) : Option (Int32 × bf_St) :=
  ((f_X3_hasWire ((o + 1) + 1) a0 I L).bind (fun r2 => (if r2.1 = 0 then (some ((-1 : Int32), r2.2.1, r2.2.2)) else (if bf_ok a0 8 then (if (r2.2.1 ((((o + 1) + 1) + 8) + 1 + 2 * a0.toNatClampNeg) 5) < (99 : Int32) then ((f_X10_append ((((o + 1) + 1) + 8) + 1 + 2 * a0.toNatClampNeg) a1 r2.2.1 r2.2.2).bind (fun r7 => (some ((r7.1 ((((o + 1) + 1) + 8) + 1 + 2 * a0.toNatClampNeg) 5), r7.1, r7.2)))) else (some ((-4 : Int32), r2.2.1, r2.2.2))) else none))))
set_option maxRecDepth 100000 in
set_option maxHeartbeats 4000000 in
theorem ok_X11_token {Γ : bf_Gm} {ad : Nat → Nat} {o : Nat} {a0 : Int32} {a1 : Int32} {I : Nat → Nat → Int32} {L : Nat → Nat → Int64} (hk : bf_kd o = 11) {r : Int32 × bf_St} (hf : f_X11_token o a0 a1 I L = some r) : bf_Cn Γ 2 mu_X11_token 0 0 [.ref (ad o), .int a0, .int a1] (bf_S ad I L) (fun q h => q = some (.int r.1) ∧ h = bf_S ad r.2.1 r.2.2) := by
  refine bf_met rfl (Nat.le_of_ble_eq_true rfl) ?_
  unfold f_X11_token at hf
  refine bf_aload_n 0 dX11_token_0 rfl rfl ?_
  refine fg_X11_14 dX11_token_1 rfl hk ?_
  refine fg_X11_60 dX11_token_4 rfl (kr_11_0 hk) ?_
  refine bf_iload_n 1 dX11_token_7 rfl rfl ?_
  obtain ⟨r2, e1, hf⟩ := bf_bind hf
  have hCe1 := ok_X3_hasWire (Γ := Γ) (ad := ad) (kr_7_0 (kr_11_0 hk)) e1
  refine cv_X11_71 0 dX11_token_8 rfl ⟨Nat.le_of_ble_eq_true rfl, Nat.le_of_ble_eq_true rfl⟩ (Nat.le_of_ble_eq_true rfl) (kr_7_0 (kr_11_0 hk)) hCe1 ?_
  refine bf_if_ne 16 dX11_token_11 (by decide) (fun c3 => ?_) (fun c3 => ?_)
  · have hf := (if_neg c3).symm.trans hf
    refine bf_aload_n 0 dX11_token_16 rfl rfl ?_
    refine fg_X11_14 dX11_token_17 rfl hk ?_
    refine fg_X11_60 dX11_token_20 rfl (kr_11_0 hk) ?_
    refine fg_X11_75 dX11_token_23 rfl (kr_7_0 (kr_11_0 hk)) ?_
    refine bf_iload_n 1 dX11_token_26 rfl rfl ?_
    rcases Decidable.em (bf_ok a0 8) with c4 | c4
    · have hf := (if_pos c4).symm.trans hf
      refine al_19 dX11_token_27 (kr_3_1 (kr_7_0 (kr_11_0 hk))) (by rw [(la_19 (kr_3_1 (kr_7_0 (kr_11_0 hk))))]; exact c4) ?_
      refine bf_astore_n (lv2 := [(3, .ref _), (0, .ref _), (1, .int _), (2, .int _)]) dX11_token_28 rfl (by decide) rfl ?_
      refine bf_aload_n 0 dX11_token_29 rfl rfl ?_
      refine fg_X11_79 dX11_token_30 rfl (ka_19 (kr_3_1 (kr_7_0 (kr_11_0 hk))) ((by rw [(la_19 (kr_3_1 (kr_7_0 (kr_11_0 hk))))]; exact c4) : bf_ok _ _).2) ?_
      refine bf_bipush (v := 99) dX11_token_33 (by decide) ?_
      refine bf_icmp_lt 41 dX11_token_35 (by decide) (fun c5 => ?_) (fun c5 => ?_)
      · have hf := (if_pos c5).symm.trans hf
        refine bf_aload_n 0 dX11_token_41 rfl rfl ?_
        refine bf_iload_n 3 dX11_token_42 rfl rfl ?_
        obtain ⟨r7, e6, hf⟩ := bf_bind hf
        have hCe6 := ok_X10_append (Γ := Γ) (ad := ad) (ka_19 (kr_3_1 (kr_7_0 (kr_11_0 hk))) ((by rw [(la_19 (kr_3_1 (kr_7_0 (kr_11_0 hk))))]; exact c4) : bf_ok _ _).2) e6
        refine cv_X11_85 1 dX11_token_43 rfl ⟨Nat.le_of_ble_eq_true rfl, Nat.le_of_ble_eq_true rfl⟩ (Nat.le_of_ble_eq_true rfl) (ka_19 (kr_3_1 (kr_7_0 (kr_11_0 hk))) ((by rw [(la_19 (kr_3_1 (kr_7_0 (kr_11_0 hk))))]; exact c4) : bf_ok _ _).2) hCe6 ?_
        refine bf_aload_n 0 dX11_token_46 rfl rfl ?_
        refine fg_X11_79 dX11_token_47 rfl (ka_19 (kr_3_1 (kr_7_0 (kr_11_0 hk))) ((by rw [(la_19 (kr_3_1 (kr_7_0 (kr_11_0 hk))))]; exact c4) : bf_ok _ _).2) ?_
        obtain rfl := Option.some.inj hf
        exact bf_iret dX11_token_50 rfl (Nat.le_refl _) (Nat.le_refl _) ⟨rfl, rfl⟩
      · have hf := (if_neg c5).symm.trans hf
        refine bf_bipush (v := -4) dX11_token_38 (by decide) ?_
        obtain rfl := Option.some.inj hf
        exact bf_iret dX11_token_40 rfl (Nat.le_refl _) (Nat.le_refl _) ⟨rfl, rfl⟩
    · exact absurd ((if_neg c4).symm.trans hf) (by simp)
  · have hf := (if_pos c3).symm.trans hf
    refine bf_iconst (v := -1) dX11_token_14 (by decide) ?_
    obtain rfl := Option.some.inj hf
    exact bf_iret dX11_token_15 rfl (Nat.le_refl _) (Nat.le_refl _) ⟨rfl, rfl⟩
def f_X11_cut (o : Nat) (a0 : Int32) (I : Nat → Nat → Int32) (L : Nat → Nat → Int64) : Option (Int32 × bf_St) :=
  ((f_X3_hasWire ((o + 1) + 1) a0 I L).bind (fun r2 => (if r2.1 = 0 then (some ((-1 : Int32), r2.2.1, r2.2.2)) else (if bf_ok a0 8 then ((f_X10_clear ((((o + 1) + 1) + 8) + 1 + 2 * a0.toNatClampNeg) r2.2.1 r2.2.2).bind (fun r6 => (some ((r2.2.1 ((((o + 1) + 1) + 8) + 1 + 2 * a0.toNatClampNeg) 5), (bf_u r6.1 ((((o + 1) + 1) + 8) + 1 + 2 * a0.toNatClampNeg) 4 (0 : Int32)), r6.2)))) else none))))
set_option maxRecDepth 100000 in
set_option maxHeartbeats 4000000 in
theorem ok_X11_cut {Γ : bf_Gm} {ad : Nat → Nat} {o : Nat} {a0 : Int32} {I : Nat → Nat → Int32} {L : Nat → Nat → Int64} (hk : bf_kd o = 11) {r : Int32 × bf_St} (hf : f_X11_cut o a0 I L = some r) : bf_Cn Γ 1 mu_X11_cut 0 0 [.ref (ad o), .int a0] (bf_S ad I L) (fun q h => q = some (.int r.1) ∧ h = bf_S ad r.2.1 r.2.2) := by
  refine bf_met rfl (Nat.le_of_ble_eq_true rfl) ?_
  unfold f_X11_cut at hf
  refine bf_aload_n 0 dX11_cut_0 rfl rfl ?_
  refine fg_X11_14 dX11_cut_1 rfl hk ?_
  refine fg_X11_60 dX11_cut_4 rfl (kr_11_0 hk) ?_
  refine bf_iload_n 1 dX11_cut_7 rfl rfl ?_
  obtain ⟨r2, e1, hf⟩ := bf_bind hf
  have hCe1 := ok_X3_hasWire (Γ := Γ) (ad := ad) (kr_7_0 (kr_11_0 hk)) e1
  refine cv_X11_71 0 dX11_cut_8 rfl ⟨Nat.le_of_ble_eq_true rfl, Nat.le_of_ble_eq_true rfl⟩ (Nat.le_of_ble_eq_true rfl) (kr_7_0 (kr_11_0 hk)) hCe1 ?_
  refine bf_if_ne 16 dX11_cut_11 (by decide) (fun c3 => ?_) (fun c3 => ?_)
  · have hf := (if_neg c3).symm.trans hf
    refine bf_aload_n 0 dX11_cut_16 rfl rfl ?_
    refine fg_X11_14 dX11_cut_17 rfl hk ?_
    refine fg_X11_60 dX11_cut_20 rfl (kr_11_0 hk) ?_
    refine fg_X11_75 dX11_cut_23 rfl (kr_7_0 (kr_11_0 hk)) ?_
    refine bf_iload_n 1 dX11_cut_26 rfl rfl ?_
    rcases Decidable.em (bf_ok a0 8) with c4 | c4
    · have hf := (if_pos c4).symm.trans hf
      refine al_19 dX11_cut_27 (kr_3_1 (kr_7_0 (kr_11_0 hk))) (by rw [(la_19 (kr_3_1 (kr_7_0 (kr_11_0 hk))))]; exact c4) ?_
      refine bf_astore_n (lv2 := [(2, .ref _), (0, .ref _), (1, .int _)]) dX11_cut_28 rfl (by decide) rfl ?_
      refine bf_aload_n 0 dX11_cut_29 rfl rfl ?_
      refine fg_X11_79 dX11_cut_30 rfl (ka_19 (kr_3_1 (kr_7_0 (kr_11_0 hk))) ((by rw [(la_19 (kr_3_1 (kr_7_0 (kr_11_0 hk))))]; exact c4) : bf_ok _ _).2) ?_
      refine bf_istore_n (lv2 := [(3, .int _), (2, .ref _), (0, .ref _), (1, .int _)]) dX11_cut_33 rfl (by decide) rfl ?_
      refine bf_aload_n 1 dX11_cut_34 rfl rfl ?_
      obtain ⟨r6, e5, hf⟩ := bf_bind hf
      have hCe5 := ok_X10_clear (Γ := Γ) (ad := ad) (ka_19 (kr_3_1 (kr_7_0 (kr_11_0 hk))) ((by rw [(la_19 (kr_3_1 (kr_7_0 (kr_11_0 hk))))]; exact c4) : bf_ok _ _).2) e5
      refine cv_X11_89 0 dX11_cut_35 rfl ⟨Nat.le_of_ble_eq_true rfl, Nat.le_of_ble_eq_true rfl⟩ (Nat.le_of_ble_eq_true rfl) (ka_19 (kr_3_1 (kr_7_0 (kr_11_0 hk))) ((by rw [(la_19 (kr_3_1 (kr_7_0 (kr_11_0 hk))))]; exact c4) : bf_ok _ _).2) hCe5 ?_
      refine bf_aload_n 1 dX11_cut_38 rfl rfl ?_
      refine bf_iconst (v := 0) dX11_cut_39 (by decide) ?_
      refine fp_X11_92 (by decide) dX11_cut_40 rfl (ka_19 (kr_3_1 (kr_7_0 (kr_11_0 hk))) ((by rw [(la_19 (kr_3_1 (kr_7_0 (kr_11_0 hk))))]; exact c4) : bf_ok _ _).2) ?_
      refine bf_iload_n 0 dX11_cut_43 rfl rfl ?_
      obtain rfl := Option.some.inj hf
      exact bf_iret dX11_cut_44 rfl (Nat.le_refl _) (Nat.le_refl _) ⟨rfl, rfl⟩
    · exact absurd ((if_neg c4).symm.trans hf) (by simp)
  · have hf := (if_pos c3).symm.trans hf
    refine bf_iconst (v := -1) dX11_cut_14 (by decide) ?_
    obtain rfl := Option.some.inj hf
    exact bf_iret dX11_cut_15 rfl (Nat.le_refl _) (Nat.le_refl _) ⟨rfl, rfl⟩
def f_X11_feed (o : Nat) (a0 : Int32) (I : Nat → Nat → Int32) (L : Nat → Nat → Int64) : Option (Int32 × bf_St) :=
  (if a0 < 0 then (some ((-2 : Int32), I, L)) else (if a0 ≤ (127 : Int32) then (if (I (o + 124) 0) < (100 : Int32) then ((f_X9_append (o + 124) (a0).toInt8.toInt32 I L).bind (fun r5 => (some ((r5.1 (o + 124) 0), r5.1, r5.2)))) else (some ((-4 : Int32), I, L))) else (some ((-2 : Int32), I, L))))
set_option maxRecDepth 100000 in
set_option maxHeartbeats 4000000 in
theorem ok_X11_feed {Γ : bf_Gm} {ad : Nat → Nat} {o : Nat} {a0 : Int32} {I : Nat → Nat → Int32} {L : Nat → Nat → Int64} (hk : bf_kd o = 11) {r : Int32 × bf_St} (hf : f_X11_feed o a0 I L = some r) : bf_Cn Γ 1 mu_X11_feed 0 0 [.ref (ad o), .int a0] (bf_S ad I L) (fun q h => q = some (.int r.1) ∧ h = bf_S ad r.2.1 r.2.2) := by
  refine bf_met rfl (Nat.le_of_ble_eq_true rfl) ?_
  unfold f_X11_feed at hf
  refine bf_iload_n 1 dX11_feed_0 rfl rfl ?_
  refine bf_if_lt 10 dX11_feed_1 (by decide) (fun c1 => ?_) (fun c1 => ?_)
  · have hf := (if_pos c1).symm.trans hf
    refine bf_bipush (v := -2) dX11_feed_10 (by decide) ?_
    obtain rfl := Option.some.inj hf
    exact bf_iret dX11_feed_12 rfl (Nat.le_refl _) (Nat.le_refl _) ⟨rfl, rfl⟩
  · have hf := (if_neg c1).symm.trans hf
    refine bf_iload_n 1 dX11_feed_4 rfl rfl ?_
    refine bf_bipush (v := 127) dX11_feed_5 (by decide) ?_
    refine bf_icmp_le 13 dX11_feed_7 (by decide) (fun c2 => ?_) (fun c2 => ?_)
    · have hf := (if_pos c2).symm.trans hf
      refine bf_aload_n 0 dX11_feed_13 rfl rfl ?_
      refine fg_X11_49 dX11_feed_14 rfl hk ?_
      refine fg_X11_95 dX11_feed_17 rfl (kr_11_6 hk) ?_
      refine bf_bipush (v := 100) dX11_feed_20 (by decide) ?_
      refine bf_icmp_lt 28 dX11_feed_22 (by decide) (fun c3 => ?_) (fun c3 => ?_)
      · have hf := (if_pos c3).symm.trans hf
        refine bf_aload_n 0 dX11_feed_28 rfl rfl ?_
        refine fg_X11_49 dX11_feed_29 rfl hk ?_
        refine bf_iload_n 1 dX11_feed_32 rfl rfl ?_
        refine bf_i2b dX11_feed_33 ?_
        obtain ⟨r5, e4, hf⟩ := bf_bind hf
        have hCe4 := ok_X9_append (Γ := Γ) (ad := ad) (kr_11_6 hk) e4
        refine cv_X11_98 0 dX11_feed_34 rfl ⟨Nat.le_of_ble_eq_true rfl, Nat.le_of_ble_eq_true rfl⟩ (Nat.le_of_ble_eq_true rfl) (kr_11_6 hk) hCe4 ?_
        refine bf_aload_n 0 dX11_feed_37 rfl rfl ?_
        refine fg_X11_49 dX11_feed_38 rfl hk ?_
        refine fg_X11_95 dX11_feed_41 rfl (kr_11_6 hk) ?_
        obtain rfl := Option.some.inj hf
        exact bf_iret dX11_feed_44 rfl (Nat.le_refl _) (Nat.le_refl _) ⟨rfl, rfl⟩
      · have hf := (if_neg c3).symm.trans hf
        refine bf_bipush (v := -4) dX11_feed_25 (by decide) ?_
        obtain rfl := Option.some.inj hf
        exact bf_iret dX11_feed_27 rfl (Nat.le_refl _) (Nat.le_refl _) ⟨rfl, rfl⟩
    · have hf := (if_neg c2).symm.trans hf
      refine bf_bipush (v := -2) dX11_feed_10 (by decide) ?_
      obtain rfl := Option.some.inj hf
      exact bf_iret dX11_feed_12 rfl (Nat.le_refl _) (Nat.le_refl _) ⟨rfl, rfl⟩
