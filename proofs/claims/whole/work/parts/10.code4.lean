def f_X11_layClause_45 (v0 : Nat) (v1 : Nat) (v2 : Int32) (K : (Nat → Nat → Int32) → (Nat → Nat → Int64) → Option (Int32 × bf_St)) : Nat → Int32 → (Nat → Nat → Int32) → (Nat → Nat → Int64) → Option (Int32 × bf_St)
  | 0, _, _, _ => none
  | n + 1, v3, I, L =>
    (if (I v1 4) ≤ v3 then (K I L) else (if (6 : Int32) ≤ v3 then (K I L) else (if bf_ok v2 8 then (if bf_ok v3 6 then ((f_X10_append ((((v0 + 1) + 1) + 8) + 1 + 2 * v2.toNatClampNeg) (I (v1 + 1) v3.toNatClampNeg) I L).bind (fun r11 => (f_X11_layClause_45 v0 v1 v2 K n (v3 + (1 : Int32)) r11.1 r11.2))) else none) else none)))
set_option maxRecDepth 100000 in
set_option maxHeartbeats 4000000 in
theorem ok_X11_layClause_45 {Γ : bf_Gm} {ad : Nat → Nat} {v0 : Nat} {v1 : Nat} {v2 : Int32} (hv0 : bf_kd v0 = 11) (hv1 : bf_kd v1 = 1) {r : Int32 × bf_St} {K : (Nat → Nat → Int32) → (Nat → Nat → Int64) → Option (Int32 × bf_St)} (hK : ∀ (I : Nat → Nat → Int32) (L : Nat → Nat → Int64), K  I L = some r → bf_Go Γ (bf_rm 3 0 0) mu_X11_layClause bf_E0 (bf_Z Γ (fun q h => q = some (.int r.1) ∧ h = bf_S ad r.2.1 r.2.2) 0 0) (0, 0) 86 [] [] (bf_S ad I L)) : ∀ (n : Nat) (v3 : Int32) (I : Nat → Nat → Int32) (L : Nat → Nat → Int64), f_X11_layClause_45 v0 v1 v2 K n v3 I L = some r → bf_Go Γ (bf_rm 3 0 0) mu_X11_layClause bf_E0 (bf_Z Γ (fun q h => q = some (.int r.1) ∧ h = bf_S ad r.2.1 r.2.2) 0 0) (0, 0) 45 [(0, .ref (ad v0)), (1, .ref (ad v1)), (2, .int v2), (3, .int v3)] [] (bf_S ad I L) := by
  intro n
  induction n with
  | zero => intro v3 I L hf; exact absurd (show none = some r from hf) (by simp)
  | succ n ih =>
    intro v3 I L hf
    rw [f_X11_layClause_45] at hf
    refine bf_iload_n 3 dX11_layClause_45 rfl rfl ?_
    refine bf_aload_n 1 dX11_layClause_46 rfl rfl ?_
    refine fg_X11_130 dX11_layClause_47 rfl hv1 ?_
    refine bf_icmp_ge 86 dX11_layClause_50 (by decide) (fun c6 => ?_) (fun c6 => ?_)
    · have hf := (if_pos c6).symm.trans hf
      refine bf_perm [] rfl ?_
      exact hK _ _ hf
    · have hf := (if_neg c6).symm.trans hf
      refine bf_iload_n 3 dX11_layClause_53 rfl rfl ?_
      refine bf_bipush (v := 6) dX11_layClause_54 (by decide) ?_
      refine bf_icmp_ge 86 dX11_layClause_56 (by decide) (fun c7 => ?_) (fun c7 => ?_)
      · have hf := (if_pos c7).symm.trans hf
        refine bf_perm [] rfl ?_
        exact hK _ _ hf
      · have hf := (if_neg c7).symm.trans hf
        refine bf_aload_n 0 dX11_layClause_59 rfl rfl ?_
        refine fg_X11_14 dX11_layClause_60 rfl hv0 ?_
        refine fg_X11_60 dX11_layClause_63 rfl (kr_11_0 hv0) ?_
        refine fg_X11_75 dX11_layClause_66 rfl (kr_7_0 (kr_11_0 hv0)) ?_
        refine bf_iload_n 2 dX11_layClause_69 rfl rfl ?_
        rcases Decidable.em (bf_ok v2 8) with c8 | c8
        · have hf := (if_pos c8).symm.trans hf
          refine al_19 dX11_layClause_70 (kr_3_1 (kr_7_0 (kr_11_0 hv0))) (by rw [(la_19 (kr_3_1 (kr_7_0 (kr_11_0 hv0))))]; exact c8) ?_
          refine bf_aload_n 1 dX11_layClause_71 rfl rfl ?_
          refine fg_X11_131 dX11_layClause_72 rfl hv1 ?_
          refine bf_iload_n 3 dX11_layClause_75 rfl rfl ?_
          rcases Decidable.em (bf_ok v3 6) with c9 | c9
          · have hf := (if_pos c9).symm.trans hf
            refine bf_iald dX11_layClause_76 (kr_1_5 hv1) (by rw [(kl_1_5 hv1)]; exact c9) ?_
            obtain ⟨r11, e10, hf⟩ := bf_bind hf
            have hCe10 := ok_X10_append (Γ := Γ) (ad := ad) (ka_19 (kr_3_1 (kr_7_0 (kr_11_0 hv0))) ((by rw [(la_19 (kr_3_1 (kr_7_0 (kr_11_0 hv0))))]; exact c8) : bf_ok _ _).2) e10
            refine cv_X11_85 1 dX11_layClause_77 rfl ⟨Nat.le_of_ble_eq_true rfl, Nat.le_of_ble_eq_true rfl⟩ (Nat.le_of_ble_eq_true rfl) (ka_19 (kr_3_1 (kr_7_0 (kr_11_0 hv0))) ((by rw [(la_19 (kr_3_1 (kr_7_0 (kr_11_0 hv0))))]; exact c8) : bf_ok _ _).2) hCe10 ?_
            refine bf_iinc 3 (v := _ + (1 : Int32)) (lv2 := [(3, .int _), (0, .ref _), (1, .ref _), (2, .int _)]) dX11_layClause_80 rfl (by rfl) (by decide) rfl ?_
            refine bf_goto 45 dX11_layClause_83 (by decide) ?_
            refine bf_perm [1, 2, 3, 0] rfl ?_
            exact ih _ _ _ hf
          · exact absurd ((if_neg c9).symm.trans hf) (by simp)
        · exact absurd ((if_neg c8).symm.trans hf) (by simp)
def f_X11_layClause (o : Nat) (a0 : Nat) (I : Nat → Nat → Int32) (L : Nat → Nat → Int64) : Option (Int32 × bf_St) :=
  ((f_X3_addWire ((o + 1) + 1) (I a0 0) (I a0 2) (I a0 1) (I a0 3) I L).bind (fun r2 => ((f_X3_hasWire ((o + 1) + 1) r2.1 r2.2.1 r2.2.2).bind (fun r4 => (if r4.1 = 0 then (some ((0 : Int32), r4.2.1, r4.2.2)) else (f_X11_layClause_45 o a0 r2.1 (fun I12 L12 => (some ((1 : Int32), I12, L12))) 400 (0 : Int32) r4.2.1 r4.2.2))))))
set_option maxRecDepth 100000 in
set_option maxHeartbeats 4000000 in
theorem ok_X11_layClause {Γ : bf_Gm} {ad : Nat → Nat} {o : Nat} {a0 : Nat} {I : Nat → Nat → Int32} {L : Nat → Nat → Int64} (hk : bf_kd o = 11) (hk0 : bf_kd a0 = 1) {r : Int32 × bf_St} (hf : f_X11_layClause o a0 I L = some r) : bf_Cn Γ 3 mu_X11_layClause 0 0 [.ref (ad o), .ref (ad a0)] (bf_S ad I L) (fun q h => q = some (.int r.1) ∧ h = bf_S ad r.2.1 r.2.2) := by
  refine bf_met rfl (Nat.le_of_ble_eq_true rfl) ?_
  unfold f_X11_layClause at hf
  refine bf_aload_n 0 dX11_layClause_0 rfl rfl ?_
  refine fg_X11_14 dX11_layClause_1 rfl hk ?_
  refine fg_X11_60 dX11_layClause_4 rfl (kr_11_0 hk) ?_
  refine bf_aload_n 1 dX11_layClause_7 rfl rfl ?_
  refine fg_X11_116 dX11_layClause_8 rfl hk0 ?_
  refine bf_aload_n 1 dX11_layClause_11 rfl rfl ?_
  refine fg_X11_121 dX11_layClause_12 rfl hk0 ?_
  refine bf_aload_n 1 dX11_layClause_15 rfl rfl ?_
  refine fg_X11_124 dX11_layClause_16 rfl hk0 ?_
  refine bf_aload_n 1 dX11_layClause_19 rfl rfl ?_
  refine fg_X11_127 dX11_layClause_20 rfl hk0 ?_
  obtain ⟨r2, e1, hf⟩ := bf_bind hf
  have hCe1 := ok_X3_addWire (Γ := Γ) (ad := ad) (kr_7_0 (kr_11_0 hk)) e1
  refine cv_X11_67 2 dX11_layClause_23 rfl ⟨Nat.le_of_ble_eq_true rfl, Nat.le_of_ble_eq_true rfl⟩ (Nat.le_of_ble_eq_true rfl) (kr_7_0 (kr_11_0 hk)) hCe1 ?_
  refine bf_istore_n (lv2 := [(2, .int _), (0, .ref _), (1, .ref _)]) dX11_layClause_26 rfl (by decide) rfl ?_
  refine bf_aload_n 1 dX11_layClause_27 rfl rfl ?_
  refine fg_X11_14 dX11_layClause_28 rfl hk ?_
  refine fg_X11_60 dX11_layClause_31 rfl (kr_11_0 hk) ?_
  refine bf_iload_n 0 dX11_layClause_34 rfl rfl ?_
  obtain ⟨r4, e3, hf⟩ := bf_bind hf
  have hCe3 := ok_X3_hasWire (Γ := Γ) (ad := ad) (kr_7_0 (kr_11_0 hk)) e3
  refine cv_X11_71 0 dX11_layClause_35 rfl ⟨Nat.le_of_ble_eq_true rfl, Nat.le_of_ble_eq_true rfl⟩ (Nat.le_of_ble_eq_true rfl) (kr_7_0 (kr_11_0 hk)) hCe3 ?_
  refine bf_if_ne 43 dX11_layClause_38 (by decide) (fun c5 => ?_) (fun c5 => ?_)
  · have hf := (if_neg c5).symm.trans hf
    refine bf_iconst (v := 0) dX11_layClause_43 (by decide) ?_
    refine bf_istore_n (lv2 := [(3, .int _), (2, .int _), (0, .ref _), (1, .ref _)]) dX11_layClause_44 rfl (by decide) rfl ?_
    refine bf_perm [2, 3, 1, 0] rfl ?_
    refine ok_X11_layClause_45 hk hk0 (fun I12 L12 hf => ?_) _ _ _ _  hf
    refine bf_iconst (v := 1) dX11_layClause_86 (by decide) ?_
    obtain rfl := Option.some.inj hf
    exact bf_zret dX11_layClause_87 rfl rfl (Nat.le_refl _) (Nat.le_refl _) ⟨rfl, rfl⟩
  · have hf := (if_pos c5).symm.trans hf
    refine bf_iconst (v := 0) dX11_layClause_41 (by decide) ?_
    obtain rfl := Option.some.inj hf
    exact bf_zret dX11_layClause_42 rfl rfl (Nat.le_refl _) (Nat.le_refl _) ⟨rfl, rfl⟩
def f_X11_graph_29 (v0 : Nat) (K : Int32 → (Nat → Nat → Int32) → (Nat → Nat → Int64) → Option (Int32 × bf_St)) : Nat → Int32 → Int32 → (Nat → Nat → Int32) → (Nat → Nat → Int64) → Option (Int32 × bf_St)
  | 0, _, _, _, _ => none
  | n + 1, v2, v3, I, L =>
    (if (I (v0 + 124) 1) ≤ v3 then (K v2 I L) else (if (8 : Int32) ≤ v3 then (K v2 I L) else (if bf_ok v3 8 then ((f_X11_layClause v0 (((v0 + 124) + 2) + 1 + 2 * v3.toNatClampNeg) I L).bind (fun r8 => (if r8.1 = 0 then (f_X11_graph_29 v0 K n v2 (v3 + (1 : Int32)) r8.2.1 r8.2.2) else (f_X11_graph_29 v0 K n (v2 + (1 : Int32)) (v3 + (1 : Int32)) r8.2.1 r8.2.2)))) else none)))
set_option maxRecDepth 100000 in
set_option maxHeartbeats 4000000 in
theorem ok_X11_graph_29 {Γ : bf_Gm} {ad : Nat → Nat} {v0 : Nat} (hv0 : bf_kd v0 = 11) {r : Int32 × bf_St} {K : Int32 → (Nat → Nat → Int32) → (Nat → Nat → Int64) → Option (Int32 × bf_St)} (hK : ∀ (v2 : Int32) (I : Nat → Nat → Int32) (L : Nat → Nat → Int64), K v2 I L = some r → bf_Go Γ (bf_rm 5 0 0) mu_X11_graph bf_E0 (bf_Z Γ (fun q h => q = some (.int r.1) ∧ h = bf_S ad r.2.1 r.2.2) 0 0) (0, 0) 71 [(2, .int v2)] [] (bf_S ad I L)) : ∀ (n : Nat) (v2 : Int32) (v3 : Int32) (I : Nat → Nat → Int32) (L : Nat → Nat → Int64), f_X11_graph_29 v0 K n v2 v3 I L = some r → bf_Go Γ (bf_rm 5 0 0) mu_X11_graph bf_E0 (bf_Z Γ (fun q h => q = some (.int r.1) ∧ h = bf_S ad r.2.1 r.2.2) 0 0) (0, 0) 29 [(0, .ref (ad v0)), (2, .int v2), (3, .int v3)] [] (bf_S ad I L) := by
  intro n
  induction n with
  | zero => intro v2 v3 I L hf; exact absurd (show none = some r from hf) (by simp)
  | succ n ih =>
    intro v2 v3 I L hf
    rw [f_X11_graph_29] at hf
    refine bf_iload_n 2 dX11_graph_29 rfl rfl ?_
    refine bf_aload_n 0 dX11_graph_30 rfl rfl ?_
    refine fg_X11_49 dX11_graph_31 rfl hv0 ?_
    refine fg_X11_105 dX11_graph_34 rfl (kr_11_6 hv0) ?_
    refine bf_icmp_ge 71 dX11_graph_37 (by decide) (fun c4 => ?_) (fun c4 => ?_)
    · have hf := (if_pos c4).symm.trans hf
      refine bf_perm [1] rfl ?_
      exact hK _ _ _ hf
    · have hf := (if_neg c4).symm.trans hf
      refine bf_iload_n 2 dX11_graph_40 rfl rfl ?_
      refine bf_bipush (v := 8) dX11_graph_41 (by decide) ?_
      refine bf_icmp_ge 71 dX11_graph_43 (by decide) (fun c5 => ?_) (fun c5 => ?_)
      · have hf := (if_pos c5).symm.trans hf
        refine bf_perm [1] rfl ?_
        exact hK _ _ _ hf
      · have hf := (if_neg c5).symm.trans hf
        refine bf_aload_n 0 dX11_graph_46 rfl rfl ?_
        refine bf_aload_n 0 dX11_graph_47 rfl rfl ?_
        refine fg_X11_49 dX11_graph_48 rfl hv0 ?_
        refine fg_X11_108 dX11_graph_51 rfl (kr_11_6 hv0) ?_
        refine bf_iload_n 2 dX11_graph_54 rfl rfl ?_
        rcases Decidable.em (bf_ok v3 8) with c6 | c6
        · have hf := (if_pos c6).symm.trans hf
          refine al_17 dX11_graph_55 (kr_9_2 (kr_11_6 hv0)) (by rw [(la_17 (kr_9_2 (kr_11_6 hv0)))]; exact c6) ?_
          obtain ⟨r8, e7, hf⟩ := bf_bind hf
          have hCe7 := ok_X11_layClause (Γ := Γ) (ad := ad) hv0 (ka_17 (kr_9_2 (kr_11_6 hv0)) ((by rw [(la_17 (kr_9_2 (kr_11_6 hv0)))]; exact c6) : bf_ok _ _).2) e7
          refine cv_X11_112 3 dX11_graph_56 rfl ⟨Nat.le_of_ble_eq_true rfl, Nat.le_of_ble_eq_true rfl⟩ (Nat.le_of_ble_eq_true rfl) hv0 hCe7 ?_
          refine bf_if_eq 65 dX11_graph_59 (by decide) (fun c9 => ?_) (fun c9 => ?_)
          · have hf := (if_pos c9).symm.trans hf
            refine bf_iinc 2 (v := _ + (1 : Int32)) (lv2 := [(3, .int _), (0, .ref _), (2, .int _)]) dX11_graph_65 rfl (by rfl) (by decide) rfl ?_
            refine bf_goto 29 dX11_graph_68 (by decide) ?_
            refine bf_perm [1, 2, 0] rfl ?_
            exact ih _ _ _ _ hf
          · have hf := (if_neg c9).symm.trans hf
            refine bf_iinc 1 (v := _ + (1 : Int32)) (lv2 := [(2, .int _), (0, .ref _), (3, .int _)]) dX11_graph_62 rfl (by rfl) (by decide) rfl ?_
            refine bf_iinc 2 (v := _ + (1 : Int32)) (lv2 := [(3, .int _), (2, .int _), (0, .ref _)]) dX11_graph_65 rfl (by rfl) (by decide) rfl ?_
            refine bf_goto 29 dX11_graph_68 (by decide) ?_
            refine bf_perm [2, 1, 0] rfl ?_
            exact ih _ _ _ _ hf
        · exact absurd ((if_neg c6).symm.trans hf) (by simp)
def f_X11_graph (o : Nat) (I : Nat → Nat → Int32) (L : Nat → Nat → Int64) : Option (Int32 × bf_St) :=
  ((f_X9_findFault (o + 124) I L).bind (fun r2 => (if r2.1 < 0 then (f_X11_graph_29 o (fun k2_10 I10 L10 => (some (k2_10, I10, L10))) 400 (0 : Int32) (0 : Int32) (bf_u r2.2.1 (o + 124) 0 (0 : Int32)) r2.2.2) else (some (((-10 : Int32) - r2.1), (bf_u r2.2.1 (o + 124) 0 (0 : Int32)), r2.2.2)))))
set_option maxRecDepth 100000 in
set_option maxHeartbeats 4000000 in
theorem ok_X11_graph {Γ : bf_Gm} {ad : Nat → Nat} {o : Nat} {I : Nat → Nat → Int32} {L : Nat → Nat → Int64} (hk : bf_kd o = 11) {r : Int32 × bf_St} (hf : f_X11_graph o I L = some r) : bf_Cn Γ 5 mu_X11_graph 0 0 [.ref (ad o)] (bf_S ad I L) (fun q h => q = some (.int r.1) ∧ h = bf_S ad r.2.1 r.2.2) := by
  refine bf_met rfl (Nat.le_of_ble_eq_true rfl) ?_
  unfold f_X11_graph at hf
  refine bf_aload_n 0 dX11_graph_0 rfl rfl ?_
  refine fg_X11_49 dX11_graph_1 rfl hk ?_
  obtain ⟨r2, e1, hf⟩ := bf_bind hf
  have hCe1 := ok_X9_findFault (Γ := Γ) (ad := ad) (kr_11_6 hk) e1
  refine cv_X11_101 4 dX11_graph_4 rfl ⟨Nat.le_of_ble_eq_true rfl, Nat.le_of_ble_eq_true rfl⟩ (Nat.le_of_ble_eq_true rfl) (kr_11_6 hk) hCe1 ?_
  refine bf_istore_n (lv2 := [(1, .int _), (0, .ref _)]) dX11_graph_7 rfl (by decide) rfl ?_
  refine bf_aload_n 1 dX11_graph_8 rfl rfl ?_
  refine fg_X11_49 dX11_graph_9 rfl hk ?_
  refine bf_iconst (v := 0) dX11_graph_12 (by decide) ?_
  refine fp_X11_95 dX11_graph_13 rfl (kr_11_6 hk) ?_
  refine bf_iload_n 0 dX11_graph_16 rfl rfl ?_
  refine bf_if_lt 25 dX11_graph_17 (by decide) (fun c3 => ?_) (fun c3 => ?_)
  · have hf := (if_pos c3).symm.trans hf
    refine bf_iconst (v := 0) dX11_graph_25 (by decide) ?_
    refine bf_istore_n (lv2 := [(2, .int _), (1, .int _), (0, .ref _)]) dX11_graph_26 rfl (by decide) rfl ?_
    refine bf_iconst (v := 0) dX11_graph_27 (by decide) ?_
    refine bf_istore_n (lv2 := [(3, .int _), (2, .int _), (1, .int _), (0, .ref _)]) dX11_graph_28 rfl (by decide) rfl ?_
    refine bf_perm [3, 1, 0] rfl ?_
    refine ok_X11_graph_29 hk (fun k2_10 I10 L10 hf => ?_) _ _ _ _ _  hf
    refine bf_iload_n 0 dX11_graph_71 rfl rfl ?_
    obtain rfl := Option.some.inj hf
    exact bf_iret dX11_graph_72 rfl (Nat.le_refl _) (Nat.le_refl _) ⟨rfl, rfl⟩
  · have hf := (if_neg c3).symm.trans hf
    refine bf_bipush (v := -10) dX11_graph_20 (by decide) ?_
    refine bf_iload_n 0 dX11_graph_22 rfl rfl ?_
    refine bf_isub dX11_graph_23 ?_
    obtain rfl := Option.some.inj hf
    exact bf_iret dX11_graph_24 rfl (Nat.le_refl _) (Nat.le_refl _) ⟨rfl, rfl⟩
def f_X11_timesOf (o : Nat) (a0 : Int32) (I : Nat → Nat → Int32) (L : Nat → Nat → Int64) : Option (Int32 × bf_St) :=
  ((f_X6_look (o + 102) ((o + 1) + 1) I L).bind (fun r2 => (if (r2.1 (o + 102) 0) = 0 then (if bf_ok a0 6 then (some ((r2.1 ((o + 102) + 1) a0.toNatClampNeg), r2.1, r2.2)) else none) else (some ((-5 : Int32), r2.1, r2.2)))))
set_option maxRecDepth 100000 in
set_option maxHeartbeats 4000000 in
theorem ok_X11_timesOf {Γ : bf_Gm} {ad : Nat → Nat} {o : Nat} {a0 : Int32} {I : Nat → Nat → Int32} {L : Nat → Nat → Int64} (hk : bf_kd o = 11) {r : Int32 × bf_St} (hf : f_X11_timesOf o a0 I L = some r) : bf_Cn Γ 6 mu_X11_timesOf 0 0 [.ref (ad o), .int a0] (bf_S ad I L) (fun q h => q = some (.int r.1) ∧ h = bf_S ad r.2.1 r.2.2) := by
  refine bf_met rfl (Nat.le_of_ble_eq_true rfl) ?_
  unfold f_X11_timesOf at hf
  refine bf_aload_n 0 dX11_timesOf_0 rfl rfl ?_
  refine fg_X11_35 dX11_timesOf_1 rfl hk ?_
  refine bf_aload_n 0 dX11_timesOf_4 rfl rfl ?_
  refine fg_X11_14 dX11_timesOf_5 rfl hk ?_
  refine fg_X11_60 dX11_timesOf_8 rfl (kr_11_0 hk) ?_
  obtain ⟨r2, e1, hf⟩ := bf_bind hf
  have hCe1 := ok_X6_look (Γ := Γ) (ad := ad) (kr_11_4 hk) (kr_7_0 (kr_11_0 hk)) e1
  refine cv_X11_170 5 dX11_timesOf_11 rfl ⟨Nat.le_of_ble_eq_true rfl, Nat.le_of_ble_eq_true rfl⟩ (Nat.le_of_ble_eq_true rfl) (kr_11_4 hk) hCe1 ?_
  refine bf_aload_n 0 dX11_timesOf_14 rfl rfl ?_
  refine fg_X11_35 dX11_timesOf_15 rfl hk ?_
  refine fg_X11_174 dX11_timesOf_18 rfl (kr_11_4 hk) ?_
  refine bf_if_eq 29 dX11_timesOf_21 (by decide) (fun c3 => ?_) (fun c3 => ?_)
  · have hf := (if_pos c3).symm.trans hf
    refine bf_aload_n 0 dX11_timesOf_29 rfl rfl ?_
    refine fg_X11_35 dX11_timesOf_30 rfl hk ?_
    refine fg_X11_177 dX11_timesOf_33 rfl (kr_11_4 hk) ?_
    refine bf_iload_n 1 dX11_timesOf_36 rfl rfl ?_
    rcases Decidable.em (bf_ok a0 6) with c4 | c4
    · have hf := (if_pos c4).symm.trans hf
      refine bf_iald dX11_timesOf_37 (kr_6_3 (kr_11_4 hk)) (by rw [(kl_6_3 (kr_11_4 hk))]; exact c4) ?_
      obtain rfl := Option.some.inj hf
      exact bf_iret dX11_timesOf_38 rfl (Nat.le_refl _) (Nat.le_refl _) ⟨rfl, rfl⟩
    · exact absurd ((if_neg c4).symm.trans hf) (by simp)
  · have hf := (if_neg c3).symm.trans hf
    refine bf_bipush (v := -5) dX11_timesOf_24 (by decide) ?_
    refine bf_goto 38 dX11_timesOf_26 (by decide) ?_
    obtain rfl := Option.some.inj hf
    exact bf_iret dX11_timesOf_38 rfl (Nat.le_refl _) (Nat.le_refl _) ⟨rfl, rfl⟩
def f_X11_of (o : Nat) (a0 : Int32) (a1 : Int32) (I : Nat → Nat → Int32) (L : Nat → Nat → Int64) : Option (Int32 × bf_St) :=
  ((f_X3_hasBox ((o + 1) + 1) a0 I L).bind (fun r2 => (if r2.1 = 0 then (some ((-1 : Int32), r2.2.1, r2.2.2)) else (if a1 = 0 then (if bf_ok a0 6 then (some ((r2.2.1 ((((o + 1) + 1) + 1) + 1 + a0.toNatClampNeg) 0), r2.2.1, r2.2.2)) else none) else (if a1 = 1 then (if bf_ok a0 6 then (some ((r2.2.1 ((((o + 1) + 1) + 1) + 1 + a0.toNatClampNeg) 1), r2.2.1, r2.2.2)) else none) else (if a1 = 2 then (if bf_ok a0 6 then (some ((r2.2.1 ((((o + 1) + 1) + 1) + 1 + a0.toNatClampNeg) 2), r2.2.1, r2.2.2)) else none) else (if a1 = 3 then ((f_X11_timesOf o a0 r2.2.1 r2.2.2).bind (fun r12 => (some (r12.1, r12.2.1, r12.2.2)))) else (if a1 = 4 then ((f_X6_canFire (o + 102) ((o + 1) + 1) a0 r2.2.1 r2.2.2).bind (fun r15 => (if r15.1 = 0 then (some ((0 : Int32), r15.2.1, r15.2.2)) else (some ((1 : Int32), r15.2.1, r15.2.2))))) else (if a1 = 5 then ((f_X3_feedback ((o + 1) + 1) a0 r2.2.1 r2.2.2).bind (fun r19 => (some (r19.1, r19.2.1, r19.2.2)))) else (if a1 = 6 then ((f_X3_wiresTo ((o + 1) + 1) a0 r2.2.1 r2.2.2).bind (fun r22 => (some (r22.1, r22.2.1, r22.2.2)))) else (if a1 = 7 then ((f_X3_wiresFrom ((o + 1) + 1) a0 r2.2.1 r2.2.2).bind (fun r25 => (some (r25.1, r25.2.1, r25.2.2)))) else (some ((-1 : Int32), r2.2.1, r2.2.2)))))))))))))
set_option maxRecDepth 100000 in
set_option maxHeartbeats 4000000 in
theorem ok_X11_of {Γ : bf_Gm} {ad : Nat → Nat} {o : Nat} {a0 : Int32} {a1 : Int32} {I : Nat → Nat → Int32} {L : Nat → Nat → Int64} (hk : bf_kd o = 11) {r : Int32 × bf_St} (hf : f_X11_of o a0 a1 I L = some r) : bf_Cn Γ 7 mu_X11_of 0 0 [.ref (ad o), .int a0, .int a1] (bf_S ad I L) (fun q h => q = some (.int r.1) ∧ h = bf_S ad r.2.1 r.2.2) := by
  refine bf_met rfl (Nat.le_of_ble_eq_true rfl) ?_
  unfold f_X11_of at hf
  refine bf_aload_n 0 dX11_of_0 rfl rfl ?_
  refine fg_X11_14 dX11_of_1 rfl hk ?_
  refine fg_X11_60 dX11_of_4 rfl (kr_11_0 hk) ?_
  refine bf_iload_n 1 dX11_of_7 rfl rfl ?_
  obtain ⟨r2, e1, hf⟩ := bf_bind hf
  have hCe1 := ok_X3_hasBox (Γ := Γ) (ad := ad) (kr_7_0 (kr_11_0 hk)) e1
  refine cv_X11_135 0 dX11_of_8 rfl ⟨Nat.le_of_ble_eq_true rfl, Nat.le_of_ble_eq_true rfl⟩ (Nat.le_of_ble_eq_true rfl) (kr_7_0 (kr_11_0 hk)) hCe1 ?_
  refine bf_if_ne 16 dX11_of_11 (by decide) (fun c3 => ?_) (fun c3 => ?_)
  · have hf := (if_neg c3).symm.trans hf
    refine bf_iload_n 2 dX11_of_16 rfl rfl ?_
    rcases Decidable.em (a1 = 0) with c4 | c4
    · have hf := (if_pos c4).symm.trans hf
      refine bf_swIn 64 dX11_of_17 (by rw [c4]; decide) (by rw [c4]; decide) (by rw [c4]; rfl) (by decide) ?_
      refine bf_aload_n 0 dX11_of_64 rfl rfl ?_
      refine fg_X11_14 dX11_of_65 rfl hk ?_
      refine fg_X11_60 dX11_of_68 rfl (kr_11_0 hk) ?_
      refine fg_X11_138 dX11_of_71 rfl (kr_7_0 (kr_11_0 hk)) ?_
      refine bf_iload_n 1 dX11_of_74 rfl rfl ?_
      rcases Decidable.em (bf_ok a0 6) with c5 | c5
      · have hf := (if_pos c5).symm.trans hf
        refine al_16 dX11_of_75 (kr_3_0 (kr_7_0 (kr_11_0 hk))) (by rw [(la_16 (kr_3_0 (kr_7_0 (kr_11_0 hk))))]; exact c5) ?_
        refine fg_X11_142 dX11_of_76 rfl (ka_16 (kr_3_0 (kr_7_0 (kr_11_0 hk))) ((by rw [(la_16 (kr_3_0 (kr_7_0 (kr_11_0 hk))))]; exact c5) : bf_ok _ _).2) ?_
        obtain rfl := Option.some.inj hf
        exact bf_iret dX11_of_79 rfl (Nat.le_refl _) (Nat.le_refl _) ⟨rfl, rfl⟩
      · exact absurd ((if_neg c5).symm.trans hf) (by simp)
    · have hf := (if_neg c4).symm.trans hf
      rcases Decidable.em (a1 = 1) with c6 | c6
      · have hf := (if_pos c6).symm.trans hf
        refine bf_swIn 80 dX11_of_17 (by rw [c6]; decide) (by rw [c6]; decide) (by rw [c6]; rfl) (by decide) ?_
        refine bf_aload_n 0 dX11_of_80 rfl rfl ?_
        refine fg_X11_14 dX11_of_81 rfl hk ?_
        refine fg_X11_60 dX11_of_84 rfl (kr_11_0 hk) ?_
        refine fg_X11_138 dX11_of_87 rfl (kr_7_0 (kr_11_0 hk)) ?_
        refine bf_iload_n 1 dX11_of_90 rfl rfl ?_
        rcases Decidable.em (bf_ok a0 6) with c7 | c7
        · have hf := (if_pos c7).symm.trans hf
          refine al_16 dX11_of_91 (kr_3_0 (kr_7_0 (kr_11_0 hk))) (by rw [(la_16 (kr_3_0 (kr_7_0 (kr_11_0 hk))))]; exact c7) ?_
          refine fg_X11_147 dX11_of_92 rfl (ka_16 (kr_3_0 (kr_7_0 (kr_11_0 hk))) ((by rw [(la_16 (kr_3_0 (kr_7_0 (kr_11_0 hk))))]; exact c7) : bf_ok _ _).2) ?_
          obtain rfl := Option.some.inj hf
          exact bf_iret dX11_of_95 rfl (Nat.le_refl _) (Nat.le_refl _) ⟨rfl, rfl⟩
        · exact absurd ((if_neg c7).symm.trans hf) (by simp)
      · have hf := (if_neg c6).symm.trans hf
        rcases Decidable.em (a1 = 2) with c8 | c8
        · have hf := (if_pos c8).symm.trans hf
          refine bf_swIn 96 dX11_of_17 (by rw [c8]; decide) (by rw [c8]; decide) (by rw [c8]; rfl) (by decide) ?_
          refine bf_aload_n 0 dX11_of_96 rfl rfl ?_
          refine fg_X11_14 dX11_of_97 rfl hk ?_
          refine fg_X11_60 dX11_of_100 rfl (kr_11_0 hk) ?_
          refine fg_X11_138 dX11_of_103 rfl (kr_7_0 (kr_11_0 hk)) ?_
          refine bf_iload_n 1 dX11_of_106 rfl rfl ?_
          rcases Decidable.em (bf_ok a0 6) with c9 | c9
          · have hf := (if_pos c9).symm.trans hf
            refine al_16 dX11_of_107 (kr_3_0 (kr_7_0 (kr_11_0 hk))) (by rw [(la_16 (kr_3_0 (kr_7_0 (kr_11_0 hk))))]; exact c9) ?_
            refine fg_X11_150 dX11_of_108 rfl (ka_16 (kr_3_0 (kr_7_0 (kr_11_0 hk))) ((by rw [(la_16 (kr_3_0 (kr_7_0 (kr_11_0 hk))))]; exact c9) : bf_ok _ _).2) ?_
            obtain rfl := Option.some.inj hf
            exact bf_iret dX11_of_111 rfl (Nat.le_refl _) (Nat.le_refl _) ⟨rfl, rfl⟩
          · exact absurd ((if_neg c9).symm.trans hf) (by simp)
        · have hf := (if_neg c8).symm.trans hf
          rcases Decidable.em (a1 = 3) with c10 | c10
          · have hf := (if_pos c10).symm.trans hf
            refine bf_swIn 112 dX11_of_17 (by rw [c10]; decide) (by rw [c10]; decide) (by rw [c10]; rfl) (by decide) ?_
            refine bf_aload_n 0 dX11_of_112 rfl rfl ?_
            refine bf_iload_n 1 dX11_of_113 rfl rfl ?_
            obtain ⟨r12, e11, hf⟩ := bf_bind hf
            have hCe11 := ok_X11_timesOf (Γ := Γ) (ad := ad) hk e11
            refine cv_X11_153 6 dX11_of_114 rfl ⟨Nat.le_of_ble_eq_true rfl, Nat.le_of_ble_eq_true rfl⟩ (Nat.le_of_ble_eq_true rfl) hk hCe11 ?_
            obtain rfl := Option.some.inj hf
            exact bf_iret dX11_of_117 rfl (Nat.le_refl _) (Nat.le_refl _) ⟨rfl, rfl⟩
          · have hf := (if_neg c10).symm.trans hf
            rcases Decidable.em (a1 = 4) with c13 | c13
            · have hf := (if_pos c13).symm.trans hf
              refine bf_swIn 118 dX11_of_17 (by rw [c13]; decide) (by rw [c13]; decide) (by rw [c13]; rfl) (by decide) ?_
              refine bf_aload_n 0 dX11_of_118 rfl rfl ?_
              refine fg_X11_35 dX11_of_119 rfl hk ?_
              refine bf_aload_n 0 dX11_of_122 rfl rfl ?_
              refine fg_X11_14 dX11_of_123 rfl hk ?_
              refine fg_X11_60 dX11_of_126 rfl (kr_11_0 hk) ?_
              refine bf_iload_n 1 dX11_of_129 rfl rfl ?_
              obtain ⟨r15, e14, hf⟩ := bf_bind hf
              have hCe14 := ok_X6_canFire (Γ := Γ) (ad := ad) (kr_11_4 hk) (kr_7_0 (kr_11_0 hk)) e14
              refine cv_X11_157 3 dX11_of_130 rfl ⟨Nat.le_of_ble_eq_true rfl, Nat.le_of_ble_eq_true rfl⟩ (Nat.le_of_ble_eq_true rfl) (kr_11_4 hk) hCe14 ?_
              refine bf_if_eq 140 dX11_of_133 (by decide) (fun c16 => ?_) (fun c16 => ?_)
              · have hf := (if_pos c16).symm.trans hf
                refine bf_iconst (v := 0) dX11_of_140 (by decide) ?_
                obtain rfl := Option.some.inj hf
                exact bf_iret dX11_of_141 rfl (Nat.le_refl _) (Nat.le_refl _) ⟨rfl, rfl⟩
              · have hf := (if_neg c16).symm.trans hf
                refine bf_iconst (v := 1) dX11_of_136 (by decide) ?_
                refine bf_goto 141 dX11_of_137 (by decide) ?_
                obtain rfl := Option.some.inj hf
                exact bf_iret dX11_of_141 rfl (Nat.le_refl _) (Nat.le_refl _) ⟨rfl, rfl⟩
            · have hf := (if_neg c13).symm.trans hf
              rcases Decidable.em (a1 = 5) with c17 | c17
              · have hf := (if_pos c17).symm.trans hf
                refine bf_swIn 142 dX11_of_17 (by rw [c17]; decide) (by rw [c17]; decide) (by rw [c17]; rfl) (by decide) ?_
                refine bf_aload_n 0 dX11_of_142 rfl rfl ?_
                refine fg_X11_14 dX11_of_143 rfl hk ?_
                refine fg_X11_60 dX11_of_146 rfl (kr_11_0 hk) ?_
                refine bf_iload_n 1 dX11_of_149 rfl rfl ?_
                obtain ⟨r19, e18, hf⟩ := bf_bind hf
                have hCe18 := ok_X3_feedback (Γ := Γ) (ad := ad) (kr_7_0 (kr_11_0 hk)) e18
                refine cv_X11_161 2 dX11_of_150 rfl ⟨Nat.le_of_ble_eq_true rfl, Nat.le_of_ble_eq_true rfl⟩ (Nat.le_of_ble_eq_true rfl) (kr_7_0 (kr_11_0 hk)) hCe18 ?_
                obtain rfl := Option.some.inj hf
                exact bf_iret dX11_of_153 rfl (Nat.le_refl _) (Nat.le_refl _) ⟨rfl, rfl⟩
              · have hf := (if_neg c17).symm.trans hf
                rcases Decidable.em (a1 = 6) with c20 | c20
                · have hf := (if_pos c20).symm.trans hf
                  refine bf_swIn 154 dX11_of_17 (by rw [c20]; decide) (by rw [c20]; decide) (by rw [c20]; rfl) (by decide) ?_
                  refine bf_aload_n 0 dX11_of_154 rfl rfl ?_
                  refine fg_X11_14 dX11_of_155 rfl hk ?_
                  refine fg_X11_60 dX11_of_158 rfl (kr_11_0 hk) ?_
                  refine bf_iload_n 1 dX11_of_161 rfl rfl ?_
                  obtain ⟨r22, e21, hf⟩ := bf_bind hf
                  have hCe21 := ok_X3_wiresTo (Γ := Γ) (ad := ad) (kr_7_0 (kr_11_0 hk)) e21
                  refine cv_X11_164 1 dX11_of_162 rfl ⟨Nat.le_of_ble_eq_true rfl, Nat.le_of_ble_eq_true rfl⟩ (Nat.le_of_ble_eq_true rfl) (kr_7_0 (kr_11_0 hk)) hCe21 ?_
                  obtain rfl := Option.some.inj hf
                  exact bf_iret dX11_of_165 rfl (Nat.le_refl _) (Nat.le_refl _) ⟨rfl, rfl⟩
                · have hf := (if_neg c20).symm.trans hf
                  rcases Decidable.em (a1 = 7) with c23 | c23
                  · have hf := (if_pos c23).symm.trans hf
                    refine bf_swIn 166 dX11_of_17 (by rw [c23]; decide) (by rw [c23]; decide) (by rw [c23]; rfl) (by decide) ?_
                    refine bf_aload_n 0 dX11_of_166 rfl rfl ?_
                    refine fg_X11_14 dX11_of_167 rfl hk ?_
                    refine fg_X11_60 dX11_of_170 rfl (kr_11_0 hk) ?_
                    refine bf_iload_n 1 dX11_of_173 rfl rfl ?_
                    obtain ⟨r25, e24, hf⟩ := bf_bind hf
                    have hCe24 := ok_X3_wiresFrom (Γ := Γ) (ad := ad) (kr_7_0 (kr_11_0 hk)) e24
                    refine cv_X11_167 1 dX11_of_174 rfl ⟨Nat.le_of_ble_eq_true rfl, Nat.le_of_ble_eq_true rfl⟩ (Nat.le_of_ble_eq_true rfl) (kr_7_0 (kr_11_0 hk)) hCe24 ?_
                    obtain rfl := Option.some.inj hf
                    exact bf_iret dX11_of_177 rfl (Nat.le_refl _) (Nat.le_refl _) ⟨rfl, rfl⟩
                  · have hf := (if_neg c23).symm.trans hf
                    have c4 : _ ≠ (0 : Int) := bf_nne c4
                    have c6 : _ ≠ (1 : Int) := bf_nne c6
                    have c8 : _ ≠ (2 : Int) := bf_nne c8
                    have c10 : _ ≠ (3 : Int) := bf_nne c10
                    have c13 : _ ≠ (4 : Int) := bf_nne c13
                    have c17 : _ ≠ (5 : Int) := bf_nne c17
                    have c20 : _ ≠ (6 : Int) := bf_nne c20
                    have c23 : _ ≠ (7 : Int) := bf_nne c23
                    refine bf_swOut 178 dX11_of_17 (by omega) (by decide) ?_
                    refine bf_iconst (v := -1) dX11_of_178 (by decide) ?_
                    obtain rfl := Option.some.inj hf
                    exact bf_iret dX11_of_179 rfl (Nat.le_refl _) (Nat.le_refl _) ⟨rfl, rfl⟩
  · have hf := (if_pos c3).symm.trans hf
    refine bf_iconst (v := -1) dX11_of_14 (by decide) ?_
    obtain rfl := Option.some.inj hf
    exact bf_iret dX11_of_15 rfl (Nat.le_refl _) (Nat.le_refl _) ⟨rfl, rfl⟩
def f_X11_heldBy (o : Nat) (a0 : Int32) (I : Nat → Nat → Int32) (L : Nat → Nat → Int64) : Option (Int32 × bf_St) :=
  ((f_X6_look (o + 102) ((o + 1) + 1) I L).bind (fun r2 => (if (r2.1 (o + 102) 0) = 0 then (if bf_ok a0 8 then (some ((r2.1 ((o + 102) + 3) a0.toNatClampNeg), r2.1, r2.2)) else none) else (some ((-5 : Int32), r2.1, r2.2)))))
set_option maxRecDepth 100000 in
set_option maxHeartbeats 4000000 in
theorem ok_X11_heldBy {Γ : bf_Gm} {ad : Nat → Nat} {o : Nat} {a0 : Int32} {I : Nat → Nat → Int32} {L : Nat → Nat → Int64} (hk : bf_kd o = 11) {r : Int32 × bf_St} (hf : f_X11_heldBy o a0 I L = some r) : bf_Cn Γ 6 mu_X11_heldBy 0 0 [.ref (ad o), .int a0] (bf_S ad I L) (fun q h => q = some (.int r.1) ∧ h = bf_S ad r.2.1 r.2.2) := by
  refine bf_met rfl (Nat.le_of_ble_eq_true rfl) ?_
  unfold f_X11_heldBy at hf
  refine bf_aload_n 0 dX11_heldBy_0 rfl rfl ?_
  refine fg_X11_35 dX11_heldBy_1 rfl hk ?_
  refine bf_aload_n 0 dX11_heldBy_4 rfl rfl ?_
  refine fg_X11_14 dX11_heldBy_5 rfl hk ?_
  refine fg_X11_60 dX11_heldBy_8 rfl (kr_11_0 hk) ?_
  obtain ⟨r2, e1, hf⟩ := bf_bind hf
  have hCe1 := ok_X6_look (Γ := Γ) (ad := ad) (kr_11_4 hk) (kr_7_0 (kr_11_0 hk)) e1
  refine cv_X11_170 5 dX11_heldBy_11 rfl ⟨Nat.le_of_ble_eq_true rfl, Nat.le_of_ble_eq_true rfl⟩ (Nat.le_of_ble_eq_true rfl) (kr_11_4 hk) hCe1 ?_
  refine bf_aload_n 0 dX11_heldBy_14 rfl rfl ?_
  refine fg_X11_35 dX11_heldBy_15 rfl hk ?_
  refine fg_X11_174 dX11_heldBy_18 rfl (kr_11_4 hk) ?_
  refine bf_if_eq 29 dX11_heldBy_21 (by decide) (fun c3 => ?_) (fun c3 => ?_)
  · have hf := (if_pos c3).symm.trans hf
    refine bf_aload_n 0 dX11_heldBy_29 rfl rfl ?_
    refine fg_X11_35 dX11_heldBy_30 rfl hk ?_
    refine fg_X11_190 dX11_heldBy_33 rfl (kr_11_4 hk) ?_
    refine bf_iload_n 1 dX11_heldBy_36 rfl rfl ?_
    rcases Decidable.em (bf_ok a0 8) with c4 | c4
    · have hf := (if_pos c4).symm.trans hf
      refine bf_iald dX11_heldBy_37 (kr_6_6 (kr_11_4 hk)) (by rw [(kl_6_6 (kr_11_4 hk))]; exact c4) ?_
      obtain rfl := Option.some.inj hf
      exact bf_iret dX11_heldBy_38 rfl (Nat.le_refl _) (Nat.le_refl _) ⟨rfl, rfl⟩
    · exact absurd ((if_neg c4).symm.trans hf) (by simp)
  · have hf := (if_neg c3).symm.trans hf
    refine bf_bipush (v := -5) dX11_heldBy_24 (by decide) ?_
    refine bf_goto 38 dX11_heldBy_26 (by decide) ?_
    obtain rfl := Option.some.inj hf
    exact bf_iret dX11_heldBy_38 rfl (Nat.le_refl _) (Nat.le_refl _) ⟨rfl, rfl⟩
def f_X11_needOf_2 (v0 : Nat) (v1 : Int32) (K : (Nat → Nat → Int32) → (Nat → Nat → Int64) → Option (Int32 × bf_St)) : Nat → Int32 → (Nat → Nat → Int32) → (Nat → Nat → Int64) → Option (Int32 × bf_St)
  | 0, _, _, _ => none
  | n + 1, v2, I, L =>
    (if (20 : Int32) < v2 then (K I L) else ((f_X6_lookWith (v0 + 102) ((v0 + 1) + 1) v1 v2 I L).bind (fun r3 => ((f_X6_goes (v0 + 102) r3.1 r3.2).bind (fun r5 => (if r5.1 = 0 then (f_X11_needOf_2 v0 v1 K n (v2 + (1 : Int32)) r5.2.1 r5.2.2) else (some (v2, r5.2.1, r5.2.2))))))))
set_option maxRecDepth 100000 in
set_option maxHeartbeats 4000000 in
theorem ok_X11_needOf_2 {Γ : bf_Gm} {ad : Nat → Nat} {v0 : Nat} {v1 : Int32} (hv0 : bf_kd v0 = 11) {r : Int32 × bf_St} {K : (Nat → Nat → Int32) → (Nat → Nat → Int64) → Option (Int32 × bf_St)} (hK : ∀ (I : Nat → Nat → Int32) (L : Nat → Nat → Int64), K  I L = some r → bf_Go Γ (bf_rm 6 0 0) mu_X11_needOf bf_E0 (bf_Z Γ (fun q h => q = some (.int r.1) ∧ h = bf_S ad r.2.1 r.2.2) 0 0) (0, 0) 42 [] [] (bf_S ad I L)) : ∀ (n : Nat) (v2 : Int32) (I : Nat → Nat → Int32) (L : Nat → Nat → Int64), f_X11_needOf_2 v0 v1 K n v2 I L = some r → bf_Go Γ (bf_rm 6 0 0) mu_X11_needOf bf_E0 (bf_Z Γ (fun q h => q = some (.int r.1) ∧ h = bf_S ad r.2.1 r.2.2) 0 0) (0, 0) 2 [(0, .ref (ad v0)), (1, .int v1), (2, .int v2)] [] (bf_S ad I L) := by
  intro n
  induction n with
  | zero => intro v2 I L hf; exact absurd (show none = some r from hf) (by simp)
  | succ n ih =>
    intro v2 I L hf
    rw [f_X11_needOf_2] at hf
    refine bf_iload_n 2 dX11_needOf_2 rfl rfl ?_
    refine bf_bipush (v := 20) dX11_needOf_3 (by decide) ?_
    refine bf_icmp_gt 42 dX11_needOf_5 (by decide) (fun c1 => ?_) (fun c1 => ?_)
    · have hf := (if_pos c1).symm.trans hf
      refine bf_perm [] rfl ?_
      exact hK _ _ hf
    · have hf := (if_neg c1).symm.trans hf
      refine bf_aload_n 0 dX11_needOf_8 rfl rfl ?_
      refine fg_X11_35 dX11_needOf_9 rfl hv0 ?_
      refine bf_aload_n 0 dX11_needOf_12 rfl rfl ?_
      refine fg_X11_14 dX11_needOf_13 rfl hv0 ?_
      refine fg_X11_60 dX11_needOf_16 rfl (kr_11_0 hv0) ?_
      refine bf_iload_n 1 dX11_needOf_19 rfl rfl ?_
      refine bf_iload_n 2 dX11_needOf_20 rfl rfl ?_
      obtain ⟨r3, e2, hf⟩ := bf_bind hf
      have hCe2 := ok_X6_lookWith (Γ := Γ) (ad := ad) (kr_11_4 hv0) (kr_7_0 (kr_11_0 hv0)) e2
      refine cv_X11_193 5 dX11_needOf_21 rfl ⟨Nat.le_of_ble_eq_true rfl, Nat.le_of_ble_eq_true rfl⟩ (Nat.le_of_ble_eq_true rfl) (kr_11_4 hv0) hCe2 ?_
      refine bf_aload_n 0 dX11_needOf_24 rfl rfl ?_
      refine fg_X11_35 dX11_needOf_25 rfl hv0 ?_
      obtain ⟨r5, e4, hf⟩ := bf_bind hf
      have hCe4 := ok_X6_goes (Γ := Γ) (ad := ad) (kr_11_4 hv0) e4
      refine cv_X11_197 0 dX11_needOf_28 rfl ⟨Nat.le_of_ble_eq_true rfl, Nat.le_of_ble_eq_true rfl⟩ (Nat.le_of_ble_eq_true rfl) (kr_11_4 hv0) hCe4 ?_
      refine bf_if_eq 36 dX11_needOf_31 (by decide) (fun c6 => ?_) (fun c6 => ?_)
      · have hf := (if_pos c6).symm.trans hf
        refine bf_iinc 2 (v := _ + (1 : Int32)) (lv2 := [(2, .int _), (0, .ref _), (1, .int _)]) dX11_needOf_36 rfl (by rfl) (by decide) rfl ?_
        refine bf_goto 2 dX11_needOf_39 (by decide) ?_
        refine bf_perm [1, 2, 0] rfl ?_
        exact ih _ _ _ hf
      · have hf := (if_neg c6).symm.trans hf
        refine bf_iload_n 2 dX11_needOf_34 rfl rfl ?_
        obtain rfl := Option.some.inj hf
        exact bf_iret dX11_needOf_35 rfl (Nat.le_refl _) (Nat.le_refl _) ⟨rfl, rfl⟩
def f_X11_needOf (o : Nat) (a0 : Int32) (I : Nat → Nat → Int32) (L : Nat → Nat → Int64) : Option (Int32 × bf_St) :=
  (f_X11_needOf_2 o a0 (fun I7 L7 => (some ((-5 : Int32), I7, L7))) 400 (0 : Int32) I L)
set_option maxRecDepth 100000 in
set_option maxHeartbeats 4000000 in
theorem ok_X11_needOf {Γ : bf_Gm} {ad : Nat → Nat} {o : Nat} {a0 : Int32} {I : Nat → Nat → Int32} {L : Nat → Nat → Int64} (hk : bf_kd o = 11) {r : Int32 × bf_St} (hf : f_X11_needOf o a0 I L = some r) : bf_Cn Γ 6 mu_X11_needOf 0 0 [.ref (ad o), .int a0] (bf_S ad I L) (fun q h => q = some (.int r.1) ∧ h = bf_S ad r.2.1 r.2.2) := by
  refine bf_met rfl (Nat.le_of_ble_eq_true rfl) ?_
  unfold f_X11_needOf at hf
  refine bf_iconst (v := 0) dX11_needOf_0 (by decide) ?_
  refine bf_istore_n (lv2 := [(2, .int _), (0, .ref _), (1, .int _)]) dX11_needOf_1 rfl (by decide) rfl ?_
  refine bf_perm [1, 2, 0] rfl ?_
  refine ok_X11_needOf_2 hk (fun I7 L7 hf => ?_) _ _ _ _  hf
  refine bf_bipush (v := -5) dX11_needOf_42 (by decide) ?_
  obtain rfl := Option.some.inj hf
  exact bf_iret dX11_needOf_44 rfl (Nat.le_refl _) (Nat.le_refl _) ⟨rfl, rfl⟩
def f_X11_about (o : Nat) (a0 : Int32) (a1 : Int32) (I : Nat → Nat → Int32) (L : Nat → Nat → Int64) : Option (Int32 × bf_St) :=
  ((f_X3_hasWire ((o + 1) + 1) a0 I L).bind (fun r2 => (if r2.1 = 0 then (some ((-1 : Int32), r2.2.1, r2.2.2)) else (if bf_ok a0 8 then (if a1 = 0 then (some ((r2.2.1 ((((o + 1) + 1) + 8) + 1 + 2 * a0.toNatClampNeg) 0), r2.2.1, r2.2.2)) else (if a1 = 1 then (some ((r2.2.1 ((((o + 1) + 1) + 8) + 1 + 2 * a0.toNatClampNeg) 1), r2.2.1, r2.2.2)) else (if a1 = 2 then (some ((r2.2.1 ((((o + 1) + 1) + 8) + 1 + 2 * a0.toNatClampNeg) 2), r2.2.1, r2.2.2)) else (if a1 = 3 then (some ((r2.2.1 ((((o + 1) + 1) + 8) + 1 + 2 * a0.toNatClampNeg) 3), r2.2.1, r2.2.2)) else (if a1 = 4 then (some ((r2.2.1 ((((o + 1) + 1) + 8) + 1 + 2 * a0.toNatClampNeg) 5), r2.2.1, r2.2.2)) else (if a1 = 5 then ((f_X11_heldBy o a0 r2.2.1 r2.2.2).bind (fun r12 => (some (r12.1, r12.2.1, r12.2.2)))) else (if a1 = 6 then ((f_X11_needOf o a0 r2.2.1 r2.2.2).bind (fun r15 => (some (r15.1, r15.2.1, r15.2.2)))) else (some ((-1 : Int32), r2.2.1, r2.2.2))))))))) else none))))
set_option maxRecDepth 100000 in
set_option maxHeartbeats 4000000 in
theorem ok_X11_about {Γ : bf_Gm} {ad : Nat → Nat} {o : Nat} {a0 : Int32} {a1 : Int32} {I : Nat → Nat → Int32} {L : Nat → Nat → Int64} (hk : bf_kd o = 11) {r : Int32 × bf_St} (hf : f_X11_about o a0 a1 I L = some r) : bf_Cn Γ 7 mu_X11_about 0 0 [.ref (ad o), .int a0, .int a1] (bf_S ad I L) (fun q h => q = some (.int r.1) ∧ h = bf_S ad r.2.1 r.2.2) := by
  refine bf_met rfl (Nat.le_of_ble_eq_true rfl) ?_
  unfold f_X11_about at hf
  refine bf_aload_n 0 dX11_about_0 rfl rfl ?_
  refine fg_X11_14 dX11_about_1 rfl hk ?_
  refine fg_X11_60 dX11_about_4 rfl (kr_11_0 hk) ?_
  refine bf_iload_n 1 dX11_about_7 rfl rfl ?_
  obtain ⟨r2, e1, hf⟩ := bf_bind hf
  have hCe1 := ok_X3_hasWire (Γ := Γ) (ad := ad) (kr_7_0 (kr_11_0 hk)) e1
  refine cv_X11_71 0 dX11_about_8 rfl ⟨Nat.le_of_ble_eq_true rfl, Nat.le_of_ble_eq_true rfl⟩ (Nat.le_of_ble_eq_true rfl) (kr_7_0 (kr_11_0 hk)) hCe1 ?_
  refine bf_if_ne 16 dX11_about_11 (by decide) (fun c3 => ?_) (fun c3 => ?_)
  · have hf := (if_neg c3).symm.trans hf
    refine bf_aload_n 0 dX11_about_16 rfl rfl ?_
    refine fg_X11_14 dX11_about_17 rfl hk ?_
    refine fg_X11_60 dX11_about_20 rfl (kr_11_0 hk) ?_
    refine fg_X11_75 dX11_about_23 rfl (kr_7_0 (kr_11_0 hk)) ?_
    refine bf_iload_n 1 dX11_about_26 rfl rfl ?_
    rcases Decidable.em (bf_ok a0 8) with c4 | c4
    · have hf := (if_pos c4).symm.trans hf
      refine al_19 dX11_about_27 (kr_3_1 (kr_7_0 (kr_11_0 hk))) (by rw [(la_19 (kr_3_1 (kr_7_0 (kr_11_0 hk))))]; exact c4) ?_
      refine bf_astore_n (lv2 := [(3, .ref _), (0, .ref _), (1, .int _), (2, .int _)]) dX11_about_28 rfl (by decide) rfl ?_
      refine bf_iload_n 3 dX11_about_29 rfl rfl ?_
      rcases Decidable.em (a1 = 0) with c5 | c5
      · have hf := (if_pos c5).symm.trans hf
        refine bf_swIn 72 dX11_about_30 (by rw [c5]; decide) (by rw [c5]; decide) (by rw [c5]; rfl) (by decide) ?_
        refine bf_aload_n 0 dX11_about_72 rfl rfl ?_
        refine fg_X11_180 dX11_about_73 rfl (ka_19 (kr_3_1 (kr_7_0 (kr_11_0 hk))) ((by rw [(la_19 (kr_3_1 (kr_7_0 (kr_11_0 hk))))]; exact c4) : bf_ok _ _).2) ?_
        obtain rfl := Option.some.inj hf
        exact bf_iret dX11_about_76 rfl (Nat.le_refl _) (Nat.le_refl _) ⟨rfl, rfl⟩
      · have hf := (if_neg c5).symm.trans hf
        rcases Decidable.em (a1 = 1) with c6 | c6
        · have hf := (if_pos c6).symm.trans hf
          refine bf_swIn 77 dX11_about_30 (by rw [c6]; decide) (by rw [c6]; decide) (by rw [c6]; rfl) (by decide) ?_
          refine bf_aload_n 0 dX11_about_77 rfl rfl ?_
          refine fg_X11_181 dX11_about_78 rfl (ka_19 (kr_3_1 (kr_7_0 (kr_11_0 hk))) ((by rw [(la_19 (kr_3_1 (kr_7_0 (kr_11_0 hk))))]; exact c4) : bf_ok _ _).2) ?_
          obtain rfl := Option.some.inj hf
          exact bf_iret dX11_about_81 rfl (Nat.le_refl _) (Nat.le_refl _) ⟨rfl, rfl⟩
        · have hf := (if_neg c6).symm.trans hf
          rcases Decidable.em (a1 = 2) with c7 | c7
          · have hf := (if_pos c7).symm.trans hf
            refine bf_swIn 82 dX11_about_30 (by rw [c7]; decide) (by rw [c7]; decide) (by rw [c7]; rfl) (by decide) ?_
            refine bf_aload_n 0 dX11_about_82 rfl rfl ?_
            refine fg_X11_182 dX11_about_83 rfl (ka_19 (kr_3_1 (kr_7_0 (kr_11_0 hk))) ((by rw [(la_19 (kr_3_1 (kr_7_0 (kr_11_0 hk))))]; exact c4) : bf_ok _ _).2) ?_
            obtain rfl := Option.some.inj hf
            exact bf_iret dX11_about_86 rfl (Nat.le_refl _) (Nat.le_refl _) ⟨rfl, rfl⟩
          · have hf := (if_neg c7).symm.trans hf
            rcases Decidable.em (a1 = 3) with c8 | c8
            · have hf := (if_pos c8).symm.trans hf
              refine bf_swIn 87 dX11_about_30 (by rw [c8]; decide) (by rw [c8]; decide) (by rw [c8]; rfl) (by decide) ?_
              refine bf_aload_n 0 dX11_about_87 rfl rfl ?_
              refine fg_X11_183 dX11_about_88 rfl (ka_19 (kr_3_1 (kr_7_0 (kr_11_0 hk))) ((by rw [(la_19 (kr_3_1 (kr_7_0 (kr_11_0 hk))))]; exact c4) : bf_ok _ _).2) ?_
              obtain rfl := Option.some.inj hf
              exact bf_iret dX11_about_91 rfl (Nat.le_refl _) (Nat.le_refl _) ⟨rfl, rfl⟩
            · have hf := (if_neg c8).symm.trans hf
              rcases Decidable.em (a1 = 4) with c9 | c9
              · have hf := (if_pos c9).symm.trans hf
                refine bf_swIn 92 dX11_about_30 (by rw [c9]; decide) (by rw [c9]; decide) (by rw [c9]; rfl) (by decide) ?_
                refine bf_aload_n 0 dX11_about_92 rfl rfl ?_
                refine fg_X11_79 dX11_about_93 rfl (ka_19 (kr_3_1 (kr_7_0 (kr_11_0 hk))) ((by rw [(la_19 (kr_3_1 (kr_7_0 (kr_11_0 hk))))]; exact c4) : bf_ok _ _).2) ?_
                obtain rfl := Option.some.inj hf
                exact bf_iret dX11_about_96 rfl (Nat.le_refl _) (Nat.le_refl _) ⟨rfl, rfl⟩
              · have hf := (if_neg c9).symm.trans hf
                rcases Decidable.em (a1 = 5) with c10 | c10
                · have hf := (if_pos c10).symm.trans hf
                  refine bf_swIn 97 dX11_about_30 (by rw [c10]; decide) (by rw [c10]; decide) (by rw [c10]; rfl) (by decide) ?_
                  refine bf_aload_n 1 dX11_about_97 rfl rfl ?_
                  refine bf_iload_n 2 dX11_about_98 rfl rfl ?_
                  obtain ⟨r12, e11, hf⟩ := bf_bind hf
                  have hCe11 := ok_X11_heldBy (Γ := Γ) (ad := ad) hk e11
                  refine cv_X11_184 6 dX11_about_99 rfl ⟨Nat.le_of_ble_eq_true rfl, Nat.le_of_ble_eq_true rfl⟩ (Nat.le_of_ble_eq_true rfl) hk hCe11 ?_
                  obtain rfl := Option.some.inj hf
                  exact bf_iret dX11_about_102 rfl (Nat.le_refl _) (Nat.le_refl _) ⟨rfl, rfl⟩
                · have hf := (if_neg c10).symm.trans hf
                  rcases Decidable.em (a1 = 6) with c13 | c13
                  · have hf := (if_pos c13).symm.trans hf
                    refine bf_swIn 103 dX11_about_30 (by rw [c13]; decide) (by rw [c13]; decide) (by rw [c13]; rfl) (by decide) ?_
                    refine bf_aload_n 1 dX11_about_103 rfl rfl ?_
                    refine bf_iload_n 2 dX11_about_104 rfl rfl ?_
                    obtain ⟨r15, e14, hf⟩ := bf_bind hf
                    have hCe14 := ok_X11_needOf (Γ := Γ) (ad := ad) hk e14
                    refine cv_X11_187 6 dX11_about_105 rfl ⟨Nat.le_of_ble_eq_true rfl, Nat.le_of_ble_eq_true rfl⟩ (Nat.le_of_ble_eq_true rfl) hk hCe14 ?_
                    obtain rfl := Option.some.inj hf
                    exact bf_iret dX11_about_108 rfl (Nat.le_refl _) (Nat.le_refl _) ⟨rfl, rfl⟩
                  · have hf := (if_neg c13).symm.trans hf
                    have c5 : _ ≠ (0 : Int) := bf_nne c5
                    have c6 : _ ≠ (1 : Int) := bf_nne c6
                    have c7 : _ ≠ (2 : Int) := bf_nne c7
                    have c8 : _ ≠ (3 : Int) := bf_nne c8
                    have c9 : _ ≠ (4 : Int) := bf_nne c9
                    have c10 : _ ≠ (5 : Int) := bf_nne c10
                    have c13 : _ ≠ (6 : Int) := bf_nne c13
                    refine bf_swOut 109 dX11_about_30 (by omega) (by decide) ?_
                    refine bf_iconst (v := -1) dX11_about_109 (by decide) ?_
                    obtain rfl := Option.some.inj hf
                    exact bf_iret dX11_about_110 rfl (Nat.le_refl _) (Nat.le_refl _) ⟨rfl, rfl⟩
    · exact absurd ((if_neg c4).symm.trans hf) (by simp)
  · have hf := (if_pos c3).symm.trans hf
    refine bf_iconst (v := -1) dX11_about_14 (by decide) ?_
    obtain rfl := Option.some.inj hf
    exact bf_iret dX11_about_15 rfl (Nat.le_refl _) (Nat.le_refl _) ⟨rfl, rfl⟩
def f_X11_tokenIn (a0 : Nat) (a1 : Int32) (a2 : Int32) (I : Nat → Nat → Int32) (L : Nat → Nat → Int64) : Option (Int64 × bf_St) :=
  ((f_X3_hasWire a0 a1 I L).bind (fun r2 => (if r2.1 = 0 then (some ((-9223372036854775808 : Int64), r2.2.1, r2.2.2)) else (if bf_ok a1 8 then ((f_X10_holds ((a0 + 8) + 1 + 2 * a1.toNatClampNeg) a2 r2.2.1 r2.2.2).bind (fun r6 => (if r6.1 = 0 then (some ((-9223372036854775808 : Int64), r6.2.1, r6.2.2)) else ((f_X10_tokenAt ((a0 + 8) + 1 + 2 * a1.toNatClampNeg) a2 r6.2.1 r6.2.2).bind (fun r9 => (some ((r9.1).toInt64, r9.2.1, r9.2.2))))))) else none))))
set_option maxRecDepth 100000 in
set_option maxHeartbeats 4000000 in
theorem ok_X11_tokenIn {Γ : bf_Gm} {ad : Nat → Nat} {a0 : Nat} {a1 : Int32} {a2 : Int32} {I : Nat → Nat → Int32} {L : Nat → Nat → Int64} (hk0 : bf_kd a0 = 3) {r : Int64 × bf_St} (hf : f_X11_tokenIn a0 a1 a2 I L = some r) : bf_Cn Γ 2 mu_X11_tokenIn 0 0 [.ref (ad a0), .int a1, .int a2] (bf_S ad I L) (fun q h => q = some (.long r.1) ∧ h = bf_S ad r.2.1 r.2.2) := by
  refine bf_met rfl (Nat.le_of_ble_eq_true rfl) ?_
  unfold f_X11_tokenIn at hf
  refine bf_aload_n 0 dX11_tokenIn_0 rfl rfl ?_
  refine bf_iload_n 1 dX11_tokenIn_1 rfl rfl ?_
  obtain ⟨r2, e1, hf⟩ := bf_bind hf
  have hCe1 := ok_X3_hasWire (Γ := Γ) (ad := ad) hk0 e1
  refine cv_X11_71 0 dX11_tokenIn_2 rfl ⟨Nat.le_of_ble_eq_true rfl, Nat.le_of_ble_eq_true rfl⟩ (Nat.le_of_ble_eq_true rfl) hk0 hCe1 ?_
  refine bf_if_ne 12 dX11_tokenIn_5 (by decide) (fun c3 => ?_) (fun c3 => ?_)
  · have hf := (if_neg c3).symm.trans hf
    refine bf_aload_n 0 dX11_tokenIn_12 rfl rfl ?_
    refine fg_X11_75 dX11_tokenIn_13 rfl hk0 ?_
    refine bf_iload_n 1 dX11_tokenIn_16 rfl rfl ?_
    rcases Decidable.em (bf_ok a1 8) with c4 | c4
    · have hf := (if_pos c4).symm.trans hf
      refine al_19 dX11_tokenIn_17 (kr_3_1 hk0) (by rw [(la_19 (kr_3_1 hk0))]; exact c4) ?_
      refine bf_astore_n (lv2 := [(3, .ref _), (0, .ref _), (1, .int _), (2, .int _)]) dX11_tokenIn_18 rfl (by decide) rfl ?_
      refine bf_aload_n 0 dX11_tokenIn_19 rfl rfl ?_
      refine bf_iload_n 3 dX11_tokenIn_20 rfl rfl ?_
      obtain ⟨r6, e5, hf⟩ := bf_bind hf
      have hCe5 := ok_X10_holds (Γ := Γ) (ad := ad) (ka_19 (kr_3_1 hk0) ((by rw [(la_19 (kr_3_1 hk0))]; exact c4) : bf_ok _ _).2) e5
      refine cv_X11_207 0 dX11_tokenIn_21 rfl ⟨Nat.le_of_ble_eq_true rfl, Nat.le_of_ble_eq_true rfl⟩ (Nat.le_of_ble_eq_true rfl) (ka_19 (kr_3_1 hk0) ((by rw [(la_19 (kr_3_1 hk0))]; exact c4) : bf_ok _ _).2) hCe5 ?_
      refine bf_if_eq 36 dX11_tokenIn_24 (by decide) (fun c7 => ?_) (fun c7 => ?_)
      · have hf := (if_pos c7).symm.trans hf
        refine bf_ldc2 dX11_tokenIn_36 wk_X11_205 ?_
        obtain rfl := Option.some.inj hf
        exact bf_lret dX11_tokenIn_39 rfl (Nat.le_refl _) (Nat.le_refl _) ⟨rfl, rfl⟩
      · have hf := (if_neg c7).symm.trans hf
        refine bf_aload_n 0 dX11_tokenIn_27 rfl rfl ?_
        refine bf_iload_n 3 dX11_tokenIn_28 rfl rfl ?_
        obtain ⟨r9, e8, hf⟩ := bf_bind hf
        have hCe8 := ok_X10_tokenAt (Γ := Γ) (ad := ad) (ka_19 (kr_3_1 hk0) ((by rw [(la_19 (kr_3_1 hk0))]; exact c4) : bf_ok _ _).2) e8
        refine cv_X11_210 1 dX11_tokenIn_29 rfl ⟨Nat.le_of_ble_eq_true rfl, Nat.le_of_ble_eq_true rfl⟩ (Nat.le_of_ble_eq_true rfl) (ka_19 (kr_3_1 hk0) ((by rw [(la_19 (kr_3_1 hk0))]; exact c4) : bf_ok _ _).2) hCe8 ?_
        refine bf_i2l dX11_tokenIn_32 ?_
        refine bf_goto 39 dX11_tokenIn_33 (by decide) ?_
        obtain rfl := Option.some.inj hf
        exact bf_lret dX11_tokenIn_39 rfl (Nat.le_refl _) (Nat.le_refl _) ⟨rfl, rfl⟩
    · exact absurd ((if_neg c4).symm.trans hf) (by simp)
  · have hf := (if_pos c3).symm.trans hf
    refine bf_ldc2 dX11_tokenIn_8 wk_X11_205 ?_
    obtain rfl := Option.some.inj hf
    exact bf_lret dX11_tokenIn_11 rfl (Nat.le_refl _) (Nat.le_refl _) ⟨rfl, rfl⟩
def f_X11_read (o : Nat) (a0 : Int32) (a1 : Int32) (I : Nat → Nat → Int32) (L : Nat → Nat → Int64) : Option (Int64 × bf_St) :=
  ((f_X11_tokenIn ((o + 1) + 1) a0 a1 I L).bind (fun r2 => (some (r2.1, r2.2.1, r2.2.2))))
set_option maxRecDepth 100000 in
set_option maxHeartbeats 4000000 in
theorem ok_X11_read {Γ : bf_Gm} {ad : Nat → Nat} {o : Nat} {a0 : Int32} {a1 : Int32} {I : Nat → Nat → Int32} {L : Nat → Nat → Int64} (hk : bf_kd o = 11) {r : Int64 × bf_St} (hf : f_X11_read o a0 a1 I L = some r) : bf_Cn Γ 3 mu_X11_read 0 0 [.ref (ad o), .int a0, .int a1] (bf_S ad I L) (fun q h => q = some (.long r.1) ∧ h = bf_S ad r.2.1 r.2.2) := by
  refine bf_met rfl (Nat.le_of_ble_eq_true rfl) ?_
  unfold f_X11_read at hf
  refine bf_aload_n 0 dX11_read_0 rfl rfl ?_
  refine fg_X11_14 dX11_read_1 rfl hk ?_
  refine fg_X11_60 dX11_read_4 rfl (kr_11_0 hk) ?_
  refine bf_iload_n 1 dX11_read_7 rfl rfl ?_
  refine bf_iload_n 2 dX11_read_8 rfl rfl ?_
  obtain ⟨r2, e1, hf⟩ := bf_bind hf
  have hCe1 := ok_X11_tokenIn (Γ := Γ) (ad := ad) (kr_7_0 (kr_11_0 hk)) e1
  refine cv_X11_201 2 dX11_read_9 rfl ⟨Nat.le_of_ble_eq_true rfl, Nat.le_of_ble_eq_true rfl⟩ (Nat.le_of_ble_eq_true rfl) hCe1 ?_
  obtain rfl := Option.some.inj hf
  exact bf_lret dX11_read_12 rfl (Nat.le_refl _) (Nat.le_refl _) ⟨rfl, rfl⟩
def f_X11_fire (o : Nat) (a0 : Int32) (I : Nat → Nat → Int32) (L : Nat → Nat → Int64) : Option (Int64 × bf_St) :=
  ((f_X3_hasBox ((o + 1) + 1) a0 I L).bind (fun r2 => (if r2.1 = 0 then (some ((-9223372036854775808 : Int64), r2.2.1, r2.2.2)) else ((f_X6_canFire (o + 102) ((o + 1) + 1) a0 r2.2.1 r2.2.2).bind (fun r5 => (if r5.1 = 0 then (some ((-9223372036854775808 : Int64), r5.2.1, r5.2.2)) else ((f_X3_fireBox ((o + 1) + 1) a0 r5.2.1 r5.2.2).bind (fun r8 => (some ((r8.1).toInt64, r8.2.1, r8.2.2))))))))))
set_option maxRecDepth 100000 in
set_option maxHeartbeats 4000000 in
theorem ok_X11_fire {Γ : bf_Gm} {ad : Nat → Nat} {o : Nat} {a0 : Int32} {I : Nat → Nat → Int32} {L : Nat → Nat → Int64} (hk : bf_kd o = 11) {r : Int64 × bf_St} (hf : f_X11_fire o a0 I L = some r) : bf_Cn Γ 4 mu_X11_fire 0 0 [.ref (ad o), .int a0] (bf_S ad I L) (fun q h => q = some (.long r.1) ∧ h = bf_S ad r.2.1 r.2.2) := by
  refine bf_met rfl (Nat.le_of_ble_eq_true rfl) ?_
  unfold f_X11_fire at hf
  refine bf_aload_n 0 dX11_fire_0 rfl rfl ?_
  refine fg_X11_14 dX11_fire_1 rfl hk ?_
  refine fg_X11_60 dX11_fire_4 rfl (kr_11_0 hk) ?_
  refine bf_iload_n 1 dX11_fire_7 rfl rfl ?_
  obtain ⟨r2, e1, hf⟩ := bf_bind hf
  have hCe1 := ok_X3_hasBox (Γ := Γ) (ad := ad) (kr_7_0 (kr_11_0 hk)) e1
  refine cv_X11_135 0 dX11_fire_8 rfl ⟨Nat.le_of_ble_eq_true rfl, Nat.le_of_ble_eq_true rfl⟩ (Nat.le_of_ble_eq_true rfl) (kr_7_0 (kr_11_0 hk)) hCe1 ?_
  refine bf_if_eq 32 dX11_fire_11 (by decide) (fun c3 => ?_) (fun c3 => ?_)
  · have hf := (if_pos c3).symm.trans hf
    refine bf_ldc2 dX11_fire_32 wk_X11_205 ?_
    obtain rfl := Option.some.inj hf
    exact bf_lret dX11_fire_35 rfl (Nat.le_refl _) (Nat.le_refl _) ⟨rfl, rfl⟩
  · have hf := (if_neg c3).symm.trans hf
    refine bf_aload_n 0 dX11_fire_14 rfl rfl ?_
    refine fg_X11_35 dX11_fire_15 rfl hk ?_
    refine bf_aload_n 0 dX11_fire_18 rfl rfl ?_
    refine fg_X11_14 dX11_fire_19 rfl hk ?_
    refine fg_X11_60 dX11_fire_22 rfl (kr_11_0 hk) ?_
    refine bf_iload_n 1 dX11_fire_25 rfl rfl ?_
    obtain ⟨r5, e4, hf⟩ := bf_bind hf
    have hCe4 := ok_X6_canFire (Γ := Γ) (ad := ad) (kr_11_4 hk) (kr_7_0 (kr_11_0 hk)) e4
    refine cv_X11_157 3 dX11_fire_26 rfl ⟨Nat.le_of_ble_eq_true rfl, Nat.le_of_ble_eq_true rfl⟩ (Nat.le_of_ble_eq_true rfl) (kr_11_4 hk) hCe4 ?_
    refine bf_if_ne 36 dX11_fire_29 (by decide) (fun c6 => ?_) (fun c6 => ?_)
    · have hf := (if_neg c6).symm.trans hf
      refine bf_aload_n 0 dX11_fire_36 rfl rfl ?_
      refine fg_X11_14 dX11_fire_37 rfl hk ?_
      refine fg_X11_60 dX11_fire_40 rfl (kr_11_0 hk) ?_
      refine bf_iload_n 1 dX11_fire_43 rfl rfl ?_
      obtain ⟨r8, e7, hf⟩ := bf_bind hf
      have hCe7 := ok_X3_fireBox (Γ := Γ) (ad := ad) (kr_7_0 (kr_11_0 hk)) e7
      refine cv_X11_213 3 dX11_fire_44 rfl ⟨Nat.le_of_ble_eq_true rfl, Nat.le_of_ble_eq_true rfl⟩ (Nat.le_of_ble_eq_true rfl) (kr_7_0 (kr_11_0 hk)) hCe7 ?_
      refine bf_i2l dX11_fire_47 ?_
      obtain rfl := Option.some.inj hf
      exact bf_lret dX11_fire_48 rfl (Nat.le_refl _) (Nat.le_refl _) ⟨rfl, rfl⟩
    · have hf := (if_pos c6).symm.trans hf
      refine bf_ldc2 dX11_fire_32 wk_X11_205 ?_
      obtain rfl := Option.some.inj hf
      exact bf_lret dX11_fire_35 rfl (Nat.le_refl _) (Nat.le_refl _) ⟨rfl, rfl⟩
def f_X11_playPeriods_14 (v0 : Nat) (v1 : Nat) (v2 : Int32) (K : (Nat → Nat → Int32) → (Nat → Nat → Int64) → Option (Int32 × bf_St)) : Nat → Int32 → (Nat → Nat → Int32) → (Nat → Nat → Int64) → Option (Int32 × bf_St)
  | 0, _, _, _ => none
  | n + 1, v3, I, L =>
    (if v2 ≤ v3 then (K I L) else ((f_X6_play (v0 + 102) v1 I L).bind (fun r6 => (f_X11_playPeriods_14 v0 v1 v2 K n (v3 + (1 : Int32)) r6.1 r6.2))))
set_option maxRecDepth 100000 in
set_option maxHeartbeats 4000000 in
theorem ok_X11_playPeriods_14 {Γ : bf_Gm} {ad : Nat → Nat} {v0 : Nat} {v1 : Nat} {v2 : Int32} (hv0 : bf_kd v0 = 11) (hv1 : bf_kd v1 = 3) {r : Int32 × bf_St} {K : (Nat → Nat → Int32) → (Nat → Nat → Int64) → Option (Int32 × bf_St)} (hK : ∀ (I : Nat → Nat → Int32) (L : Nat → Nat → Int64), K  I L = some r → bf_Go Γ (bf_rm 5 0 0) mu_X11_playPeriods bf_E0 (bf_Z Γ (fun q h => q = some (.int r.1) ∧ h = bf_S ad r.2.1 r.2.2) 0 0) (0, 0) 33 [(2, .int v2)] [] (bf_S ad I L)) : ∀ (n : Nat) (v3 : Int32) (I : Nat → Nat → Int32) (L : Nat → Nat → Int64), f_X11_playPeriods_14 v0 v1 v2 K n v3 I L = some r → bf_Go Γ (bf_rm 5 0 0) mu_X11_playPeriods bf_E0 (bf_Z Γ (fun q h => q = some (.int r.1) ∧ h = bf_S ad r.2.1 r.2.2) 0 0) (0, 0) 14 [(0, .ref (ad v0)), (1, .ref (ad v1)), (2, .int v2), (3, .int v3)] [] (bf_S ad I L) := by
  intro n
  induction n with
  | zero => intro v3 I L hf; exact absurd (show none = some r from hf) (by simp)
  | succ n ih =>
    intro v3 I L hf
    rw [f_X11_playPeriods_14] at hf
    refine bf_iload_n 3 dX11_playPeriods_14 rfl rfl ?_
    refine bf_iload_n 2 dX11_playPeriods_15 rfl rfl ?_
    refine bf_icmp_ge 33 dX11_playPeriods_16 (by decide) (fun c4 => ?_) (fun c4 => ?_)
    · have hf := (if_pos c4).symm.trans hf
      refine bf_perm [2] rfl ?_
      exact hK _ _ hf
    · have hf := (if_neg c4).symm.trans hf
      refine bf_aload_n 0 dX11_playPeriods_19 rfl rfl ?_
      refine fg_X11_35 dX11_playPeriods_20 rfl hv0 ?_
      refine bf_aload_n 1 dX11_playPeriods_23 rfl rfl ?_
      obtain ⟨r6, e5, hf⟩ := bf_bind hf
      have hCe5 := ok_X6_play (Γ := Γ) (ad := ad) (kr_11_4 hv0) hv1 e5
      refine cv_X11_220 4 dX11_playPeriods_24 rfl ⟨Nat.le_of_ble_eq_true rfl, Nat.le_of_ble_eq_true rfl⟩ (Nat.le_of_ble_eq_true rfl) (kr_11_4 hv0) hCe5 ?_
      refine bf_iinc 3 (v := _ + (1 : Int32)) (lv2 := [(3, .int _), (0, .ref _), (1, .ref _), (2, .int _)]) dX11_playPeriods_27 rfl (by rfl) (by decide) rfl ?_
      refine bf_goto 14 dX11_playPeriods_30 (by decide) ?_
      refine bf_perm [1, 2, 3, 0] rfl ?_
      exact ih _ _ _ hf
def f_X11_playPeriods (o : Nat) (a0 : Nat) (a1 : Int32) (I : Nat → Nat → Int32) (L : Nat → Nat → Int64) : Option (Int32 × bf_St) :=
  ((f_X6_goes (o + 102) I L).bind (fun r2 => (if r2.1 = 0 then (some ((0 : Int32), r2.2.1, r2.2.2)) else (f_X11_playPeriods_14 o a0 a1 (fun I7 L7 => (some (a1, I7, L7))) 400 (0 : Int32) r2.2.1 r2.2.2))))
set_option maxRecDepth 100000 in
set_option maxHeartbeats 4000000 in
theorem ok_X11_playPeriods {Γ : bf_Gm} {ad : Nat → Nat} {o : Nat} {a0 : Nat} {a1 : Int32} {I : Nat → Nat → Int32} {L : Nat → Nat → Int64} (hk : bf_kd o = 11) (hk0 : bf_kd a0 = 3) {r : Int32 × bf_St} (hf : f_X11_playPeriods o a0 a1 I L = some r) : bf_Cn Γ 5 mu_X11_playPeriods 0 0 [.ref (ad o), .ref (ad a0), .int a1] (bf_S ad I L) (fun q h => q = some (.int r.1) ∧ h = bf_S ad r.2.1 r.2.2) := by
  refine bf_met rfl (Nat.le_of_ble_eq_true rfl) ?_
  unfold f_X11_playPeriods at hf
  refine bf_aload_n 0 dX11_playPeriods_0 rfl rfl ?_
  refine fg_X11_35 dX11_playPeriods_1 rfl hk ?_
  obtain ⟨r2, e1, hf⟩ := bf_bind hf
  have hCe1 := ok_X6_goes (Γ := Γ) (ad := ad) (kr_11_4 hk) e1
  refine cv_X11_197 0 dX11_playPeriods_4 rfl ⟨Nat.le_of_ble_eq_true rfl, Nat.le_of_ble_eq_true rfl⟩ (Nat.le_of_ble_eq_true rfl) (kr_11_4 hk) hCe1 ?_
  refine bf_if_ne 12 dX11_playPeriods_7 (by decide) (fun c3 => ?_) (fun c3 => ?_)
  · have hf := (if_neg c3).symm.trans hf
    refine bf_iconst (v := 0) dX11_playPeriods_12 (by decide) ?_
    refine bf_istore_n (lv2 := [(3, .int _), (0, .ref _), (1, .ref _), (2, .int _)]) dX11_playPeriods_13 rfl (by decide) rfl ?_
    refine bf_perm [1, 2, 3, 0] rfl ?_
    refine ok_X11_playPeriods_14 hk hk0 (fun I7 L7 hf => ?_) _ _ _ _  hf
    refine bf_iload_n 0 dX11_playPeriods_33 rfl rfl ?_
    obtain rfl := Option.some.inj hf
    exact bf_iret dX11_playPeriods_34 rfl (Nat.le_refl _) (Nat.le_refl _) ⟨rfl, rfl⟩
  · have hf := (if_pos c3).symm.trans hf
    refine bf_iconst (v := 0) dX11_playPeriods_10 (by decide) ?_
    obtain rfl := Option.some.inj hf
    exact bf_iret dX11_playPeriods_11 rfl (Nat.le_refl _) (Nat.le_refl _) ⟨rfl, rfl⟩
def f_X11_period (o : Nat) (a0 : Int32) (I : Nat → Nat → Int32) (L : Nat → Nat → Int64) : Option (Int32 × bf_St) :=
  (if a0 < 0 then (some ((-2 : Int32), I, L)) else (if a0 ≤ (9 : Int32) then ((f_X6_look (o + 102) ((o + 1) + 1) I L).bind (fun r4 => (if (r4.1 (o + 102) 0) = 0 then ((f_X11_playPeriods o ((o + 1) + 1) a0 r4.1 r4.2).bind (fun r7 => (some (r7.1, r7.2.1, r7.2.2)))) else (some ((-3 : Int32), r4.1, r4.2))))) else (some ((-2 : Int32), I, L))))
set_option maxRecDepth 100000 in
set_option maxHeartbeats 4000000 in
theorem ok_X11_period {Γ : bf_Gm} {ad : Nat → Nat} {o : Nat} {a0 : Int32} {I : Nat → Nat → Int32} {L : Nat → Nat → Int64} (hk : bf_kd o = 11) {r : Int32 × bf_St} (hf : f_X11_period o a0 I L = some r) : bf_Cn Γ 6 mu_X11_period 0 0 [.ref (ad o), .int a0] (bf_S ad I L) (fun q h => q = some (.int r.1) ∧ h = bf_S ad r.2.1 r.2.2) := by
  refine bf_met rfl (Nat.le_of_ble_eq_true rfl) ?_
  unfold f_X11_period at hf
  refine bf_iload_n 1 dX11_period_0 rfl rfl ?_
  refine bf_if_lt 10 dX11_period_1 (by decide) (fun c1 => ?_) (fun c1 => ?_)
  · have hf := (if_pos c1).symm.trans hf
    refine bf_bipush (v := -2) dX11_period_10 (by decide) ?_
    obtain rfl := Option.some.inj hf
    exact bf_iret dX11_period_12 rfl (Nat.le_refl _) (Nat.le_refl _) ⟨rfl, rfl⟩
  · have hf := (if_neg c1).symm.trans hf
    refine bf_iload_n 1 dX11_period_4 rfl rfl ?_
    refine bf_bipush (v := 9) dX11_period_5 (by decide) ?_
    refine bf_icmp_le 13 dX11_period_7 (by decide) (fun c2 => ?_) (fun c2 => ?_)
    · have hf := (if_pos c2).symm.trans hf
      refine bf_aload_n 0 dX11_period_13 rfl rfl ?_
      refine fg_X11_35 dX11_period_14 rfl hk ?_
      refine bf_aload_n 0 dX11_period_17 rfl rfl ?_
      refine fg_X11_14 dX11_period_18 rfl hk ?_
      refine fg_X11_60 dX11_period_21 rfl (kr_11_0 hk) ?_
      obtain ⟨r4, e3, hf⟩ := bf_bind hf
      have hCe3 := ok_X6_look (Γ := Γ) (ad := ad) (kr_11_4 hk) (kr_7_0 (kr_11_0 hk)) e3
      refine cv_X11_170 5 dX11_period_24 rfl ⟨Nat.le_of_ble_eq_true rfl, Nat.le_of_ble_eq_true rfl⟩ (Nat.le_of_ble_eq_true rfl) (kr_11_4 hk) hCe3 ?_
      refine bf_aload_n 0 dX11_period_27 rfl rfl ?_
      refine fg_X11_35 dX11_period_28 rfl hk ?_
      refine fg_X11_174 dX11_period_31 rfl (kr_11_4 hk) ?_
      refine bf_if_eq 40 dX11_period_34 (by decide) (fun c5 => ?_) (fun c5 => ?_)
      · have hf := (if_pos c5).symm.trans hf
        refine bf_aload_n 0 dX11_period_40 rfl rfl ?_
        refine bf_aload_n 0 dX11_period_41 rfl rfl ?_
        refine fg_X11_14 dX11_period_42 rfl hk ?_
        refine fg_X11_60 dX11_period_45 rfl (kr_11_0 hk) ?_
        refine bf_iload_n 1 dX11_period_48 rfl rfl ?_
        obtain ⟨r7, e6, hf⟩ := bf_bind hf
        have hCe6 := ok_X11_playPeriods (Γ := Γ) (ad := ad) hk (kr_7_0 (kr_11_0 hk)) e6
        refine cv_X11_216 5 dX11_period_49 rfl ⟨Nat.le_of_ble_eq_true rfl, Nat.le_of_ble_eq_true rfl⟩ (Nat.le_of_ble_eq_true rfl) hk hCe6 ?_
        obtain rfl := Option.some.inj hf
        exact bf_iret dX11_period_52 rfl (Nat.le_refl _) (Nat.le_refl _) ⟨rfl, rfl⟩
      · have hf := (if_neg c5).symm.trans hf
        refine bf_bipush (v := -3) dX11_period_37 (by decide) ?_
        obtain rfl := Option.some.inj hf
        exact bf_iret dX11_period_39 rfl (Nat.le_refl _) (Nat.le_refl _) ⟨rfl, rfl⟩
    · have hf := (if_neg c2).symm.trans hf
      refine bf_bipush (v := -2) dX11_period_10 (by decide) ?_
      obtain rfl := Option.some.inj hf
      exact bf_iret dX11_period_12 rfl (Nat.le_refl _) (Nat.le_refl _) ⟨rfl, rfl⟩
def f_X11_leastHold (o : Nat) (I : Nat → Nat → Int32) (L : Nat → Nat → Int64) : Option (Int32 × bf_St) :=
  (if (I (o + 102) 2) ≤ (8 : Int32) then ((f_X4_least (o + 110) ((o + 1) + 1) (o + 102) I L).bind (fun r3 => (some (r3.1, r3.2.1, r3.2.2)))) else (some ((-5 : Int32), I, L)))
set_option maxRecDepth 100000 in
set_option maxHeartbeats 4000000 in
theorem ok_X11_leastHold {Γ : bf_Gm} {ad : Nat → Nat} {o : Nat} {I : Nat → Nat → Int32} {L : Nat → Nat → Int64} (hk : bf_kd o = 11) {r : Int32 × bf_St} (hf : f_X11_leastHold o I L = some r) : bf_Cn Γ 14 mu_X11_leastHold 0 0 [.ref (ad o)] (bf_S ad I L) (fun q h => q = some (.int r.1) ∧ h = bf_S ad r.2.1 r.2.2) := by
  refine bf_met rfl (Nat.le_of_ble_eq_true rfl) ?_
  unfold f_X11_leastHold at hf
  refine bf_aload_n 0 dX11_leastHold_0 rfl rfl ?_
  refine fg_X11_35 dX11_leastHold_1 rfl hk ?_
  refine fg_X11_226 dX11_leastHold_4 rfl (kr_11_4 hk) ?_
  refine bf_bipush (v := 8) dX11_leastHold_7 (by decide) ?_
  refine bf_icmp_le 15 dX11_leastHold_9 (by decide) (fun c1 => ?_) (fun c1 => ?_)
  · have hf := (if_pos c1).symm.trans hf
    refine bf_aload_n 0 dX11_leastHold_15 rfl rfl ?_
    refine fg_X11_42 dX11_leastHold_16 rfl hk ?_
    refine bf_aload_n 0 dX11_leastHold_19 rfl rfl ?_
    refine fg_X11_14 dX11_leastHold_20 rfl hk ?_
    refine fg_X11_60 dX11_leastHold_23 rfl (kr_11_0 hk) ?_
    refine bf_aload_n 0 dX11_leastHold_26 rfl rfl ?_
    refine fg_X11_35 dX11_leastHold_27 rfl hk ?_
    obtain ⟨r3, e2, hf⟩ := bf_bind hf
    have hCe2 := ok_X4_least (Γ := Γ) (ad := ad) (kr_11_5 hk) (kr_7_0 (kr_11_0 hk)) (kr_11_4 hk) e2
    refine cv_X11_238 13 dX11_leastHold_30 rfl ⟨Nat.le_of_ble_eq_true rfl, Nat.le_of_ble_eq_true rfl⟩ (Nat.le_of_ble_eq_true rfl) (kr_11_5 hk) hCe2 ?_
    obtain rfl := Option.some.inj hf
    exact bf_iret dX11_leastHold_33 rfl (Nat.le_refl _) (Nat.le_refl _) ⟨rfl, rfl⟩
  · have hf := (if_neg c1).symm.trans hf
    refine bf_bipush (v := -5) dX11_leastHold_12 (by decide) ?_
    obtain rfl := Option.some.inj hf
    exact bf_iret dX11_leastHold_14 rfl (Nat.le_refl _) (Nat.le_refl _) ⟨rfl, rfl⟩
def f_X11_told (o : Nat) (a0 : Int32) (I : Nat → Nat → Int32) (L : Nat → Nat → Int64) : Option (Int32 × bf_St) :=
  (if a0 < 0 then (some ((-1 : Int32), I, L)) else (if a0 ≤ (5 : Int32) then (if a0 = (5 : Int32) then ((f_X3_tokenCount ((o + 1) + 1) I L).bind (fun r18 => (some (r18.1, r18.2.1, r18.2.2)))) else ((f_X6_look (o + 102) ((o + 1) + 1) I L).bind (fun r5 => (if a0 = 0 then (if (r5.1 (o + 102) 0) = 0 then (some ((0 : Int32), r5.1, r5.2)) else (some ((1 : Int32), r5.1, r5.2))) else (if (r5.1 (o + 102) 0) = 0 then (if a0 = 1 then (some ((r5.1 (o + 102) 2), r5.1, r5.2)) else (if a0 = 2 then (if (r5.1 (o + 102) 1) = 0 then (some ((0 : Int32), r5.1, r5.2)) else (some ((1 : Int32), r5.1, r5.2))) else (if a0 = 3 then ((f_X6_hold (o + 102) r5.1 r5.2).bind (fun r13 => (some (r13.1, r13.2.1, r13.2.2)))) else ((f_X11_leastHold o r5.1 r5.2).bind (fun r15 => (some (r15.1, r15.2.1, r15.2.2))))))) else (some ((-5 : Int32), r5.1, r5.2))))))) else (some ((-1 : Int32), I, L))))
set_option maxRecDepth 100000 in
set_option maxHeartbeats 4000000 in
theorem ok_X11_told {Γ : bf_Gm} {ad : Nat → Nat} {o : Nat} {a0 : Int32} {I : Nat → Nat → Int32} {L : Nat → Nat → Int64} (hk : bf_kd o = 11) {r : Int32 × bf_St} (hf : f_X11_told o a0 I L = some r) : bf_Cn Γ 15 mu_X11_told 0 0 [.ref (ad o), .int a0] (bf_S ad I L) (fun q h => q = some (.int r.1) ∧ h = bf_S ad r.2.1 r.2.2) := by
  refine bf_met rfl (Nat.le_of_ble_eq_true rfl) ?_
  unfold f_X11_told at hf
  refine bf_iload_n 1 dX11_told_0 rfl rfl ?_
  refine bf_if_lt 9 dX11_told_1 (by decide) (fun c1 => ?_) (fun c1 => ?_)
  · have hf := (if_pos c1).symm.trans hf
    refine bf_iconst (v := -1) dX11_told_9 (by decide) ?_
    obtain rfl := Option.some.inj hf
    exact bf_iret dX11_told_10 rfl (Nat.le_refl _) (Nat.le_refl _) ⟨rfl, rfl⟩
  · have hf := (if_neg c1).symm.trans hf
    refine bf_iload_n 1 dX11_told_4 rfl rfl ?_
    refine bf_iconst (v := 5) dX11_told_5 (by decide) ?_
    refine bf_icmp_le 11 dX11_told_6 (by decide) (fun c2 => ?_) (fun c2 => ?_)
    · have hf := (if_pos c2).symm.trans hf
      refine bf_iload_n 1 dX11_told_11 rfl rfl ?_
      refine bf_iconst (v := 5) dX11_told_12 (by decide) ?_
      refine bf_icmp_ne 27 dX11_told_13 (by decide) (fun c3 => ?_) (fun c3 => ?_)
      · have hf := (if_neg c3).symm.trans hf
        refine bf_aload_n 0 dX11_told_27 rfl rfl ?_
        refine fg_X11_35 dX11_told_28 rfl hk ?_
        refine bf_aload_n 0 dX11_told_31 rfl rfl ?_
        refine fg_X11_14 dX11_told_32 rfl hk ?_
        refine fg_X11_60 dX11_told_35 rfl (kr_11_0 hk) ?_
        obtain ⟨r5, e4, hf⟩ := bf_bind hf
        have hCe4 := ok_X6_look (Γ := Γ) (ad := ad) (kr_11_4 hk) (kr_7_0 (kr_11_0 hk)) e4
        refine cv_X11_170 5 dX11_told_38 rfl ⟨Nat.le_of_ble_eq_true rfl, Nat.le_of_ble_eq_true rfl⟩ (Nat.le_of_ble_eq_true rfl) (kr_11_4 hk) hCe4 ?_
        refine bf_iload_n 1 dX11_told_41 rfl rfl ?_
        refine bf_if_ne 61 dX11_told_42 (by decide) (fun c6 => ?_) (fun c6 => ?_)
        · have hf := (if_neg c6).symm.trans hf
          refine bf_aload_n 0 dX11_told_61 rfl rfl ?_
          refine fg_X11_35 dX11_told_62 rfl hk ?_
          refine fg_X11_174 dX11_told_65 rfl (kr_11_4 hk) ?_
          refine bf_if_eq 74 dX11_told_68 (by decide) (fun c7 => ?_) (fun c7 => ?_)
          · have hf := (if_pos c7).symm.trans hf
            refine bf_iload_n 1 dX11_told_74 rfl rfl ?_
            rcases Decidable.em (a0 = 1) with c8 | c8
            · have hf := (if_pos c8).symm.trans hf
              refine bf_swIn 100 dX11_told_75 (by rw [c8]; decide) (by rw [c8]; decide) (by rw [c8]; rfl) (by decide) ?_
              refine bf_aload_n 0 dX11_told_100 rfl rfl ?_
              refine fg_X11_35 dX11_told_101 rfl hk ?_
              refine fg_X11_226 dX11_told_104 rfl (kr_11_4 hk) ?_
              obtain rfl := Option.some.inj hf
              exact bf_iret dX11_told_107 rfl (Nat.le_refl _) (Nat.le_refl _) ⟨rfl, rfl⟩
            · have hf := (if_neg c8).symm.trans hf
              rcases Decidable.em (a0 = 2) with c9 | c9
              · have hf := (if_pos c9).symm.trans hf
                refine bf_swIn 108 dX11_told_75 (by rw [c9]; decide) (by rw [c9]; decide) (by rw [c9]; rfl) (by decide) ?_
                refine bf_aload_n 0 dX11_told_108 rfl rfl ?_
                refine fg_X11_35 dX11_told_109 rfl hk ?_
                refine fg_X11_229 dX11_told_112 rfl (kr_11_4 hk) ?_
                refine bf_if_eq 122 dX11_told_115 (by decide) (fun c10 => ?_) (fun c10 => ?_)
                · have hf := (if_pos c10).symm.trans hf
                  refine bf_iconst (v := 0) dX11_told_122 (by decide) ?_
                  obtain rfl := Option.some.inj hf
                  exact bf_iret dX11_told_123 rfl (Nat.le_refl _) (Nat.le_refl _) ⟨rfl, rfl⟩
                · have hf := (if_neg c10).symm.trans hf
                  refine bf_iconst (v := 1) dX11_told_118 (by decide) ?_
                  refine bf_goto 123 dX11_told_119 (by decide) ?_
                  obtain rfl := Option.some.inj hf
                  exact bf_iret dX11_told_123 rfl (Nat.le_refl _) (Nat.le_refl _) ⟨rfl, rfl⟩
              · have hf := (if_neg c9).symm.trans hf
                rcases Decidable.em (a0 = 3) with c11 | c11
                · have hf := (if_pos c11).symm.trans hf
                  refine bf_swIn 124 dX11_told_75 (by rw [c11]; decide) (by rw [c11]; decide) (by rw [c11]; rfl) (by decide) ?_
                  refine bf_aload_n 0 dX11_told_124 rfl rfl ?_
                  refine fg_X11_35 dX11_told_125 rfl hk ?_
                  obtain ⟨r13, e12, hf⟩ := bf_bind hf
                  have hCe12 := ok_X6_hold (Γ := Γ) (ad := ad) (kr_11_4 hk) e12
                  refine cv_X11_232 0 dX11_told_128 rfl ⟨Nat.le_of_ble_eq_true rfl, Nat.le_of_ble_eq_true rfl⟩ (Nat.le_of_ble_eq_true rfl) (kr_11_4 hk) hCe12 ?_
                  obtain rfl := Option.some.inj hf
                  exact bf_iret dX11_told_131 rfl (Nat.le_refl _) (Nat.le_refl _) ⟨rfl, rfl⟩
                · have hf := (if_neg c11).symm.trans hf
                  have c8 : _ ≠ (1 : Int) := bf_nne c8
                  have c9 : _ ≠ (2 : Int) := bf_nne c9
                  have c11 : _ ≠ (3 : Int) := bf_nne c11
                  refine bf_swOut 132 dX11_told_75 (by omega) (by decide) ?_
                  refine bf_aload_n 0 dX11_told_132 rfl rfl ?_
                  obtain ⟨r15, e14, hf⟩ := bf_bind hf
                  have hCe14 := ok_X11_leastHold (Γ := Γ) (ad := ad) hk e14
                  refine cv_X11_235 14 dX11_told_133 rfl ⟨Nat.le_of_ble_eq_true rfl, Nat.le_of_ble_eq_true rfl⟩ (Nat.le_of_ble_eq_true rfl) hk hCe14 ?_
                  obtain rfl := Option.some.inj hf
                  exact bf_iret dX11_told_136 rfl (Nat.le_refl _) (Nat.le_refl _) ⟨rfl, rfl⟩
          · have hf := (if_neg c7).symm.trans hf
            refine bf_bipush (v := -5) dX11_told_71 (by decide) ?_
            obtain rfl := Option.some.inj hf
            exact bf_iret dX11_told_73 rfl (Nat.le_refl _) (Nat.le_refl _) ⟨rfl, rfl⟩
        · have hf := (if_pos c6).symm.trans hf
          refine bf_aload_n 0 dX11_told_45 rfl rfl ?_
          refine fg_X11_35 dX11_told_46 rfl hk ?_
          refine fg_X11_174 dX11_told_49 rfl (kr_11_4 hk) ?_
          refine bf_if_eq 59 dX11_told_52 (by decide) (fun c16 => ?_) (fun c16 => ?_)
          · have hf := (if_pos c16).symm.trans hf
            refine bf_iconst (v := 0) dX11_told_59 (by decide) ?_
            obtain rfl := Option.some.inj hf
            exact bf_iret dX11_told_60 rfl (Nat.le_refl _) (Nat.le_refl _) ⟨rfl, rfl⟩
          · have hf := (if_neg c16).symm.trans hf
            refine bf_iconst (v := 1) dX11_told_55 (by decide) ?_
            refine bf_goto 60 dX11_told_56 (by decide) ?_
            obtain rfl := Option.some.inj hf
            exact bf_iret dX11_told_60 rfl (Nat.le_refl _) (Nat.le_refl _) ⟨rfl, rfl⟩
      · have hf := (if_pos c3).symm.trans hf
        refine bf_aload_n 0 dX11_told_16 rfl rfl ?_
        refine fg_X11_14 dX11_told_17 rfl hk ?_
        refine fg_X11_60 dX11_told_20 rfl (kr_11_0 hk) ?_
        obtain ⟨r18, e17, hf⟩ := bf_bind hf
        have hCe17 := ok_X3_tokenCount (Γ := Γ) (ad := ad) (kr_7_0 (kr_11_0 hk)) e17
        refine cv_X11_223 0 dX11_told_23 rfl ⟨Nat.le_of_ble_eq_true rfl, Nat.le_of_ble_eq_true rfl⟩ (Nat.le_of_ble_eq_true rfl) (kr_7_0 (kr_11_0 hk)) hCe17 ?_
        obtain rfl := Option.some.inj hf
        exact bf_iret dX11_told_26 rfl (Nat.le_refl _) (Nat.le_refl _) ⟨rfl, rfl⟩
    · have hf := (if_neg c2).symm.trans hf
      refine bf_iconst (v := -1) dX11_told_9 (by decide) ?_
      obtain rfl := Option.some.inj hf
      exact bf_iret dX11_told_10 rfl (Nat.le_refl _) (Nat.le_refl _) ⟨rfl, rfl⟩
def f_X11_when (o : Nat) (a0 : Int32) (I : Nat → Nat → Int32) (L : Nat → Nat → Int64) : Option (Int32 × bf_St) :=
  (if 0 ≤ a0 then ((f_X6_look (o + 102) ((o + 1) + 1) I L).bind (fun r3 => (if (r3.1 (o + 102) 5) ≤ a0 then (some ((-5 : Int32), r3.1, r3.2)) else (if bf_ok a0 360 then (some ((r3.1 ((o + 102) + 2) a0.toNatClampNeg), r3.1, r3.2)) else none)))) else (some ((-1 : Int32), I, L)))
set_option maxRecDepth 100000 in
set_option maxHeartbeats 4000000 in
theorem ok_X11_when {Γ : bf_Gm} {ad : Nat → Nat} {o : Nat} {a0 : Int32} {I : Nat → Nat → Int32} {L : Nat → Nat → Int64} (hk : bf_kd o = 11) {r : Int32 × bf_St} (hf : f_X11_when o a0 I L = some r) : bf_Cn Γ 6 mu_X11_when 0 0 [.ref (ad o), .int a0] (bf_S ad I L) (fun q h => q = some (.int r.1) ∧ h = bf_S ad r.2.1 r.2.2) := by
  refine bf_met rfl (Nat.le_of_ble_eq_true rfl) ?_
  unfold f_X11_when at hf
  refine bf_iload_n 1 dX11_when_0 rfl rfl ?_
  refine bf_if_ge 6 dX11_when_1 (by decide) (fun c1 => ?_) (fun c1 => ?_)
  · have hf := (if_pos c1).symm.trans hf
    refine bf_aload_n 0 dX11_when_6 rfl rfl ?_
    refine fg_X11_35 dX11_when_7 rfl hk ?_
    refine bf_aload_n 0 dX11_when_10 rfl rfl ?_
    refine fg_X11_14 dX11_when_11 rfl hk ?_
    refine fg_X11_60 dX11_when_14 rfl (kr_11_0 hk) ?_
    obtain ⟨r3, e2, hf⟩ := bf_bind hf
    have hCe2 := ok_X6_look (Γ := Γ) (ad := ad) (kr_11_4 hk) (kr_7_0 (kr_11_0 hk)) e2
    refine cv_X11_170 5 dX11_when_17 rfl ⟨Nat.le_of_ble_eq_true rfl, Nat.le_of_ble_eq_true rfl⟩ (Nat.le_of_ble_eq_true rfl) (kr_11_4 hk) hCe2 ?_
    refine bf_iload_n 1 dX11_when_20 rfl rfl ?_
    refine bf_aload_n 0 dX11_when_21 rfl rfl ?_
    refine fg_X11_35 dX11_when_22 rfl hk ?_
    refine fg_X11_242 dX11_when_25 rfl (kr_11_4 hk) ?_
    refine bf_icmp_ge 43 dX11_when_28 (by decide) (fun c4 => ?_) (fun c4 => ?_)
    · have hf := (if_pos c4).symm.trans hf
      refine bf_bipush (v := -5) dX11_when_43 (by decide) ?_
      obtain rfl := Option.some.inj hf
      exact bf_iret dX11_when_45 rfl (Nat.le_refl _) (Nat.le_refl _) ⟨rfl, rfl⟩
    · have hf := (if_neg c4).symm.trans hf
      refine bf_aload_n 0 dX11_when_31 rfl rfl ?_
      refine fg_X11_35 dX11_when_32 rfl hk ?_
      refine fg_X11_245 dX11_when_35 rfl (kr_11_4 hk) ?_
      refine bf_iload_n 1 dX11_when_38 rfl rfl ?_
      rcases Decidable.em (bf_ok a0 360) with c5 | c5
      · have hf := (if_pos c5).symm.trans hf
        refine bf_iald dX11_when_39 (kr_6_4 (kr_11_4 hk)) (by rw [(kl_6_4 (kr_11_4 hk))]; exact c5) ?_
        refine bf_goto 45 dX11_when_40 (by decide) ?_
        obtain rfl := Option.some.inj hf
        exact bf_iret dX11_when_45 rfl (Nat.le_refl _) (Nat.le_refl _) ⟨rfl, rfl⟩
      · exact absurd ((if_neg c5).symm.trans hf) (by simp)
  · have hf := (if_neg c1).symm.trans hf
    refine bf_iconst (v := -1) dX11_when_4 (by decide) ?_
    obtain rfl := Option.some.inj hf
    exact bf_iret dX11_when_5 rfl (Nat.le_refl _) (Nat.le_refl _) ⟨rfl, rfl⟩
def f_X11_on (o : Nat) (a0 : Int32) (a1 : Int32) (I : Nat → Nat → Int32) (L : Nat → Nat → Int64) : Option (Int32 × bf_St) :=
  ((f_X3_hasWire ((o + 1) + 1) a1 I L).bind (fun r2 => (if r2.1 = 0 then (some ((-1 : Int32), r2.2.1, r2.2.2)) else (if a0 < 0 then (some ((-2 : Int32), r2.2.1, r2.2.2)) else (if a0 ≤ (9 : Int32) then (if bf_ok a1 8 then (some ((r2.2.1 ((((o + 1) + 1) + 8) + 1 + 2 * a1.toNatClampNeg) 5), r2.2.1, r2.2.2)) else none) else (some ((-2 : Int32), r2.2.1, r2.2.2)))))))
set_option maxRecDepth 100000 in
set_option maxHeartbeats 4000000 in
theorem ok_X11_on {Γ : bf_Gm} {ad : Nat → Nat} {o : Nat} {a0 : Int32} {a1 : Int32} {I : Nat → Nat → Int32} {L : Nat → Nat → Int64} (hk : bf_kd o = 11) {r : Int32 × bf_St} (hf : f_X11_on o a0 a1 I L = some r) : bf_Cn Γ 1 mu_X11_on 0 0 [.ref (ad o), .int a0, .int a1] (bf_S ad I L) (fun q h => q = some (.int r.1) ∧ h = bf_S ad r.2.1 r.2.2) := by
  refine bf_met rfl (Nat.le_of_ble_eq_true rfl) ?_
  unfold f_X11_on at hf
  refine bf_aload_n 0 dX11_on_0 rfl rfl ?_
  refine fg_X11_14 dX11_on_1 rfl hk ?_
  refine fg_X11_60 dX11_on_4 rfl (kr_11_0 hk) ?_
  refine bf_iload_n 2 dX11_on_7 rfl rfl ?_
  obtain ⟨r2, e1, hf⟩ := bf_bind hf
  have hCe1 := ok_X3_hasWire (Γ := Γ) (ad := ad) (kr_7_0 (kr_11_0 hk)) e1
  refine cv_X11_71 0 dX11_on_8 rfl ⟨Nat.le_of_ble_eq_true rfl, Nat.le_of_ble_eq_true rfl⟩ (Nat.le_of_ble_eq_true rfl) (kr_7_0 (kr_11_0 hk)) hCe1 ?_
  refine bf_if_ne 16 dX11_on_11 (by decide) (fun c3 => ?_) (fun c3 => ?_)
  · have hf := (if_neg c3).symm.trans hf
    refine bf_iload_n 1 dX11_on_16 rfl rfl ?_
    refine bf_if_lt 26 dX11_on_17 (by decide) (fun c4 => ?_) (fun c4 => ?_)
    · have hf := (if_pos c4).symm.trans hf
      refine bf_bipush (v := -2) dX11_on_26 (by decide) ?_
      obtain rfl := Option.some.inj hf
      exact bf_iret dX11_on_28 rfl (Nat.le_refl _) (Nat.le_refl _) ⟨rfl, rfl⟩
    · have hf := (if_neg c4).symm.trans hf
      refine bf_iload_n 1 dX11_on_20 rfl rfl ?_
      refine bf_bipush (v := 9) dX11_on_21 (by decide) ?_
      refine bf_icmp_le 29 dX11_on_23 (by decide) (fun c5 => ?_) (fun c5 => ?_)
      · have hf := (if_pos c5).symm.trans hf
        refine bf_aload_n 0 dX11_on_29 rfl rfl ?_
        refine fg_X11_14 dX11_on_30 rfl hk ?_
        refine fg_X11_60 dX11_on_33 rfl (kr_11_0 hk) ?_
        refine fg_X11_75 dX11_on_36 rfl (kr_7_0 (kr_11_0 hk)) ?_
        refine bf_iload_n 2 dX11_on_39 rfl rfl ?_
        rcases Decidable.em (bf_ok a1 8) with c6 | c6
        · have hf := (if_pos c6).symm.trans hf
          refine al_19 dX11_on_40 (kr_3_1 (kr_7_0 (kr_11_0 hk))) (by rw [(la_19 (kr_3_1 (kr_7_0 (kr_11_0 hk))))]; exact c6) ?_
          refine fg_X11_79 dX11_on_41 rfl (ka_19 (kr_3_1 (kr_7_0 (kr_11_0 hk))) ((by rw [(la_19 (kr_3_1 (kr_7_0 (kr_11_0 hk))))]; exact c6) : bf_ok _ _).2) ?_
          obtain rfl := Option.some.inj hf
          exact bf_iret dX11_on_44 rfl (Nat.le_refl _) (Nat.le_refl _) ⟨rfl, rfl⟩
        · exact absurd ((if_neg c6).symm.trans hf) (by simp)
      · have hf := (if_neg c5).symm.trans hf
        refine bf_bipush (v := -2) dX11_on_26 (by decide) ?_
        obtain rfl := Option.some.inj hf
        exact bf_iret dX11_on_28 rfl (Nat.le_refl _) (Nat.le_refl _) ⟨rfl, rfl⟩
  · have hf := (if_pos c3).symm.trans hf
    refine bf_iconst (v := -1) dX11_on_14 (by decide) ?_
    obtain rfl := Option.some.inj hf
    exact bf_iret dX11_on_15 rfl (Nat.le_refl _) (Nat.le_refl _) ⟨rfl, rfl⟩
def f_X11_then (o : Nat) (a0 : Int32) (a1 : Int32) (a2 : Int32) (I : Nat → Nat → Int32) (L : Nat → Nat → Int64) : Option (Int64 × bf_St) :=
  (if a0 < 0 then (some ((-9223372036854775808 : Int64), I, L)) else (if (9 : Int32) < a0 then (some ((-9223372036854775808 : Int64), I, L)) else ((f_X3_hasWire ((o + 1) + 1) a1 I L).bind (fun r4 => (if r4.1 = 0 then (some ((-9223372036854775808 : Int64), r4.2.1, r4.2.2)) else ((f_X3_copyFrom (o + 77) ((o + 1) + 1) r4.2.1 r4.2.2).bind (fun r7 => ((f_X6_look (o + 102) (o + 77) r7.1 r7.2).bind (fun r9 => ((f_X11_playPeriods o (o + 77) a0 r9.1 r9.2).bind (fun r11 => ((f_X11_tokenIn (o + 77) a1 a2 r11.2.1 r11.2.2).bind (fun r13 => (some (r13.1, r13.2.1, r13.2.2)))))))))))))))
set_option maxRecDepth 100000 in
set_option maxHeartbeats 4000000 in
theorem ok_X11_then {Γ : bf_Gm} {ad : Nat → Nat} {o : Nat} {a0 : Int32} {a1 : Int32} {a2 : Int32} {I : Nat → Nat → Int32} {L : Nat → Nat → Int64} (hk : bf_kd o = 11) {r : Int64 × bf_St} (hf : f_X11_then o a0 a1 a2 I L = some r) : bf_Cn Γ 6 mu_X11_then 0 0 [.ref (ad o), .int a0, .int a1, .int a2] (bf_S ad I L) (fun q h => q = some (.long r.1) ∧ h = bf_S ad r.2.1 r.2.2) := by
  refine bf_met rfl (Nat.le_of_ble_eq_true rfl) ?_
  unfold f_X11_then at hf
  refine bf_iload_n 1 dX11_then_0 rfl rfl ?_
  refine bf_if_lt 24 dX11_then_1 (by decide) (fun c1 => ?_) (fun c1 => ?_)
  · have hf := (if_pos c1).symm.trans hf
    refine bf_ldc2 dX11_then_24 wk_X11_205 ?_
    obtain rfl := Option.some.inj hf
    exact bf_lret dX11_then_27 rfl (Nat.le_refl _) (Nat.le_refl _) ⟨rfl, rfl⟩
  · have hf := (if_neg c1).symm.trans hf
    refine bf_iload_n 1 dX11_then_4 rfl rfl ?_
    refine bf_bipush (v := 9) dX11_then_5 (by decide) ?_
    refine bf_icmp_gt 24 dX11_then_7 (by decide) (fun c2 => ?_) (fun c2 => ?_)
    · have hf := (if_pos c2).symm.trans hf
      refine bf_ldc2 dX11_then_24 wk_X11_205 ?_
      obtain rfl := Option.some.inj hf
      exact bf_lret dX11_then_27 rfl (Nat.le_refl _) (Nat.le_refl _) ⟨rfl, rfl⟩
    · have hf := (if_neg c2).symm.trans hf
      refine bf_aload_n 0 dX11_then_10 rfl rfl ?_
      refine fg_X11_14 dX11_then_11 rfl hk ?_
      refine fg_X11_60 dX11_then_14 rfl (kr_11_0 hk) ?_
      refine bf_iload_n 2 dX11_then_17 rfl rfl ?_
      obtain ⟨r4, e3, hf⟩ := bf_bind hf
      have hCe3 := ok_X3_hasWire (Γ := Γ) (ad := ad) (kr_7_0 (kr_11_0 hk)) e3
      refine cv_X11_71 0 dX11_then_18 rfl ⟨Nat.le_of_ble_eq_true rfl, Nat.le_of_ble_eq_true rfl⟩ (Nat.le_of_ble_eq_true rfl) (kr_7_0 (kr_11_0 hk)) hCe3 ?_
      refine bf_if_ne 28 dX11_then_21 (by decide) (fun c5 => ?_) (fun c5 => ?_)
      · have hf := (if_neg c5).symm.trans hf
        refine bf_aload_n 0 dX11_then_28 rfl rfl ?_
        refine fg_X11_28 dX11_then_29 rfl hk ?_
        refine bf_aload_n 0 dX11_then_32 rfl rfl ?_
        refine fg_X11_14 dX11_then_33 rfl hk ?_
        refine fg_X11_60 dX11_then_36 rfl (kr_11_0 hk) ?_
        obtain ⟨r7, e6, hf⟩ := bf_bind hf
        have hCe6 := ok_X3_copyFrom (Γ := Γ) (ad := ad) (kr_11_3 hk) (kr_7_0 (kr_11_0 hk)) e6
        refine cv_X11_248 2 dX11_then_39 rfl ⟨Nat.le_of_ble_eq_true rfl, Nat.le_of_ble_eq_true rfl⟩ (Nat.le_of_ble_eq_true rfl) (kr_11_3 hk) hCe6 ?_
        refine bf_aload_n 0 dX11_then_42 rfl rfl ?_
        refine fg_X11_35 dX11_then_43 rfl hk ?_
        refine bf_aload_n 0 dX11_then_46 rfl rfl ?_
        refine fg_X11_28 dX11_then_47 rfl hk ?_
        obtain ⟨r9, e8, hf⟩ := bf_bind hf
        have hCe8 := ok_X6_look (Γ := Γ) (ad := ad) (kr_11_4 hk) (kr_11_3 hk) e8
        refine cv_X11_170 5 dX11_then_50 rfl ⟨Nat.le_of_ble_eq_true rfl, Nat.le_of_ble_eq_true rfl⟩ (Nat.le_of_ble_eq_true rfl) (kr_11_4 hk) hCe8 ?_
        refine bf_aload_n 0 dX11_then_53 rfl rfl ?_
        refine bf_aload_n 0 dX11_then_54 rfl rfl ?_
        refine fg_X11_28 dX11_then_55 rfl hk ?_
        refine bf_iload_n 1 dX11_then_58 rfl rfl ?_
        obtain ⟨r11, e10, hf⟩ := bf_bind hf
        have hCe10 := ok_X11_playPeriods (Γ := Γ) (ad := ad) hk (kr_11_3 hk) e10
        refine cv_X11_216 5 dX11_then_59 rfl ⟨Nat.le_of_ble_eq_true rfl, Nat.le_of_ble_eq_true rfl⟩ (Nat.le_of_ble_eq_true rfl) hk hCe10 ?_
        refine bf_pop dX11_then_62 rfl ?_
        refine bf_aload_n 0 dX11_then_63 rfl rfl ?_
        refine fg_X11_28 dX11_then_64 rfl hk ?_
        refine bf_iload_n 2 dX11_then_67 rfl rfl ?_
        refine bf_iload_n 3 dX11_then_68 rfl rfl ?_
        obtain ⟨r13, e12, hf⟩ := bf_bind hf
        have hCe12 := ok_X11_tokenIn (Γ := Γ) (ad := ad) (kr_11_3 hk) e12
        refine cv_X11_201 2 dX11_then_69 rfl ⟨Nat.le_of_ble_eq_true rfl, Nat.le_of_ble_eq_true rfl⟩ (Nat.le_of_ble_eq_true rfl) hCe12 ?_
        obtain rfl := Option.some.inj hf
        exact bf_lret dX11_then_72 rfl (Nat.le_refl _) (Nat.le_refl _) ⟨rfl, rfl⟩
      · have hf := (if_pos c5).symm.trans hf
        refine bf_ldc2 dX11_then_24 wk_X11_205 ?_
        obtain rfl := Option.some.inj hf
        exact bf_lret dX11_then_27 rfl (Nat.le_refl _) (Nat.le_refl _) ⟨rfl, rfl⟩
def f_X11_see (o : Nat) (a0 : Int32) (a1 : Int32) (a2 : Int32) (I : Nat → Nat → Int32) (L : Nat → Nat → Int64) : Option (Int32 × bf_St) :=
  (if a0 = (-1 : Int32) then ((f_X5_clear ((o + 1) + 26) I L).bind (fun r10 => (some (r10.1, r10.2.1, r10.2.2)))) else ((f_X3_hasWire ((o + 1) + 1) a0 I L).bind (fun r3 => (if r3.1 = 0 then (some ((-1 : Int32), r3.2.1, r3.2.2)) else (if a1 < 0 then (some ((-2 : Int32), r3.2.1, r3.2.2)) else (if a1 ≤ (4 : Int32) then ((f_X5_append ((o + 1) + 26) a0 a1 a2 r3.2.1 r3.2.2).bind (fun r8 => (some (r8.1, r8.2.1, r8.2.2)))) else (some ((-2 : Int32), r3.2.1, r3.2.2))))))))
set_option maxRecDepth 100000 in
set_option maxHeartbeats 4000000 in
theorem ok_X11_see {Γ : bf_Gm} {ad : Nat → Nat} {o : Nat} {a0 : Int32} {a1 : Int32} {a2 : Int32} {I : Nat → Nat → Int32} {L : Nat → Nat → Int64} (hk : bf_kd o = 11) {r : Int32 × bf_St} (hf : f_X11_see o a0 a1 a2 I L = some r) : bf_Cn Γ 1 mu_X11_see 0 0 [.ref (ad o), .int a0, .int a1, .int a2] (bf_S ad I L) (fun q h => q = some (.int r.1) ∧ h = bf_S ad r.2.1 r.2.2) := by
  refine bf_met rfl (Nat.le_of_ble_eq_true rfl) ?_
  unfold f_X11_see at hf
  refine bf_iload_n 1 dX11_see_0 rfl rfl ?_
  refine bf_iconst (v := -1) dX11_see_1 (by decide) ?_
  refine bf_icmp_ne 16 dX11_see_2 (by decide) (fun c1 => ?_) (fun c1 => ?_)
  · have hf := (if_neg c1).symm.trans hf
    refine bf_aload_n 0 dX11_see_16 rfl rfl ?_
    refine fg_X11_14 dX11_see_17 rfl hk ?_
    refine fg_X11_60 dX11_see_20 rfl (kr_11_0 hk) ?_
    refine bf_iload_n 1 dX11_see_23 rfl rfl ?_
    obtain ⟨r3, e2, hf⟩ := bf_bind hf
    have hCe2 := ok_X3_hasWire (Γ := Γ) (ad := ad) (kr_7_0 (kr_11_0 hk)) e2
    refine cv_X11_71 0 dX11_see_24 rfl ⟨Nat.le_of_ble_eq_true rfl, Nat.le_of_ble_eq_true rfl⟩ (Nat.le_of_ble_eq_true rfl) (kr_7_0 (kr_11_0 hk)) hCe2 ?_
    refine bf_if_ne 32 dX11_see_27 (by decide) (fun c4 => ?_) (fun c4 => ?_)
    · have hf := (if_neg c4).symm.trans hf
      refine bf_iload_n 2 dX11_see_32 rfl rfl ?_
      refine bf_if_lt 41 dX11_see_33 (by decide) (fun c5 => ?_) (fun c5 => ?_)
      · have hf := (if_pos c5).symm.trans hf
        refine bf_bipush (v := -2) dX11_see_41 (by decide) ?_
        obtain rfl := Option.some.inj hf
        exact bf_iret dX11_see_43 rfl (Nat.le_refl _) (Nat.le_refl _) ⟨rfl, rfl⟩
      · have hf := (if_neg c5).symm.trans hf
        refine bf_iload_n 2 dX11_see_36 rfl rfl ?_
        refine bf_iconst (v := 4) dX11_see_37 (by decide) ?_
        refine bf_icmp_le 44 dX11_see_38 (by decide) (fun c6 => ?_) (fun c6 => ?_)
        · have hf := (if_pos c6).symm.trans hf
          refine bf_aload_n 0 dX11_see_44 rfl rfl ?_
          refine fg_X11_14 dX11_see_45 rfl hk ?_
          refine fg_X11_251 dX11_see_48 rfl (kr_11_0 hk) ?_
          refine bf_iload_n 1 dX11_see_51 rfl rfl ?_
          refine bf_iload_n 2 dX11_see_52 rfl rfl ?_
          refine bf_iload_n 3 dX11_see_53 rfl rfl ?_
          obtain ⟨r8, e7, hf⟩ := bf_bind hf
          have hCe7 := ok_X5_append (Γ := Γ) (ad := ad) (kr_7_1 (kr_11_0 hk)) e7
          refine cv_X11_259 0 dX11_see_54 rfl ⟨Nat.le_of_ble_eq_true rfl, Nat.le_of_ble_eq_true rfl⟩ (Nat.le_of_ble_eq_true rfl) (kr_7_1 (kr_11_0 hk)) hCe7 ?_
          obtain rfl := Option.some.inj hf
          exact bf_iret dX11_see_57 rfl (Nat.le_refl _) (Nat.le_refl _) ⟨rfl, rfl⟩
        · have hf := (if_neg c6).symm.trans hf
          refine bf_bipush (v := -2) dX11_see_41 (by decide) ?_
          obtain rfl := Option.some.inj hf
          exact bf_iret dX11_see_43 rfl (Nat.le_refl _) (Nat.le_refl _) ⟨rfl, rfl⟩
    · have hf := (if_pos c4).symm.trans hf
      refine bf_iconst (v := -1) dX11_see_30 (by decide) ?_
      obtain rfl := Option.some.inj hf
      exact bf_iret dX11_see_31 rfl (Nat.le_refl _) (Nat.le_refl _) ⟨rfl, rfl⟩
  · have hf := (if_pos c1).symm.trans hf
    refine bf_aload_n 0 dX11_see_5 rfl rfl ?_
    refine fg_X11_14 dX11_see_6 rfl hk ?_
    refine fg_X11_251 dX11_see_9 rfl (kr_11_0 hk) ?_
    obtain ⟨r10, e9, hf⟩ := bf_bind hf
    have hCe9 := ok_X5_clear (Γ := Γ) (ad := ad) (kr_7_1 (kr_11_0 hk)) e9
    refine cv_X11_255 0 dX11_see_12 rfl ⟨Nat.le_of_ble_eq_true rfl, Nat.le_of_ble_eq_true rfl⟩ (Nat.le_of_ble_eq_true rfl) (kr_7_1 (kr_11_0 hk)) hCe9 ?_
    obtain rfl := Option.some.inj hf
    exact bf_iret dX11_see_15 rfl (Nat.le_refl _) (Nat.le_refl _) ⟨rfl, rfl⟩
def f_X11_farthestSeen_4 (v0 : Nat) (K : Int32 → (Nat → Nat → Int32) → (Nat → Nat → Int64) → Option (Int32 × bf_St)) : Nat → Int32 → Int32 → (Nat → Nat → Int32) → (Nat → Nat → Int64) → Option (Int32 × bf_St)
  | 0, _, _, _, _ => none
  | n + 1, v1, v2, I, L =>
    (if (I ((v0 + 1) + 26) 0) ≤ v2 then (K v1 I L) else (if bf_ok v2 (bf_le (((v0 + 1) + 26) + 2)) then (f_X11_farthestSeen_4 v0 K n (bf_max v1 (I (((v0 + 1) + 26) + 2) v2.toNatClampNeg)) (v2 + (1 : Int32)) I L) else none))
set_option maxRecDepth 100000 in
set_option maxHeartbeats 4000000 in
theorem ok_X11_farthestSeen_4 {Γ : bf_Gm} {ad : Nat → Nat} {v0 : Nat} (hv0 : bf_kd v0 = 11) {r : Int32 × bf_St} {K : Int32 → (Nat → Nat → Int32) → (Nat → Nat → Int64) → Option (Int32 × bf_St)} (hK : ∀ (v1 : Int32) (I : Nat → Nat → Int32) (L : Nat → Nat → Int64), K v1 I L = some r → bf_Go Γ (bf_rm 1 0 0) mu_X11_farthestSeen bf_E0 (bf_Z Γ (fun q h => q = some (.int r.1) ∧ h = bf_S ad r.2.1 r.2.2) 0 0) (0, 0) 41 [(1, .int v1)] [] (bf_S ad I L)) : ∀ (n : Nat) (v1 : Int32) (v2 : Int32) (I : Nat → Nat → Int32) (L : Nat → Nat → Int64), f_X11_farthestSeen_4 v0 K n v1 v2 I L = some r → bf_Go Γ (bf_rm 1 0 0) mu_X11_farthestSeen bf_E0 (bf_Z Γ (fun q h => q = some (.int r.1) ∧ h = bf_S ad r.2.1 r.2.2) 0 0) (0, 0) 4 [(0, .ref (ad v0)), (1, .int v1), (2, .int v2)] [] (bf_S ad I L) := by
  intro n
  induction n with
  | zero => intro v1 v2 I L hf; exact absurd (show none = some r from hf) (by simp)
  | succ n ih =>
    intro v1 v2 I L hf
    rw [f_X11_farthestSeen_4] at hf
    refine bf_iload_n 2 dX11_farthestSeen_4 rfl rfl ?_
    refine bf_aload_n 0 dX11_farthestSeen_5 rfl rfl ?_
    refine fg_X11_14 dX11_farthestSeen_6 rfl hv0 ?_
    refine fg_X11_251 dX11_farthestSeen_9 rfl (kr_11_0 hv0) ?_
    refine fg_X11_272 dX11_farthestSeen_12 rfl (kr_7_1 (kr_11_0 hv0)) ?_
    refine bf_icmp_ge 41 dX11_farthestSeen_15 (by decide) (fun c1 => ?_) (fun c1 => ?_)
    · have hf := (if_pos c1).symm.trans hf
      refine bf_perm [1] rfl ?_
      exact hK _ _ _ hf
    · have hf := (if_neg c1).symm.trans hf
      refine bf_iload_n 1 dX11_farthestSeen_18 rfl rfl ?_
      refine bf_aload_n 0 dX11_farthestSeen_19 rfl rfl ?_
      refine fg_X11_14 dX11_farthestSeen_20 rfl hv0 ?_
      refine fg_X11_251 dX11_farthestSeen_23 rfl (kr_11_0 hv0) ?_
      refine fg_X11_273 dX11_farthestSeen_26 rfl (kr_7_1 (kr_11_0 hv0)) ?_
      refine bf_iload_n 2 dX11_farthestSeen_29 rfl rfl ?_
      rcases Decidable.em (bf_ok v2 (bf_le (((v0 + 1) + 26) + 2))) with c2 | c2
      · have hf := (if_pos c2).symm.trans hf
        refine bf_iald dX11_farthestSeen_30 (kr_5_2 (kr_7_1 (kr_11_0 hv0))) c2 ?_
        refine bf_mmax dX11_farthestSeen_31 wl_X11_276 wt_Jmax wi_J9 wc_Jmax (Nat.le_of_ble_eq_true rfl) (Nat.le_of_ble_eq_true rfl) (Nat.zero_le _) (Nat.zero_le _) ?_
        refine bf_istore_n (lv2 := [(1, .int _), (0, .ref _), (2, .int _)]) dX11_farthestSeen_34 rfl (by decide) rfl ?_
        refine bf_iinc 2 (v := _ + (1 : Int32)) (lv2 := [(2, .int _), (1, .int _), (0, .ref _)]) dX11_farthestSeen_35 rfl (by rfl) (by decide) rfl ?_
        refine bf_goto 4 dX11_farthestSeen_38 (by decide) ?_
        refine bf_perm [2, 1, 0] rfl ?_
        exact ih _ _ _ _ hf
      · exact absurd ((if_neg c2).symm.trans hf) (by simp)
def f_X11_farthestSeen (o : Nat) (I : Nat → Nat → Int32) (L : Nat → Nat → Int64) : Option (Int32 × bf_St) :=
  (f_X11_farthestSeen_4 o (fun k1_3 I3 L3 => (some (k1_3, I3, L3))) 400 (0 : Int32) (0 : Int32) I L)
set_option maxRecDepth 100000 in
set_option maxHeartbeats 4000000 in
theorem ok_X11_farthestSeen {Γ : bf_Gm} {ad : Nat → Nat} {o : Nat} {I : Nat → Nat → Int32} {L : Nat → Nat → Int64} (hk : bf_kd o = 11) {r : Int32 × bf_St} (hf : f_X11_farthestSeen o I L = some r) : bf_Cn Γ 1 mu_X11_farthestSeen 0 0 [.ref (ad o)] (bf_S ad I L) (fun q h => q = some (.int r.1) ∧ h = bf_S ad r.2.1 r.2.2) := by
  refine bf_met rfl (Nat.le_of_ble_eq_true rfl) ?_
  unfold f_X11_farthestSeen at hf
  refine bf_iconst (v := 0) dX11_farthestSeen_0 (by decide) ?_
  refine bf_istore_n (lv2 := [(1, .int _), (0, .ref _)]) dX11_farthestSeen_1 rfl (by decide) rfl ?_
  refine bf_iconst (v := 0) dX11_farthestSeen_2 (by decide) ?_
  refine bf_istore_n (lv2 := [(2, .int _), (1, .int _), (0, .ref _)]) dX11_farthestSeen_3 rfl (by decide) rfl ?_
  refine bf_perm [2, 1, 0] rfl ?_
  refine ok_X11_farthestSeen_4 hk (fun k1_3 I3 L3 hf => ?_) _ _ _ _ _  hf
  refine bf_iload_n 0 dX11_farthestSeen_41 rfl rfl ?_
  obtain rfl := Option.some.inj hf
  exact bf_iret dX11_farthestSeen_42 rfl (Nat.le_refl _) (Nat.le_refl _) ⟨rfl, rfl⟩
