def f_X11_image (o : Nat) (I : Nat → Nat → Int32) (L : Nat → Nat → Int64) : Option (Int32 × bf_St) :=
  ((f_X7_copyFrom (o + 39) (o + 1) I L).bind (fun r2 => (some (((bf_u r2.1 o 2 (1 : Int32)) ((o + 1) + 1) 2), (bf_u r2.1 o 2 (1 : Int32)), r2.2))))
set_option maxRecDepth 100000 in
set_option maxHeartbeats 4000000 in
theorem ok_X11_image {Γ : bf_Gm} {ad : Nat → Nat} {o : Nat} {I : Nat → Nat → Int32} {L : Nat → Nat → Int64} (hk : bf_kd o = 11) {r : Int32 × bf_St} (hf : f_X11_image o I L = some r) : bf_Cn Γ 4 mu_X11_image 0 0 [.ref (ad o)] (bf_S ad I L) (fun q h => q = some (.int r.1) ∧ h = bf_S ad r.2.1 r.2.2) := by
  refine bf_met rfl (Nat.le_of_ble_eq_true rfl) ?_
  unfold f_X11_image at hf
  refine bf_aload_n 0 dX11_image_0 rfl rfl ?_
  refine fg_X11_18 dX11_image_1 rfl hk ?_
  refine bf_aload_n 0 dX11_image_4 rfl rfl ?_
  refine fg_X11_14 dX11_image_5 rfl hk ?_
  obtain ⟨r2, e1, hf⟩ := bf_bind hf
  have hCe1 := ok_X7_copyFrom (Γ := Γ) (ad := ad) (kr_11_1 hk) (kr_11_0 hk) e1
  refine cv_X11_332 3 dX11_image_8 rfl ⟨Nat.le_of_ble_eq_true rfl, Nat.le_of_ble_eq_true rfl⟩ (Nat.le_of_ble_eq_true rfl) (kr_11_1 hk) hCe1 ?_
  refine bf_aload_n 0 dX11_image_11 rfl rfl ?_
  refine bf_iconst (v := 1) dX11_image_12 (by decide) ?_
  refine fp_X11_21 (by decide) dX11_image_13 rfl hk ?_
  refine bf_aload_n 0 dX11_image_16 rfl rfl ?_
  refine fg_X11_14 dX11_image_17 rfl hk ?_
  refine fg_X11_60 dX11_image_20 rfl (kr_11_0 hk) ?_
  refine fg_X11_335 dX11_image_23 rfl (kr_7_0 (kr_11_0 hk)) ?_
  obtain rfl := Option.some.inj hf
  exact bf_iret dX11_image_26 rfl (Nat.le_refl _) (Nat.le_refl _) ⟨rfl, rfl⟩
def f_X11_undo (o : Nat) (I : Nat → Nat → Int32) (L : Nat → Nat → Int64) : Option (Int32 × bf_St) :=
  (if (I o 2) = 0 then (some ((-3 : Int32), I, L)) else ((f_X7_copyFrom (o + 1) (o + 39) I L).bind (fun r3 => (some ((r3.1 ((o + 1) + 1) 2), r3.1, r3.2)))))
set_option maxRecDepth 100000 in
set_option maxHeartbeats 4000000 in
theorem ok_X11_undo {Γ : bf_Gm} {ad : Nat → Nat} {o : Nat} {I : Nat → Nat → Int32} {L : Nat → Nat → Int64} (hk : bf_kd o = 11) {r : Int32 × bf_St} (hf : f_X11_undo o I L = some r) : bf_Cn Γ 4 mu_X11_undo 0 0 [.ref (ad o)] (bf_S ad I L) (fun q h => q = some (.int r.1) ∧ h = bf_S ad r.2.1 r.2.2) := by
  refine bf_met rfl (Nat.le_of_ble_eq_true rfl) ?_
  unfold f_X11_undo at hf
  refine bf_aload_n 0 dX11_undo_0 rfl rfl ?_
  refine fg_X11_21 dX11_undo_1 rfl hk ?_
  refine bf_if_ne 10 dX11_undo_4 (by decide) (fun c1 => ?_) (fun c1 => ?_)
  · have hf := (if_neg c1).symm.trans hf
    refine bf_aload_n 0 dX11_undo_10 rfl rfl ?_
    refine fg_X11_14 dX11_undo_11 rfl hk ?_
    refine bf_aload_n 0 dX11_undo_14 rfl rfl ?_
    refine fg_X11_18 dX11_undo_15 rfl hk ?_
    obtain ⟨r3, e2, hf⟩ := bf_bind hf
    have hCe2 := ok_X7_copyFrom (Γ := Γ) (ad := ad) (kr_11_0 hk) (kr_11_1 hk) e2
    refine cv_X11_332 3 dX11_undo_18 rfl ⟨Nat.le_of_ble_eq_true rfl, Nat.le_of_ble_eq_true rfl⟩ (Nat.le_of_ble_eq_true rfl) (kr_11_0 hk) hCe2 ?_
    refine bf_aload_n 0 dX11_undo_21 rfl rfl ?_
    refine fg_X11_14 dX11_undo_22 rfl hk ?_
    refine fg_X11_60 dX11_undo_25 rfl (kr_11_0 hk) ?_
    refine fg_X11_335 dX11_undo_28 rfl (kr_7_0 (kr_11_0 hk)) ?_
    obtain rfl := Option.some.inj hf
    exact bf_iret dX11_undo_31 rfl (Nat.le_refl _) (Nat.le_refl _) ⟨rfl, rfl⟩
  · have hf := (if_pos c1).symm.trans hf
    refine bf_bipush (v := -3) dX11_undo_7 (by decide) ?_
    obtain rfl := Option.some.inj hf
    exact bf_iret dX11_undo_9 rfl (Nat.le_refl _) (Nat.le_refl _) ⟨rfl, rfl⟩
def f_X11_count (o : Nat) (a0 : Int32) (I : Nat → Nat → Int32) (L : Nat → Nat → Int64) : Option (Int32 × bf_St) :=
  (if a0 = 0 then (some ((I ((o + 1) + 1) 2), I, L)) else (if a0 = 1 then (some ((I ((o + 1) + 1) 3), I, L)) else (if a0 = 2 then ((f_X3_wiresThere ((o + 1) + 1) I L).bind (fun r5 => (some (r5.1, r5.2.1, r5.2.2)))) else (if a0 = 3 then (some ((I ((o + 1) + 26) 0), I, L)) else (if a0 = 4 then (some ((I ((o + 1) + 30) 0), I, L)) else (if a0 = 5 then (some ((I ((o + 1) + 34) 0), I, L)) else (if a0 = 6 then (some ((I (o + 124) 0), I, L)) else (some ((-2 : Int32), I, L)))))))))
set_option maxRecDepth 100000 in
set_option maxHeartbeats 4000000 in
theorem ok_X11_count {Γ : bf_Gm} {ad : Nat → Nat} {o : Nat} {a0 : Int32} {I : Nat → Nat → Int32} {L : Nat → Nat → Int64} (hk : bf_kd o = 11) {r : Int32 × bf_St} (hf : f_X11_count o a0 I L = some r) : bf_Cn Γ 1 mu_X11_count 0 0 [.ref (ad o), .int a0] (bf_S ad I L) (fun q h => q = some (.int r.1) ∧ h = bf_S ad r.2.1 r.2.2) := by
  refine bf_met rfl (Nat.le_of_ble_eq_true rfl) ?_
  unfold f_X11_count at hf
  refine bf_iload_n 1 dX11_count_0 rfl rfl ?_
  rcases Decidable.em (a0 = 0) with c1 | c1
  · have hf := (if_pos c1).symm.trans hf
    refine bf_swIn 44 dX11_count_1 (by rw [c1]; decide) (by rw [c1]; decide) (by rw [c1]; rfl) (by decide) ?_
    refine bf_aload_n 0 dX11_count_44 rfl rfl ?_
    refine fg_X11_14 dX11_count_45 rfl hk ?_
    refine fg_X11_60 dX11_count_48 rfl (kr_11_0 hk) ?_
    refine fg_X11_335 dX11_count_51 rfl (kr_7_0 (kr_11_0 hk)) ?_
    obtain rfl := Option.some.inj hf
    exact bf_iret dX11_count_54 rfl (Nat.le_refl _) (Nat.le_refl _) ⟨rfl, rfl⟩
  · have hf := (if_neg c1).symm.trans hf
    rcases Decidable.em (a0 = 1) with c2 | c2
    · have hf := (if_pos c2).symm.trans hf
      refine bf_swIn 55 dX11_count_1 (by rw [c2]; decide) (by rw [c2]; decide) (by rw [c2]; rfl) (by decide) ?_
      refine bf_aload_n 0 dX11_count_55 rfl rfl ?_
      refine fg_X11_14 dX11_count_56 rfl hk ?_
      refine fg_X11_60 dX11_count_59 rfl (kr_11_0 hk) ?_
      refine fg_X11_338 dX11_count_62 rfl (kr_7_0 (kr_11_0 hk)) ?_
      obtain rfl := Option.some.inj hf
      exact bf_iret dX11_count_65 rfl (Nat.le_refl _) (Nat.le_refl _) ⟨rfl, rfl⟩
    · have hf := (if_neg c2).symm.trans hf
      rcases Decidable.em (a0 = 2) with c3 | c3
      · have hf := (if_pos c3).symm.trans hf
        refine bf_swIn 66 dX11_count_1 (by rw [c3]; decide) (by rw [c3]; decide) (by rw [c3]; rfl) (by decide) ?_
        refine bf_aload_n 0 dX11_count_66 rfl rfl ?_
        refine fg_X11_14 dX11_count_67 rfl hk ?_
        refine fg_X11_60 dX11_count_70 rfl (kr_11_0 hk) ?_
        obtain ⟨r5, e4, hf⟩ := bf_bind hf
        have hCe4 := ok_X3_wiresThere (Γ := Γ) (ad := ad) (kr_7_0 (kr_11_0 hk)) e4
        refine cv_X11_341 0 dX11_count_73 rfl ⟨Nat.le_of_ble_eq_true rfl, Nat.le_of_ble_eq_true rfl⟩ (Nat.le_of_ble_eq_true rfl) (kr_7_0 (kr_11_0 hk)) hCe4 ?_
        obtain rfl := Option.some.inj hf
        exact bf_iret dX11_count_76 rfl (Nat.le_refl _) (Nat.le_refl _) ⟨rfl, rfl⟩
      · have hf := (if_neg c3).symm.trans hf
        rcases Decidable.em (a0 = 3) with c6 | c6
        · have hf := (if_pos c6).symm.trans hf
          refine bf_swIn 77 dX11_count_1 (by rw [c6]; decide) (by rw [c6]; decide) (by rw [c6]; rfl) (by decide) ?_
          refine bf_aload_n 0 dX11_count_77 rfl rfl ?_
          refine fg_X11_14 dX11_count_78 rfl hk ?_
          refine fg_X11_251 dX11_count_81 rfl (kr_11_0 hk) ?_
          refine fg_X11_272 dX11_count_84 rfl (kr_7_1 (kr_11_0 hk)) ?_
          obtain rfl := Option.some.inj hf
          exact bf_iret dX11_count_87 rfl (Nat.le_refl _) (Nat.le_refl _) ⟨rfl, rfl⟩
        · have hf := (if_neg c6).symm.trans hf
          rcases Decidable.em (a0 = 4) with c7 | c7
          · have hf := (if_pos c7).symm.trans hf
            refine bf_swIn 88 dX11_count_1 (by rw [c7]; decide) (by rw [c7]; decide) (by rw [c7]; rfl) (by decide) ?_
            refine bf_aload_n 0 dX11_count_88 rfl rfl ?_
            refine fg_X11_14 dX11_count_89 rfl hk ?_
            refine fg_X11_308 dX11_count_92 rfl (kr_11_0 hk) ?_
            refine fg_X11_272 dX11_count_95 rfl (kr_7_2 (kr_11_0 hk)) ?_
            obtain rfl := Option.some.inj hf
            exact bf_iret dX11_count_98 rfl (Nat.le_refl _) (Nat.le_refl _) ⟨rfl, rfl⟩
          · have hf := (if_neg c7).symm.trans hf
            rcases Decidable.em (a0 = 5) with c8 | c8
            · have hf := (if_pos c8).symm.trans hf
              refine bf_swIn 99 dX11_count_1 (by rw [c8]; decide) (by rw [c8]; decide) (by rw [c8]; rfl) (by decide) ?_
              refine bf_aload_n 0 dX11_count_99 rfl rfl ?_
              refine fg_X11_14 dX11_count_100 rfl hk ?_
              refine fg_X11_318 dX11_count_103 rfl (kr_11_0 hk) ?_
              refine fg_X11_272 dX11_count_106 rfl (kr_7_3 (kr_11_0 hk)) ?_
              obtain rfl := Option.some.inj hf
              exact bf_iret dX11_count_109 rfl (Nat.le_refl _) (Nat.le_refl _) ⟨rfl, rfl⟩
            · have hf := (if_neg c8).symm.trans hf
              rcases Decidable.em (a0 = 6) with c9 | c9
              · have hf := (if_pos c9).symm.trans hf
                refine bf_swIn 110 dX11_count_1 (by rw [c9]; decide) (by rw [c9]; decide) (by rw [c9]; rfl) (by decide) ?_
                refine bf_aload_n 0 dX11_count_110 rfl rfl ?_
                refine fg_X11_49 dX11_count_111 rfl hk ?_
                refine fg_X11_95 dX11_count_114 rfl (kr_11_6 hk) ?_
                obtain rfl := Option.some.inj hf
                exact bf_iret dX11_count_117 rfl (Nat.le_refl _) (Nat.le_refl _) ⟨rfl, rfl⟩
              · have hf := (if_neg c9).symm.trans hf
                have c1 : _ ≠ (0 : Int) := bf_nne c1
                have c2 : _ ≠ (1 : Int) := bf_nne c2
                have c3 : _ ≠ (2 : Int) := bf_nne c3
                have c6 : _ ≠ (3 : Int) := bf_nne c6
                have c7 : _ ≠ (4 : Int) := bf_nne c7
                have c8 : _ ≠ (5 : Int) := bf_nne c8
                have c9 : _ ≠ (6 : Int) := bf_nne c9
                refine bf_swOut 118 dX11_count_1 (by omega) (by decide) ?_
                refine bf_bipush (v := -2) dX11_count_118 (by decide) ?_
                obtain rfl := Option.some.inj hf
                exact bf_iret dX11_count_120 rfl (Nat.le_refl _) (Nat.le_refl _) ⟨rfl, rfl⟩
def f_X11_tape (o : Nat) (a0 : Int32) (a1 : Int32) (a2 : Int32) (I : Nat → Nat → Int32) (L : Nat → Nat → Int64) : Option (Int32 × bf_St) :=
  ((f_X11_isTape a0 I L).bind (fun r2 => (if r2.1 = 0 then (some ((-1 : Int32), r2.2.1, r2.2.2)) else (if a1 = (-1 : Int32) then (if bf_ok a0 6 then ((f_X8_become ((o + 143) + 1 + 2 * a0.toNatClampNeg) (-1 : Int32) (0 : Int32) r2.2.1 r2.2.2).bind (fun r14 => (some ((1 : Int32), r14.1, r14.2)))) else none) else (if a1 < 0 then (some ((-2 : Int32), r2.2.1, r2.2.2)) else (if (4 : Int32) < a1 then (some ((-2 : Int32), r2.2.1, r2.2.2)) else (if a2 ≤ (60 : Int32) then (if 0 ≤ a2 then (if bf_ok a0 6 then ((f_X8_become ((o + 143) + 1 + 2 * a0.toNatClampNeg) a1 a2 r2.2.1 r2.2.2).bind (fun r11 => (some ((1 : Int32), r11.1, r11.2)))) else none) else (some ((-14 : Int32), r2.2.1, r2.2.2))) else (some ((-2 : Int32), r2.2.1, r2.2.2)))))))))
set_option maxRecDepth 100000 in
set_option maxHeartbeats 4000000 in
theorem ok_X11_tape {Γ : bf_Gm} {ad : Nat → Nat} {o : Nat} {a0 : Int32} {a1 : Int32} {a2 : Int32} {I : Nat → Nat → Int32} {L : Nat → Nat → Int64} (hk : bf_kd o = 11) {r : Int32 × bf_St} (hf : f_X11_tape o a0 a1 a2 I L = some r) : bf_Cn Γ 2 mu_X11_tape 0 0 [.ref (ad o), .int a0, .int a1, .int a2] (bf_S ad I L) (fun q h => q = some (.int r.1) ∧ h = bf_S ad r.2.1 r.2.2) := by
  refine bf_met rfl (Nat.le_of_ble_eq_true rfl) ?_
  unfold f_X11_tape at hf
  refine bf_iload_n 1 dX11_tape_0 rfl rfl ?_
  obtain ⟨r2, e1, hf⟩ := bf_bind hf
  have hCe1 := ok_X11_isTape (Γ := Γ) (ad := ad)  e1
  refine cv_X11_321 0 dX11_tape_1 rfl ⟨Nat.le_of_ble_eq_true rfl, Nat.le_of_ble_eq_true rfl⟩ (Nat.le_of_ble_eq_true rfl) hCe1 ?_
  refine bf_if_ne 9 dX11_tape_4 (by decide) (fun c3 => ?_) (fun c3 => ?_)
  · have hf := (if_neg c3).symm.trans hf
    refine bf_iload_n 2 dX11_tape_9 rfl rfl ?_
    refine bf_iconst (v := -1) dX11_tape_10 (by decide) ?_
    refine bf_icmp_ne 27 dX11_tape_11 (by decide) (fun c4 => ?_) (fun c4 => ?_)
    · have hf := (if_neg c4).symm.trans hf
      refine bf_iload_n 2 dX11_tape_27 rfl rfl ?_
      refine bf_if_lt 42 dX11_tape_28 (by decide) (fun c5 => ?_) (fun c5 => ?_)
      · have hf := (if_pos c5).symm.trans hf
        refine bf_bipush (v := -2) dX11_tape_42 (by decide) ?_
        obtain rfl := Option.some.inj hf
        exact bf_iret dX11_tape_44 rfl (Nat.le_refl _) (Nat.le_refl _) ⟨rfl, rfl⟩
      · have hf := (if_neg c5).symm.trans hf
        refine bf_iload_n 2 dX11_tape_31 rfl rfl ?_
        refine bf_iconst (v := 4) dX11_tape_32 (by decide) ?_
        refine bf_icmp_gt 42 dX11_tape_33 (by decide) (fun c6 => ?_) (fun c6 => ?_)
        · have hf := (if_pos c6).symm.trans hf
          refine bf_bipush (v := -2) dX11_tape_42 (by decide) ?_
          obtain rfl := Option.some.inj hf
          exact bf_iret dX11_tape_44 rfl (Nat.le_refl _) (Nat.le_refl _) ⟨rfl, rfl⟩
        · have hf := (if_neg c6).symm.trans hf
          refine bf_iload_n 3 dX11_tape_36 rfl rfl ?_
          refine bf_bipush (v := 60) dX11_tape_37 (by decide) ?_
          refine bf_icmp_le 45 dX11_tape_39 (by decide) (fun c7 => ?_) (fun c7 => ?_)
          · have hf := (if_pos c7).symm.trans hf
            refine bf_iload_n 3 dX11_tape_45 rfl rfl ?_
            refine bf_if_ge 52 dX11_tape_46 (by decide) (fun c8 => ?_) (fun c8 => ?_)
            · have hf := (if_pos c8).symm.trans hf
              refine bf_aload_n 0 dX11_tape_52 rfl rfl ?_
              refine fg_X11_55 dX11_tape_53 rfl hk ?_
              refine bf_iload_n 1 dX11_tape_56 rfl rfl ?_
              rcases Decidable.em (bf_ok a0 6) with c9 | c9
              · have hf := (if_pos c9).symm.trans hf
                refine al_18 dX11_tape_57 (kr_11_7 hk) (by rw [(la_18 (kr_11_7 hk))]; exact c9) ?_
                refine bf_iload_n 2 dX11_tape_58 rfl rfl ?_
                refine bf_iload_n 3 dX11_tape_59 rfl rfl ?_
                obtain ⟨r11, e10, hf⟩ := bf_bind hf
                have hCe10 := ok_X8_become (Γ := Γ) (ad := ad) (ka_18 (kr_11_7 hk) ((by rw [(la_18 (kr_11_7 hk))]; exact c9) : bf_ok _ _).2) e10
                refine cv_X11_344 1 dX11_tape_60 rfl ⟨Nat.le_of_ble_eq_true rfl, Nat.le_of_ble_eq_true rfl⟩ (Nat.le_of_ble_eq_true rfl) (ka_18 (kr_11_7 hk) ((by rw [(la_18 (kr_11_7 hk))]; exact c9) : bf_ok _ _).2) hCe10 ?_
                refine bf_iconst (v := 1) dX11_tape_63 (by decide) ?_
                obtain rfl := Option.some.inj hf
                exact bf_iret dX11_tape_64 rfl (Nat.le_refl _) (Nat.le_refl _) ⟨rfl, rfl⟩
              · exact absurd ((if_neg c9).symm.trans hf) (by simp)
            · have hf := (if_neg c8).symm.trans hf
              refine bf_bipush (v := -14) dX11_tape_49 (by decide) ?_
              obtain rfl := Option.some.inj hf
              exact bf_iret dX11_tape_51 rfl (Nat.le_refl _) (Nat.le_refl _) ⟨rfl, rfl⟩
          · have hf := (if_neg c7).symm.trans hf
            refine bf_bipush (v := -2) dX11_tape_42 (by decide) ?_
            obtain rfl := Option.some.inj hf
            exact bf_iret dX11_tape_44 rfl (Nat.le_refl _) (Nat.le_refl _) ⟨rfl, rfl⟩
    · have hf := (if_pos c4).symm.trans hf
      refine bf_aload_n 0 dX11_tape_14 rfl rfl ?_
      refine fg_X11_55 dX11_tape_15 rfl hk ?_
      refine bf_iload_n 1 dX11_tape_18 rfl rfl ?_
      rcases Decidable.em (bf_ok a0 6) with c12 | c12
      · have hf := (if_pos c12).symm.trans hf
        refine al_18 dX11_tape_19 (kr_11_7 hk) (by rw [(la_18 (kr_11_7 hk))]; exact c12) ?_
        refine bf_iconst (v := -1) dX11_tape_20 (by decide) ?_
        refine bf_iconst (v := 0) dX11_tape_21 (by decide) ?_
        obtain ⟨r14, e13, hf⟩ := bf_bind hf
        have hCe13 := ok_X8_become (Γ := Γ) (ad := ad) (ka_18 (kr_11_7 hk) ((by rw [(la_18 (kr_11_7 hk))]; exact c12) : bf_ok _ _).2) e13
        refine cv_X11_344 1 dX11_tape_22 rfl ⟨Nat.le_of_ble_eq_true rfl, Nat.le_of_ble_eq_true rfl⟩ (Nat.le_of_ble_eq_true rfl) (ka_18 (kr_11_7 hk) ((by rw [(la_18 (kr_11_7 hk))]; exact c12) : bf_ok _ _).2) hCe13 ?_
        refine bf_iconst (v := 1) dX11_tape_25 (by decide) ?_
        obtain rfl := Option.some.inj hf
        exact bf_iret dX11_tape_26 rfl (Nat.le_refl _) (Nat.le_refl _) ⟨rfl, rfl⟩
      · exact absurd ((if_neg c12).symm.trans hf) (by simp)
  · have hf := (if_pos c3).symm.trans hf
    refine bf_iconst (v := -1) dX11_tape_7 (by decide) ?_
    obtain rfl := Option.some.inj hf
    exact bf_iret dX11_tape_8 rfl (Nat.le_refl _) (Nat.le_refl _) ⟨rfl, rfl⟩
def f_X11_item (o : Nat) (a0 : Int32) (a1 : Int32) (a2 : Int64) (I : Nat → Nat → Int32) (L : Nat → Nat → Int64) : Option (Int32 × bf_St) :=
  ((f_X11_isTape a0 I L).bind (fun r2 => (if r2.1 = 0 then (some ((-1 : Int32), r2.2.1, r2.2.2)) else (if bf_ok a0 6 then (if (r2.2.1 ((o + 143) + 1 + 2 * a0.toNatClampNeg) 0) = (-1 : Int32) then (some ((-11 : Int32), r2.2.1, r2.2.2)) else (if bf_ok a0 6 then ((f_X8_holds ((o + 143) + 1 + 2 * a0.toNatClampNeg) a1 r2.2.1 r2.2.2).bind (fun r8 => (if r8.1 = 0 then (some ((-13 : Int32), r8.2.1, r8.2.2)) else (if bf_ok a0 6 then ((f_X8_put ((o + 143) + 1 + 2 * a0.toNatClampNeg) a1 a2 r8.2.1 r8.2.2).bind (fun r12 => (some ((1 : Int32), r12.1, r12.2)))) else none)))) else none)) else none))))
set_option maxRecDepth 100000 in
set_option maxHeartbeats 4000000 in
theorem ok_X11_item {Γ : bf_Gm} {ad : Nat → Nat} {o : Nat} {a0 : Int32} {a1 : Int32} {a2 : Int64} {I : Nat → Nat → Int32} {L : Nat → Nat → Int64} (hk : bf_kd o = 11) {r : Int32 × bf_St} (hf : f_X11_item o a0 a1 a2 I L = some r) : bf_Cn Γ 2 mu_X11_item 0 0 [.ref (ad o), .int a0, .int a1, .long a2] (bf_S ad I L) (fun q h => q = some (.int r.1) ∧ h = bf_S ad r.2.1 r.2.2) := by
  refine bf_met rfl (Nat.le_of_ble_eq_true rfl) ?_
  unfold f_X11_item at hf
  refine bf_iload_n 1 dX11_item_0 rfl rfl ?_
  obtain ⟨r2, e1, hf⟩ := bf_bind hf
  have hCe1 := ok_X11_isTape (Γ := Γ) (ad := ad)  e1
  refine cv_X11_321 0 dX11_item_1 rfl ⟨Nat.le_of_ble_eq_true rfl, Nat.le_of_ble_eq_true rfl⟩ (Nat.le_of_ble_eq_true rfl) hCe1 ?_
  refine bf_if_ne 9 dX11_item_4 (by decide) (fun c3 => ?_) (fun c3 => ?_)
  · have hf := (if_neg c3).symm.trans hf
    refine bf_aload_n 0 dX11_item_9 rfl rfl ?_
    refine fg_X11_55 dX11_item_10 rfl hk ?_
    refine bf_iload_n 1 dX11_item_13 rfl rfl ?_
    rcases Decidable.em (bf_ok a0 6) with c4 | c4
    · have hf := (if_pos c4).symm.trans hf
      refine al_18 dX11_item_14 (kr_11_7 hk) (by rw [(la_18 (kr_11_7 hk))]; exact c4) ?_
      refine fg_X11_324 dX11_item_15 rfl (ka_18 (kr_11_7 hk) ((by rw [(la_18 (kr_11_7 hk))]; exact c4) : bf_ok _ _).2) ?_
      refine bf_iconst (v := -1) dX11_item_18 (by decide) ?_
      refine bf_icmp_ne 25 dX11_item_19 (by decide) (fun c5 => ?_) (fun c5 => ?_)
      · have hf := (if_neg c5).symm.trans hf
        refine bf_aload_n 0 dX11_item_25 rfl rfl ?_
        refine fg_X11_55 dX11_item_26 rfl hk ?_
        refine bf_iload_n 1 dX11_item_29 rfl rfl ?_
        rcases Decidable.em (bf_ok a0 6) with c6 | c6
        · have hf := (if_pos c6).symm.trans hf
          refine al_18 dX11_item_30 (kr_11_7 hk) (by rw [(la_18 (kr_11_7 hk))]; exact c6) ?_
          refine bf_iload_n 2 dX11_item_31 rfl rfl ?_
          obtain ⟨r8, e7, hf⟩ := bf_bind hf
          have hCe7 := ok_X8_holds (Γ := Γ) (ad := ad) (ka_18 (kr_11_7 hk) ((by rw [(la_18 (kr_11_7 hk))]; exact c6) : bf_ok _ _).2) e7
          refine cv_X11_347 0 dX11_item_32 rfl ⟨Nat.le_of_ble_eq_true rfl, Nat.le_of_ble_eq_true rfl⟩ (Nat.le_of_ble_eq_true rfl) (ka_18 (kr_11_7 hk) ((by rw [(la_18 (kr_11_7 hk))]; exact c6) : bf_ok _ _).2) hCe7 ?_
          refine bf_if_ne 41 dX11_item_35 (by decide) (fun c9 => ?_) (fun c9 => ?_)
          · have hf := (if_neg c9).symm.trans hf
            refine bf_aload_n 0 dX11_item_41 rfl rfl ?_
            refine fg_X11_55 dX11_item_42 rfl hk ?_
            refine bf_iload_n 1 dX11_item_45 rfl rfl ?_
            rcases Decidable.em (bf_ok a0 6) with c10 | c10
            · have hf := (if_pos c10).symm.trans hf
              refine al_18 dX11_item_46 (kr_11_7 hk) (by rw [(la_18 (kr_11_7 hk))]; exact c10) ?_
              refine bf_iload_n 2 dX11_item_47 rfl rfl ?_
              refine bf_lload_n 3 dX11_item_48 rfl rfl ?_
              obtain ⟨r12, e11, hf⟩ := bf_bind hf
              have hCe11 := ok_X8_put (Γ := Γ) (ad := ad) (ka_18 (kr_11_7 hk) ((by rw [(la_18 (kr_11_7 hk))]; exact c10) : bf_ok _ _).2) e11
              refine cv_X11_348 1 dX11_item_49 rfl ⟨Nat.le_of_ble_eq_true rfl, Nat.le_of_ble_eq_true rfl⟩ (Nat.le_of_ble_eq_true rfl) (ka_18 (kr_11_7 hk) ((by rw [(la_18 (kr_11_7 hk))]; exact c10) : bf_ok _ _).2) hCe11 ?_
              refine bf_iconst (v := 1) dX11_item_52 (by decide) ?_
              obtain rfl := Option.some.inj hf
              exact bf_iret dX11_item_53 rfl (Nat.le_refl _) (Nat.le_refl _) ⟨rfl, rfl⟩
            · exact absurd ((if_neg c10).symm.trans hf) (by simp)
          · have hf := (if_pos c9).symm.trans hf
            refine bf_bipush (v := -13) dX11_item_38 (by decide) ?_
            obtain rfl := Option.some.inj hf
            exact bf_iret dX11_item_40 rfl (Nat.le_refl _) (Nat.le_refl _) ⟨rfl, rfl⟩
        · exact absurd ((if_neg c6).symm.trans hf) (by simp)
      · have hf := (if_pos c5).symm.trans hf
        refine bf_bipush (v := -11) dX11_item_22 (by decide) ?_
        obtain rfl := Option.some.inj hf
        exact bf_iret dX11_item_24 rfl (Nat.le_refl _) (Nat.le_refl _) ⟨rfl, rfl⟩
    · exact absurd ((if_neg c4).symm.trans hf) (by simp)
  · have hf := (if_pos c3).symm.trans hf
    refine bf_iconst (v := -1) dX11_item_7 (by decide) ?_
    obtain rfl := Option.some.inj hf
    exact bf_iret dX11_item_8 rfl (Nat.le_refl _) (Nat.le_refl _) ⟨rfl, rfl⟩
def f_X11_peek (o : Nat) (a0 : Int32) (a1 : Int32) (I : Nat → Nat → Int32) (L : Nat → Nat → Int64) : Option (Int64 × bf_St) :=
  ((f_X11_isTape a0 I L).bind (fun r2 => (if r2.1 = 0 then (some ((-9223372036854775808 : Int64), r2.2.1, r2.2.2)) else (if bf_ok a0 6 then ((f_X8_holds ((o + 143) + 1 + 2 * a0.toNatClampNeg) a1 r2.2.1 r2.2.2).bind (fun r6 => (if r6.1 = 0 then (some ((-9223372036854775808 : Int64), r6.2.1, r6.2.2)) else (if bf_ok a0 6 then ((f_X8_itemAt ((o + 143) + 1 + 2 * a0.toNatClampNeg) a1 r6.2.1 r6.2.2).bind (fun r10 => (some (r10.1, r10.2.1, r10.2.2)))) else none)))) else none))))
set_option maxRecDepth 100000 in
set_option maxHeartbeats 4000000 in
theorem ok_X11_peek {Γ : bf_Gm} {ad : Nat → Nat} {o : Nat} {a0 : Int32} {a1 : Int32} {I : Nat → Nat → Int32} {L : Nat → Nat → Int64} (hk : bf_kd o = 11) {r : Int64 × bf_St} (hf : f_X11_peek o a0 a1 I L = some r) : bf_Cn Γ 2 mu_X11_peek 0 0 [.ref (ad o), .int a0, .int a1] (bf_S ad I L) (fun q h => q = some (.long r.1) ∧ h = bf_S ad r.2.1 r.2.2) := by
  refine bf_met rfl (Nat.le_of_ble_eq_true rfl) ?_
  unfold f_X11_peek at hf
  refine bf_iload_n 1 dX11_peek_0 rfl rfl ?_
  obtain ⟨r2, e1, hf⟩ := bf_bind hf
  have hCe1 := ok_X11_isTape (Γ := Γ) (ad := ad)  e1
  refine cv_X11_321 0 dX11_peek_1 rfl ⟨Nat.le_of_ble_eq_true rfl, Nat.le_of_ble_eq_true rfl⟩ (Nat.le_of_ble_eq_true rfl) hCe1 ?_
  refine bf_if_eq 20 dX11_peek_4 (by decide) (fun c3 => ?_) (fun c3 => ?_)
  · have hf := (if_pos c3).symm.trans hf
    refine bf_ldc2 dX11_peek_20 wk_X11_205 ?_
    obtain rfl := Option.some.inj hf
    exact bf_lret dX11_peek_23 rfl (Nat.le_refl _) (Nat.le_refl _) ⟨rfl, rfl⟩
  · have hf := (if_neg c3).symm.trans hf
    refine bf_aload_n 0 dX11_peek_7 rfl rfl ?_
    refine fg_X11_55 dX11_peek_8 rfl hk ?_
    refine bf_iload_n 1 dX11_peek_11 rfl rfl ?_
    rcases Decidable.em (bf_ok a0 6) with c4 | c4
    · have hf := (if_pos c4).symm.trans hf
      refine al_18 dX11_peek_12 (kr_11_7 hk) (by rw [(la_18 (kr_11_7 hk))]; exact c4) ?_
      refine bf_iload_n 2 dX11_peek_13 rfl rfl ?_
      obtain ⟨r6, e5, hf⟩ := bf_bind hf
      have hCe5 := ok_X8_holds (Γ := Γ) (ad := ad) (ka_18 (kr_11_7 hk) ((by rw [(la_18 (kr_11_7 hk))]; exact c4) : bf_ok _ _).2) e5
      refine cv_X11_347 0 dX11_peek_14 rfl ⟨Nat.le_of_ble_eq_true rfl, Nat.le_of_ble_eq_true rfl⟩ (Nat.le_of_ble_eq_true rfl) (ka_18 (kr_11_7 hk) ((by rw [(la_18 (kr_11_7 hk))]; exact c4) : bf_ok _ _).2) hCe5 ?_
      refine bf_if_ne 24 dX11_peek_17 (by decide) (fun c7 => ?_) (fun c7 => ?_)
      · have hf := (if_neg c7).symm.trans hf
        refine bf_aload_n 0 dX11_peek_24 rfl rfl ?_
        refine fg_X11_55 dX11_peek_25 rfl hk ?_
        refine bf_iload_n 1 dX11_peek_28 rfl rfl ?_
        rcases Decidable.em (bf_ok a0 6) with c8 | c8
        · have hf := (if_pos c8).symm.trans hf
          refine al_18 dX11_peek_29 (kr_11_7 hk) (by rw [(la_18 (kr_11_7 hk))]; exact c8) ?_
          refine bf_iload_n 2 dX11_peek_30 rfl rfl ?_
          obtain ⟨r10, e9, hf⟩ := bf_bind hf
          have hCe9 := ok_X8_itemAt (Γ := Γ) (ad := ad) (ka_18 (kr_11_7 hk) ((by rw [(la_18 (kr_11_7 hk))]; exact c8) : bf_ok _ _).2) e9
          refine cv_X11_328 1 dX11_peek_31 rfl ⟨Nat.le_of_ble_eq_true rfl, Nat.le_of_ble_eq_true rfl⟩ (Nat.le_of_ble_eq_true rfl) (ka_18 (kr_11_7 hk) ((by rw [(la_18 (kr_11_7 hk))]; exact c8) : bf_ok _ _).2) hCe9 ?_
          obtain rfl := Option.some.inj hf
          exact bf_lret dX11_peek_34 rfl (Nat.le_refl _) (Nat.le_refl _) ⟨rfl, rfl⟩
        · exact absurd ((if_neg c8).symm.trans hf) (by simp)
      · have hf := (if_pos c7).symm.trans hf
        refine bf_ldc2 dX11_peek_20 wk_X11_205 ?_
        obtain rfl := Option.some.inj hf
        exact bf_lret dX11_peek_23 rfl (Nat.le_refl _) (Nat.le_refl _) ⟨rfl, rfl⟩
    · exact absurd ((if_neg c4).symm.trans hf) (by simp)
def f_X11_shift (o : Nat) (a0 : Int32) (a1 : Int32) (a2 : Int32) (a3 : Int32) (a4 : Int32) (I : Nat → Nat → Int32) (L : Nat → Nat → Int64) : Option (Int32 × bf_St) :=
  ((f_X11_isTape a0 I L).bind (fun r2 => (if r2.1 = 0 then (some ((-1 : Int32), r2.2.1, r2.2.2)) else ((f_X11_isTape a2 r2.2.1 r2.2.2).bind (fun r5 => (if r5.1 = 0 then (some ((-1 : Int32), r5.2.1, r5.2.2)) else (if bf_ok a0 6 then (if bf_ok a2 6 then (if (r5.2.1 ((o + 143) + 1 + 2 * a0.toNatClampNeg) 0) = (-1 : Int32) then (some ((-11 : Int32), r5.2.1, r5.2.2)) else (if (r5.2.1 ((o + 143) + 1 + 2 * a2.toNatClampNeg) 0) = (-1 : Int32) then (some ((-11 : Int32), r5.2.1, r5.2.2)) else (if (r5.2.1 ((o + 143) + 1 + 2 * a0.toNatClampNeg) 0) = (r5.2.1 ((o + 143) + 1 + 2 * a2.toNatClampNeg) 0) then ((f_X8_holdsRun ((o + 143) + 1 + 2 * a0.toNatClampNeg) a1 a4 r5.2.1 r5.2.2).bind (fun r13 => (if r13.1 = 0 then (some ((-13 : Int32), r13.2.1, r13.2.2)) else ((f_X8_holdsRun ((o + 143) + 1 + 2 * a2.toNatClampNeg) a3 a4 r13.2.1 r13.2.2).bind (fun r16 => (if r16.1 = 0 then (some ((-13 : Int32), r16.2.1, r16.2.2)) else (if bf_cpOK a1 a3 a4 (((o + 143) + 1 + 2 * a0.toNatClampNeg) + 1) (((o + 143) + 1 + 2 * a2.toNatClampNeg) + 1) then (some (a4, r16.2.1, (bf_w r16.2.2 (((o + 143) + 1 + 2 * a2.toNatClampNeg) + 1) (va_cpy (r16.2.2 (((o + 143) + 1 + 2 * a0.toNatClampNeg) + 1)) (r16.2.2 (((o + 143) + 1 + 2 * a2.toNatClampNeg) + 1)) a1.toNatClampNeg a3.toNatClampNeg a4.toNatClampNeg)))) else none))))))) else (some ((-12 : Int32), r5.2.1, r5.2.2))))) else none) else none)))))))
set_option maxRecDepth 100000 in
set_option maxHeartbeats 4000000 in
theorem ok_X11_shift {Γ : bf_Gm} {ad : Nat → Nat} {o : Nat} {a0 : Int32} {a1 : Int32} {a2 : Int32} {a3 : Int32} {a4 : Int32} {I : Nat → Nat → Int32} {L : Nat → Nat → Int64} (hk : bf_kd o = 11) {r : Int32 × bf_St} (hf : f_X11_shift o a0 a1 a2 a3 a4 I L = some r) : bf_Cn Γ 1 mu_X11_shift 0 0 [.ref (ad o), .int a0, .int a1, .int a2, .int a3, .int a4] (bf_S ad I L) (fun q h => q = some (.int r.1) ∧ h = bf_S ad r.2.1 r.2.2) := by
  refine bf_met rfl (Nat.le_of_ble_eq_true rfl) ?_
  unfold f_X11_shift at hf
  refine bf_iload_n 1 dX11_shift_0 rfl rfl ?_
  obtain ⟨r2, e1, hf⟩ := bf_bind hf
  have hCe1 := ok_X11_isTape (Γ := Γ) (ad := ad)  e1
  refine cv_X11_321 0 dX11_shift_1 rfl ⟨Nat.le_of_ble_eq_true rfl, Nat.le_of_ble_eq_true rfl⟩ (Nat.le_of_ble_eq_true rfl) hCe1 ?_
  refine bf_if_eq 14 dX11_shift_4 (by decide) (fun c3 => ?_) (fun c3 => ?_)
  · have hf := (if_pos c3).symm.trans hf
    refine bf_iconst (v := -1) dX11_shift_14 (by decide) ?_
    obtain rfl := Option.some.inj hf
    exact bf_iret dX11_shift_15 rfl (Nat.le_refl _) (Nat.le_refl _) ⟨rfl, rfl⟩
  · have hf := (if_neg c3).symm.trans hf
    refine bf_iload_n 3 dX11_shift_7 rfl rfl ?_
    obtain ⟨r5, e4, hf⟩ := bf_bind hf
    have hCe4 := ok_X11_isTape (Γ := Γ) (ad := ad)  e4
    refine cv_X11_321 0 dX11_shift_8 rfl ⟨Nat.le_of_ble_eq_true rfl, Nat.le_of_ble_eq_true rfl⟩ (Nat.le_of_ble_eq_true rfl) hCe4 ?_
    refine bf_if_ne 16 dX11_shift_11 (by decide) (fun c6 => ?_) (fun c6 => ?_)
    · have hf := (if_neg c6).symm.trans hf
      refine bf_aload_n 0 dX11_shift_16 rfl rfl ?_
      refine fg_X11_55 dX11_shift_17 rfl hk ?_
      refine bf_iload_n 1 dX11_shift_20 rfl rfl ?_
      rcases Decidable.em (bf_ok a0 6) with c7 | c7
      · have hf := (if_pos c7).symm.trans hf
        refine al_18 dX11_shift_21 (kr_11_7 hk) (by rw [(la_18 (kr_11_7 hk))]; exact c7) ?_
        refine bf_astore (lv2 := [(6, .ref _), (0, .ref _), (1, .int _), (2, .int _), (3, .int _), (4, .int _), (5, .int _)]) dX11_shift_22 (by decide) rfl ?_
        refine bf_aload_n 1 dX11_shift_24 rfl rfl ?_
        refine fg_X11_55 dX11_shift_25 rfl hk ?_
        refine bf_iload_n 4 dX11_shift_28 rfl rfl ?_
        rcases Decidable.em (bf_ok a2 6) with c8 | c8
        · have hf := (if_pos c8).symm.trans hf
          refine al_18 dX11_shift_29 (kr_11_7 hk) (by rw [(la_18 (kr_11_7 hk))]; exact c8) ?_
          refine bf_astore (lv2 := [(7, .ref _), (6, .ref _), (0, .ref _), (1, .int _), (2, .int _), (3, .int _), (4, .int _), (5, .int _)]) dX11_shift_30 (by decide) rfl ?_
          refine bf_aload 1 dX11_shift_32 rfl ?_
          refine fg_X11_324 dX11_shift_34 rfl (ka_18 (kr_11_7 hk) ((by rw [(la_18 (kr_11_7 hk))]; exact c7) : bf_ok _ _).2) ?_
          refine bf_iconst (v := -1) dX11_shift_37 (by decide) ?_
          refine bf_icmp_eq 50 dX11_shift_38 (by decide) (fun c9 => ?_) (fun c9 => ?_)
          · have hf := (if_pos c9).symm.trans hf
            refine bf_bipush (v := -11) dX11_shift_50 (by decide) ?_
            obtain rfl := Option.some.inj hf
            exact bf_iret dX11_shift_52 rfl (Nat.le_refl _) (Nat.le_refl _) ⟨rfl, rfl⟩
          · have hf := (if_neg c9).symm.trans hf
            refine bf_aload 0 dX11_shift_41 rfl ?_
            refine fg_X11_324 dX11_shift_43 rfl (ka_18 (kr_11_7 hk) ((by rw [(la_18 (kr_11_7 hk))]; exact c8) : bf_ok _ _).2) ?_
            refine bf_iconst (v := -1) dX11_shift_46 (by decide) ?_
            refine bf_icmp_ne 53 dX11_shift_47 (by decide) (fun c10 => ?_) (fun c10 => ?_)
            · have hf := (if_neg c10).symm.trans hf
              refine bf_aload 1 dX11_shift_53 rfl ?_
              refine fg_X11_324 dX11_shift_55 rfl (ka_18 (kr_11_7 hk) ((by rw [(la_18 (kr_11_7 hk))]; exact c7) : bf_ok _ _).2) ?_
              refine bf_aload 0 dX11_shift_58 rfl ?_
              refine fg_X11_324 dX11_shift_60 rfl (ka_18 (kr_11_7 hk) ((by rw [(la_18 (kr_11_7 hk))]; exact c8) : bf_ok _ _).2) ?_
              refine bf_icmp_eq 69 dX11_shift_63 (by decide) (fun c11 => ?_) (fun c11 => ?_)
              · have hf := (if_pos c11).symm.trans hf
                refine bf_aload 1 dX11_shift_69 rfl ?_
                refine bf_iload_n 4 dX11_shift_71 rfl rfl ?_
                refine bf_iload 7 dX11_shift_72 rfl ?_
                obtain ⟨r13, e12, hf⟩ := bf_bind hf
                have hCe12 := ok_X8_holdsRun (Γ := Γ) (ad := ad) (ka_18 (kr_11_7 hk) ((by rw [(la_18 (kr_11_7 hk))]; exact c7) : bf_ok _ _).2) e12
                refine cv_X11_352 0 dX11_shift_74 rfl ⟨Nat.le_of_ble_eq_true rfl, Nat.le_of_ble_eq_true rfl⟩ (Nat.le_of_ble_eq_true rfl) (ka_18 (kr_11_7 hk) ((by rw [(la_18 (kr_11_7 hk))]; exact c7) : bf_ok _ _).2) hCe12 ?_
                refine bf_if_eq 92 dX11_shift_77 (by decide) (fun c14 => ?_) (fun c14 => ?_)
                · have hf := (if_pos c14).symm.trans hf
                  refine bf_bipush (v := -13) dX11_shift_92 (by decide) ?_
                  obtain rfl := Option.some.inj hf
                  exact bf_iret dX11_shift_94 rfl (Nat.le_refl _) (Nat.le_refl _) ⟨rfl, rfl⟩
                · have hf := (if_neg c14).symm.trans hf
                  refine bf_aload 0 dX11_shift_80 rfl ?_
                  refine bf_iload 6 dX11_shift_82 rfl ?_
                  refine bf_iload 7 dX11_shift_84 rfl ?_
                  obtain ⟨r16, e15, hf⟩ := bf_bind hf
                  have hCe15 := ok_X8_holdsRun (Γ := Γ) (ad := ad) (ka_18 (kr_11_7 hk) ((by rw [(la_18 (kr_11_7 hk))]; exact c8) : bf_ok _ _).2) e15
                  refine cv_X11_352 0 dX11_shift_86 rfl ⟨Nat.le_of_ble_eq_true rfl, Nat.le_of_ble_eq_true rfl⟩ (Nat.le_of_ble_eq_true rfl) (ka_18 (kr_11_7 hk) ((by rw [(la_18 (kr_11_7 hk))]; exact c8) : bf_ok _ _).2) hCe15 ?_
                  refine bf_if_ne 95 dX11_shift_89 (by decide) (fun c17 => ?_) (fun c17 => ?_)
                  · have hf := (if_neg c17).symm.trans hf
                    refine bf_aload 1 dX11_shift_95 rfl ?_
                    refine fg_X11_355 dX11_shift_97 rfl (ka_18 (kr_11_7 hk) ((by rw [(la_18 (kr_11_7 hk))]; exact c7) : bf_ok _ _).2) ?_
                    refine bf_iload_n 4 dX11_shift_100 rfl rfl ?_
                    refine bf_aload 0 dX11_shift_101 rfl ?_
                    refine fg_X11_355 dX11_shift_103 rfl (ka_18 (kr_11_7 hk) ((by rw [(la_18 (kr_11_7 hk))]; exact c8) : bf_ok _ _).2) ?_
                    refine bf_iload 6 dX11_shift_106 rfl ?_
                    refine bf_iload 7 dX11_shift_108 rfl ?_
                    rcases Decidable.em (bf_cpOK a1 a3 a4 (((o + 143) + 1 + 2 * a0.toNatClampNeg) + 1) (((o + 143) + 1 + 2 * a2.toNatClampNeg) + 1)) with c18 | c18
                    · have hf := (if_pos c18).symm.trans hf
                      refine bf_copyl dX11_shift_110 wl_X11_359 wn_Jcopy wt_Jcopy wi_J10 (kr_8_2 (ka_18 (kr_11_7 hk) ((by rw [(la_18 (kr_11_7 hk))]; exact c7) : bf_ok _ _).2)) (kr_8_2 (ka_18 (kr_11_7 hk) ((by rw [(la_18 (kr_11_7 hk))]; exact c8) : bf_ok _ _).2)) c18 (Nat.le_of_ble_eq_true rfl) (Nat.le_of_ble_eq_true rfl) ?_
                      refine bf_iload 7 dX11_shift_113 rfl ?_
                      obtain rfl := Option.some.inj hf
                      exact bf_iret dX11_shift_115 rfl (Nat.le_refl _) (Nat.le_refl _) ⟨rfl, rfl⟩
                    · exact absurd ((if_neg c18).symm.trans hf) (by simp)
                  · have hf := (if_pos c17).symm.trans hf
                    refine bf_bipush (v := -13) dX11_shift_92 (by decide) ?_
                    obtain rfl := Option.some.inj hf
                    exact bf_iret dX11_shift_94 rfl (Nat.le_refl _) (Nat.le_refl _) ⟨rfl, rfl⟩
              · have hf := (if_neg c11).symm.trans hf
                refine bf_bipush (v := -12) dX11_shift_66 (by decide) ?_
                obtain rfl := Option.some.inj hf
                exact bf_iret dX11_shift_68 rfl (Nat.le_refl _) (Nat.le_refl _) ⟨rfl, rfl⟩
            · have hf := (if_pos c10).symm.trans hf
              refine bf_bipush (v := -11) dX11_shift_50 (by decide) ?_
              obtain rfl := Option.some.inj hf
              exact bf_iret dX11_shift_52 rfl (Nat.le_refl _) (Nat.le_refl _) ⟨rfl, rfl⟩
        · exact absurd ((if_neg c8).symm.trans hf) (by simp)
      · exact absurd ((if_neg c7).symm.trans hf) (by simp)
    · have hf := (if_pos c6).symm.trans hf
      refine bf_iconst (v := -1) dX11_shift_14 (by decide) ?_
      obtain rfl := Option.some.inj hf
      exact bf_iret dX11_shift_15 rfl (Nat.le_refl _) (Nat.le_refl _) ⟨rfl, rfl⟩
def f_X12_in (a0 : Int64) (a1 : Int64) (a2 : Int64) (I : Nat → Nat → Int32) (L : Nat → Nat → Int64) : Option (Int32 × bf_St) :=
  (if (lg_cmp a0 a1) < 0 then (some ((0 : Int32), I, L)) else (if 0 < (lg_cmp a0 a2) then (some ((0 : Int32), I, L)) else (some ((1 : Int32), I, L))))
set_option maxRecDepth 100000 in
set_option maxHeartbeats 4000000 in
theorem ok_X12_in {Γ : bf_Gm} {ad : Nat → Nat} {a0 : Int64} {a1 : Int64} {a2 : Int64} {I : Nat → Nat → Int32} {L : Nat → Nat → Int64} {r : Int32 × bf_St} (hf : f_X12_in a0 a1 a2 I L = some r) : bf_Cn Γ 0 mu_X12_in 0 0 [.long a0, .long a1, .long a2] (bf_S ad I L) (fun q h => q = some (.int r.1) ∧ h = bf_S ad r.2.1 r.2.2) := by
  refine bf_met rfl (Nat.le_of_ble_eq_true rfl) ?_
  unfold f_X12_in at hf
  refine bf_lload_n 0 dX12_in_0 rfl rfl ?_
  refine bf_lload_n 1 dX12_in_1 rfl rfl ?_
  refine bf_lcmp dX12_in_2 ?_
  refine bf_if_lt 17 dX12_in_3 (by decide) (fun c1 => ?_) (fun c1 => ?_)
  · have hf := (if_pos c1).symm.trans hf
    refine bf_iconst (v := 0) dX12_in_17 (by decide) ?_
    obtain rfl := Option.some.inj hf
    exact bf_zret dX12_in_18 rfl rfl (Nat.le_refl _) (Nat.le_refl _) ⟨rfl, rfl⟩
  · have hf := (if_neg c1).symm.trans hf
    refine bf_lload_n 0 dX12_in_6 rfl rfl ?_
    refine bf_lload 2 dX12_in_7 rfl ?_
    refine bf_lcmp dX12_in_9 ?_
    refine bf_if_gt 17 dX12_in_10 (by decide) (fun c2 => ?_) (fun c2 => ?_)
    · have hf := (if_pos c2).symm.trans hf
      refine bf_iconst (v := 0) dX12_in_17 (by decide) ?_
      obtain rfl := Option.some.inj hf
      exact bf_zret dX12_in_18 rfl rfl (Nat.le_refl _) (Nat.le_refl _) ⟨rfl, rfl⟩
    · have hf := (if_neg c2).symm.trans hf
      refine bf_iconst (v := 1) dX12_in_13 (by decide) ?_
      refine bf_goto 18 dX12_in_14 (by decide) ?_
      obtain rfl := Option.some.inj hf
      exact bf_zret dX12_in_18 rfl rfl (Nat.le_refl _) (Nat.le_refl _) ⟨rfl, rfl⟩
def f_X12_copies_2 (v0 : Nat) (v1 : Nat) (K : (Nat → Nat → Int32) → (Nat → Nat → Int64) → Option (bf_St)) : Nat → Int32 → (Nat → Nat → Int32) → (Nat → Nat → Int64) → Option (bf_St)
  | 0, _, _, _ => none
  | n + 1, v2, I, L =>
    (if (914 : Int32) ≤ v2 then (K I L) else (if bf_ok v2 (bf_le v0) then (if bf_ok v2 (bf_le v1) then (f_X12_copies_2 v0 v1 K n (v2 + (1 : Int32)) (bf_u I v1 v2.toNatClampNeg (I v0 v2.toNatClampNeg)) L) else none) else none))
set_option maxRecDepth 100000 in
set_option maxHeartbeats 4000000 in
theorem ok_X12_copies_2 {Γ : bf_Gm} {ad : Nat → Nat} {v0 : Nat} {v1 : Nat} (hv0 : bf_kd v0 = 14) (hv1 : bf_kd v1 = 14) {r : bf_St} {K : (Nat → Nat → Int32) → (Nat → Nat → Int64) → Option (bf_St)} (hK : ∀ (I : Nat → Nat → Int32) (L : Nat → Nat → Int64), K  I L = some r → bf_Go Γ (bf_rm 0 0 0) mu_X12_copies bf_E0 (bf_Z Γ (fun q h => q = none ∧ h = bf_S ad r.1 r.2) 0 0) (0, 0) 21 [] [] (bf_S ad I L)) : ∀ (n : Nat) (v2 : Int32) (I : Nat → Nat → Int32) (L : Nat → Nat → Int64), f_X12_copies_2 v0 v1 K n v2 I L = some r → bf_Go Γ (bf_rm 0 0 0) mu_X12_copies bf_E0 (bf_Z Γ (fun q h => q = none ∧ h = bf_S ad r.1 r.2) 0 0) (0, 0) 2 [(0, .ref (ad v0)), (1, .ref (ad v1)), (2, .int v2)] [] (bf_S ad I L) := by
  intro n
  induction n with
  | zero => intro v2 I L hf; exact absurd (show none = some r from hf) (by simp)
  | succ n ih =>
    intro v2 I L hf
    rw [f_X12_copies_2] at hf
    refine bf_iload_n 2 dX12_copies_2 rfl rfl ?_
    refine bf_sipush (v := 914) dX12_copies_3 (by decide) ?_
    refine bf_icmp_ge 21 dX12_copies_6 (by decide) (fun c1 => ?_) (fun c1 => ?_)
    · have hf := (if_pos c1).symm.trans hf
      refine bf_perm [] rfl ?_
      exact hK _ _ hf
    · have hf := (if_neg c1).symm.trans hf
      refine bf_aload_n 1 dX12_copies_9 rfl rfl ?_
      refine bf_iload_n 2 dX12_copies_10 rfl rfl ?_
      refine bf_aload_n 0 dX12_copies_11 rfl rfl ?_
      refine bf_iload_n 2 dX12_copies_12 rfl rfl ?_
      rcases Decidable.em (bf_ok v2 (bf_le v0)) with c2 | c2
      · have hf := (if_pos c2).symm.trans hf
        refine bf_iald dX12_copies_13 hv0 c2 ?_
        rcases Decidable.em (bf_ok v2 (bf_le v1)) with c3 | c3
        · have hf := (if_pos c3).symm.trans hf
          refine bf_iast dX12_copies_14 hv1 c3 ?_
          refine bf_iinc 2 (v := _ + (1 : Int32)) (lv2 := [(2, .int _), (0, .ref _), (1, .ref _)]) dX12_copies_15 rfl (by rfl) (by decide) rfl ?_
          refine bf_goto 2 dX12_copies_18 (by decide) ?_
          refine bf_perm [1, 2, 0] rfl ?_
          exact ih _ _ _ hf
        · exact absurd ((if_neg c3).symm.trans hf) (by simp)
      · exact absurd ((if_neg c2).symm.trans hf) (by simp)
def f_X12_copies (a0 : Nat) (a1 : Nat) (I : Nat → Nat → Int32) (L : Nat → Nat → Int64) : Option (bf_St) :=
  (f_X12_copies_2 a0 a1 (fun I4 L4 => (some (I4, L4))) 1000 (0 : Int32) I L)
set_option maxRecDepth 100000 in
set_option maxHeartbeats 4000000 in
theorem ok_X12_copies {Γ : bf_Gm} {ad : Nat → Nat} {a0 : Nat} {a1 : Nat} {I : Nat → Nat → Int32} {L : Nat → Nat → Int64} (hk0 : bf_kd a0 = 14) (hk1 : bf_kd a1 = 14) {r : bf_St} (hf : f_X12_copies a0 a1 I L = some r) : bf_Cn Γ 0 mu_X12_copies 0 0 [.ref (ad a0), .ref (ad a1)] (bf_S ad I L) (fun q h => q = none ∧ h = bf_S ad r.1 r.2) := by
  refine bf_met rfl (Nat.le_of_ble_eq_true rfl) ?_
  unfold f_X12_copies at hf
  refine bf_iconst (v := 0) dX12_copies_0 (by decide) ?_
  refine bf_istore_n (lv2 := [(2, .int _), (0, .ref _), (1, .ref _)]) dX12_copies_1 rfl (by decide) rfl ?_
  refine bf_perm [1, 2, 0] rfl ?_
  refine ok_X12_copies_2 hk0 hk1 (fun I4 L4 hf => ?_) _ _ _ _  hf
  obtain rfl := Option.some.inj hf
  exact bf_vret dX12_copies_21 rfl (Nat.le_refl _) (Nat.le_refl _) ⟨rfl, rfl⟩
def f_X12_isBox (o : Nat) (a0 : Int32) (I : Nat → Nat → Int32) (L : Nat → Nat → Int64) : Option (Int32 × bf_St) :=
  ((f_X12_in (a0).toInt64 (0 : Int64) (((I (o + 1) (0 : Int32).toNatClampNeg) - (1 : Int32))).toInt64 I L).bind (fun r2 => (if r2.1 = 0 ∨ r2.1 = 1 then some (r2.1, r2.2.1, r2.2.2) else none)))
set_option maxRecDepth 100000 in
set_option maxHeartbeats 4000000 in
theorem ok_X12_isBox {Γ : bf_Gm} {ad : Nat → Nat} {o : Nat} {a0 : Int32} {I : Nat → Nat → Int32} {L : Nat → Nat → Int64} (hk : bf_kd o = 12) {r : Int32 × bf_St} (hf : f_X12_isBox o a0 I L = some r) : bf_Cn Γ 1 mu_X12_isBox 0 0 [.ref (ad o), .int a0] (bf_S ad I L) (fun q h => q = some (.int r.1) ∧ h = bf_S ad r.2.1 r.2.2) := by
  refine bf_met rfl (Nat.le_of_ble_eq_true rfl) ?_
  unfold f_X12_isBox at hf
  refine bf_iload_n 1 dX12_isBox_0 rfl rfl ?_
  refine bf_i2l dX12_isBox_1 ?_
  refine bf_lconst (v := 0) dX12_isBox_2 (by decide) ?_
  refine bf_aload_n 0 dX12_isBox_3 rfl rfl ?_
  refine fg_X12_11 dX12_isBox_4 rfl hk ?_
  refine bf_iconst (v := 0) dX12_isBox_7 (by decide) ?_
  refine bf_iald dX12_isBox_8 (kr_12_0 hk) (by rw [(kl_12_0 hk)]; decide) ?_
  refine bf_iconst (v := 1) dX12_isBox_9 (by decide) ?_
  refine bf_isub dX12_isBox_10 ?_
  refine bf_i2l dX12_isBox_11 ?_
  obtain ⟨r2, e1, hf⟩ := bf_bind hf
  have hCe1 := ok_X12_in (Γ := Γ) (ad := ad)  e1
  refine cv_X12_61 0 dX12_isBox_12 rfl ⟨Nat.le_of_ble_eq_true rfl, Nat.le_of_ble_eq_true rfl⟩ (Nat.le_of_ble_eq_true rfl) hCe1 ?_
  rcases Decidable.em (r2.1 = 0 ∨ r2.1 = 1) with c3 | c3
  · have hf := (if_pos c3).symm.trans hf
    obtain rfl := Option.some.inj hf
    exact bf_zret dX12_isBox_15 rfl (by rcases c3 with q | q <;> rw [q] <;> rfl) (Nat.le_refl _) (Nat.le_refl _) ⟨rfl, rfl⟩
  · exact absurd ((if_neg c3).symm.trans hf) (by simp)
def f_X12_from (o : Nat) (a0 : Int32) (I : Nat → Nat → Int32) (L : Nat → Nat → Int64) : Option (Int32 × bf_St) :=
  (if bf_ok ((74 : Int32) + ((105 : Int32) * a0)) 914 then (some ((I (o + 1) ((74 : Int32) + ((105 : Int32) * a0)).toNatClampNeg), I, L)) else none)
set_option maxRecDepth 100000 in
set_option maxHeartbeats 4000000 in
theorem ok_X12_from {Γ : bf_Gm} {ad : Nat → Nat} {o : Nat} {a0 : Int32} {I : Nat → Nat → Int32} {L : Nat → Nat → Int64} (hk : bf_kd o = 12) {r : Int32 × bf_St} (hf : f_X12_from o a0 I L = some r) : bf_Cn Γ 0 mu_X12_from 0 0 [.ref (ad o), .int a0] (bf_S ad I L) (fun q h => q = some (.int r.1) ∧ h = bf_S ad r.2.1 r.2.2) := by
  refine bf_met rfl (Nat.le_of_ble_eq_true rfl) ?_
  unfold f_X12_from at hf
  refine bf_aload_n 0 dX12_from_0 rfl rfl ?_
  refine fg_X12_11 dX12_from_1 rfl hk ?_
  refine bf_bipush (v := 74) dX12_from_4 (by decide) ?_
  refine bf_bipush (v := 105) dX12_from_6 (by decide) ?_
  refine bf_iload_n 1 dX12_from_8 rfl rfl ?_
  refine bf_imul dX12_from_9 ?_
  refine bf_iadd dX12_from_10 ?_
  rcases Decidable.em (bf_ok ((74 : Int32) + ((105 : Int32) * a0)) 914) with c1 | c1
  · have hf := (if_pos c1).symm.trans hf
    refine bf_iald dX12_from_11 (kr_12_0 hk) (by rw [(kl_12_0 hk)]; exact c1) ?_
    obtain rfl := Option.some.inj hf
    exact bf_iret dX12_from_12 rfl (Nat.le_refl _) (Nat.le_refl _) ⟨rfl, rfl⟩
  · exact absurd ((if_neg c1).symm.trans hf) (by simp)
def f_X12_to (o : Nat) (a0 : Int32) (I : Nat → Nat → Int32) (L : Nat → Nat → Int64) : Option (Int32 × bf_St) :=
  (if bf_ok (((74 : Int32) + ((105 : Int32) * a0)) + (1 : Int32)) 914 then (some ((I (o + 1) (((74 : Int32) + ((105 : Int32) * a0)) + (1 : Int32)).toNatClampNeg), I, L)) else none)
set_option maxRecDepth 100000 in
set_option maxHeartbeats 4000000 in
theorem ok_X12_to {Γ : bf_Gm} {ad : Nat → Nat} {o : Nat} {a0 : Int32} {I : Nat → Nat → Int32} {L : Nat → Nat → Int64} (hk : bf_kd o = 12) {r : Int32 × bf_St} (hf : f_X12_to o a0 I L = some r) : bf_Cn Γ 0 mu_X12_to 0 0 [.ref (ad o), .int a0] (bf_S ad I L) (fun q h => q = some (.int r.1) ∧ h = bf_S ad r.2.1 r.2.2) := by
  refine bf_met rfl (Nat.le_of_ble_eq_true rfl) ?_
  unfold f_X12_to at hf
  refine bf_aload_n 0 dX12_to_0 rfl rfl ?_
  refine fg_X12_11 dX12_to_1 rfl hk ?_
  refine bf_bipush (v := 74) dX12_to_4 (by decide) ?_
  refine bf_bipush (v := 105) dX12_to_6 (by decide) ?_
  refine bf_iload_n 1 dX12_to_8 rfl rfl ?_
  refine bf_imul dX12_to_9 ?_
  refine bf_iadd dX12_to_10 ?_
  refine bf_iconst (v := 1) dX12_to_11 (by decide) ?_
  refine bf_iadd dX12_to_12 ?_
  rcases Decidable.em (bf_ok (((74 : Int32) + ((105 : Int32) * a0)) + (1 : Int32)) 914) with c1 | c1
  · have hf := (if_pos c1).symm.trans hf
    refine bf_iald dX12_to_13 (kr_12_0 hk) (by rw [(kl_12_0 hk)]; exact c1) ?_
    obtain rfl := Option.some.inj hf
    exact bf_iret dX12_to_14 rfl (Nat.le_refl _) (Nat.le_refl _) ⟨rfl, rfl⟩
  · exact absurd ((if_neg c1).symm.trans hf) (by simp)
def f_X12_puts (o : Nat) (a0 : Int32) (I : Nat → Nat → Int32) (L : Nat → Nat → Int64) : Option (Int32 × bf_St) :=
  (if bf_ok (((74 : Int32) + ((105 : Int32) * a0)) + (2 : Int32)) 914 then (some ((I (o + 1) (((74 : Int32) + ((105 : Int32) * a0)) + (2 : Int32)).toNatClampNeg), I, L)) else none)
set_option maxRecDepth 100000 in
set_option maxHeartbeats 4000000 in
theorem ok_X12_puts {Γ : bf_Gm} {ad : Nat → Nat} {o : Nat} {a0 : Int32} {I : Nat → Nat → Int32} {L : Nat → Nat → Int64} (hk : bf_kd o = 12) {r : Int32 × bf_St} (hf : f_X12_puts o a0 I L = some r) : bf_Cn Γ 0 mu_X12_puts 0 0 [.ref (ad o), .int a0] (bf_S ad I L) (fun q h => q = some (.int r.1) ∧ h = bf_S ad r.2.1 r.2.2) := by
  refine bf_met rfl (Nat.le_of_ble_eq_true rfl) ?_
  unfold f_X12_puts at hf
  refine bf_aload_n 0 dX12_puts_0 rfl rfl ?_
  refine fg_X12_11 dX12_puts_1 rfl hk ?_
  refine bf_bipush (v := 74) dX12_puts_4 (by decide) ?_
  refine bf_bipush (v := 105) dX12_puts_6 (by decide) ?_
  refine bf_iload_n 1 dX12_puts_8 rfl rfl ?_
  refine bf_imul dX12_puts_9 ?_
  refine bf_iadd dX12_puts_10 ?_
  refine bf_iconst (v := 2) dX12_puts_11 (by decide) ?_
  refine bf_iadd dX12_puts_12 ?_
  rcases Decidable.em (bf_ok (((74 : Int32) + ((105 : Int32) * a0)) + (2 : Int32)) 914) with c1 | c1
  · have hf := (if_pos c1).symm.trans hf
    refine bf_iald dX12_puts_13 (kr_12_0 hk) (by rw [(kl_12_0 hk)]; exact c1) ?_
    obtain rfl := Option.some.inj hf
    exact bf_iret dX12_puts_14 rfl (Nat.le_refl _) (Nat.le_refl _) ⟨rfl, rfl⟩
  · exact absurd ((if_neg c1).symm.trans hf) (by simp)
def f_X12_takes (o : Nat) (a0 : Int32) (I : Nat → Nat → Int32) (L : Nat → Nat → Int64) : Option (Int32 × bf_St) :=
  (if bf_ok (((74 : Int32) + ((105 : Int32) * a0)) + (3 : Int32)) 914 then (some ((I (o + 1) (((74 : Int32) + ((105 : Int32) * a0)) + (3 : Int32)).toNatClampNeg), I, L)) else none)
set_option maxRecDepth 100000 in
set_option maxHeartbeats 4000000 in
theorem ok_X12_takes {Γ : bf_Gm} {ad : Nat → Nat} {o : Nat} {a0 : Int32} {I : Nat → Nat → Int32} {L : Nat → Nat → Int64} (hk : bf_kd o = 12) {r : Int32 × bf_St} (hf : f_X12_takes o a0 I L = some r) : bf_Cn Γ 0 mu_X12_takes 0 0 [.ref (ad o), .int a0] (bf_S ad I L) (fun q h => q = some (.int r.1) ∧ h = bf_S ad r.2.1 r.2.2) := by
  refine bf_met rfl (Nat.le_of_ble_eq_true rfl) ?_
  unfold f_X12_takes at hf
  refine bf_aload_n 0 dX12_takes_0 rfl rfl ?_
  refine fg_X12_11 dX12_takes_1 rfl hk ?_
  refine bf_bipush (v := 74) dX12_takes_4 (by decide) ?_
  refine bf_bipush (v := 105) dX12_takes_6 (by decide) ?_
  refine bf_iload_n 1 dX12_takes_8 rfl rfl ?_
  refine bf_imul dX12_takes_9 ?_
  refine bf_iadd dX12_takes_10 ?_
  refine bf_iconst (v := 3) dX12_takes_11 (by decide) ?_
  refine bf_iadd dX12_takes_12 ?_
  rcases Decidable.em (bf_ok (((74 : Int32) + ((105 : Int32) * a0)) + (3 : Int32)) 914) with c1 | c1
  · have hf := (if_pos c1).symm.trans hf
    refine bf_iald dX12_takes_13 (kr_12_0 hk) (by rw [(kl_12_0 hk)]; exact c1) ?_
    obtain rfl := Option.some.inj hf
    exact bf_iret dX12_takes_14 rfl (Nat.le_refl _) (Nat.le_refl _) ⟨rfl, rfl⟩
  · exact absurd ((if_neg c1).symm.trans hf) (by simp)
def f_X12_tokens (o : Nat) (a0 : Int32) (I : Nat → Nat → Int32) (L : Nat → Nat → Int64) : Option (Int32 × bf_St) :=
  (if bf_ok (((74 : Int32) + ((105 : Int32) * a0)) + (5 : Int32)) 914 then (some ((I (o + 1) (((74 : Int32) + ((105 : Int32) * a0)) + (5 : Int32)).toNatClampNeg), I, L)) else none)
set_option maxRecDepth 100000 in
set_option maxHeartbeats 4000000 in
theorem ok_X12_tokens {Γ : bf_Gm} {ad : Nat → Nat} {o : Nat} {a0 : Int32} {I : Nat → Nat → Int32} {L : Nat → Nat → Int64} (hk : bf_kd o = 12) {r : Int32 × bf_St} (hf : f_X12_tokens o a0 I L = some r) : bf_Cn Γ 0 mu_X12_tokens 0 0 [.ref (ad o), .int a0] (bf_S ad I L) (fun q h => q = some (.int r.1) ∧ h = bf_S ad r.2.1 r.2.2) := by
  refine bf_met rfl (Nat.le_of_ble_eq_true rfl) ?_
  unfold f_X12_tokens at hf
  refine bf_aload_n 0 dX12_tokens_0 rfl rfl ?_
  refine fg_X12_11 dX12_tokens_1 rfl hk ?_
  refine bf_bipush (v := 74) dX12_tokens_4 (by decide) ?_
  refine bf_bipush (v := 105) dX12_tokens_6 (by decide) ?_
  refine bf_iload_n 1 dX12_tokens_8 rfl rfl ?_
  refine bf_imul dX12_tokens_9 ?_
  refine bf_iadd dX12_tokens_10 ?_
  refine bf_iconst (v := 5) dX12_tokens_11 (by decide) ?_
  refine bf_iadd dX12_tokens_12 ?_
  rcases Decidable.em (bf_ok (((74 : Int32) + ((105 : Int32) * a0)) + (5 : Int32)) 914) with c1 | c1
  · have hf := (if_pos c1).symm.trans hf
    refine bf_iald dX12_tokens_13 (kr_12_0 hk) (by rw [(kl_12_0 hk)]; exact c1) ?_
    obtain rfl := Option.some.inj hf
    exact bf_iret dX12_tokens_14 rfl (Nat.le_refl _) (Nat.le_refl _) ⟨rfl, rfl⟩
  · exact absurd ((if_neg c1).symm.trans hf) (by simp)
def f_X12_isWire (o : Nat) (a0 : Int32) (I : Nat → Nat → Int32) (L : Nat → Nat → Int64) : Option (Int32 × bf_St) :=
  ((f_X12_in (a0).toInt64 (0 : Int64) (((I (o + 1) (1 : Int32).toNatClampNeg) - (1 : Int32))).toInt64 I L).bind (fun r2 => (if r2.1 = 0 then (some ((0 : Int32), r2.2.1, r2.2.2)) else (if bf_ok (((74 : Int32) + ((105 : Int32) * a0)) + (4 : Int32)) 914 then (if (r2.2.1 (o + 1) (((74 : Int32) + ((105 : Int32) * a0)) + (4 : Int32)).toNatClampNeg) = 0 then (some ((1 : Int32), r2.2.1, r2.2.2)) else (some ((0 : Int32), r2.2.1, r2.2.2))) else none))))
set_option maxRecDepth 100000 in
set_option maxHeartbeats 4000000 in
theorem ok_X12_isWire {Γ : bf_Gm} {ad : Nat → Nat} {o : Nat} {a0 : Int32} {I : Nat → Nat → Int32} {L : Nat → Nat → Int64} (hk : bf_kd o = 12) {r : Int32 × bf_St} (hf : f_X12_isWire o a0 I L = some r) : bf_Cn Γ 1 mu_X12_isWire 0 0 [.ref (ad o), .int a0] (bf_S ad I L) (fun q h => q = some (.int r.1) ∧ h = bf_S ad r.2.1 r.2.2) := by
  refine bf_met rfl (Nat.le_of_ble_eq_true rfl) ?_
  unfold f_X12_isWire at hf
  refine bf_iload_n 1 dX12_isWire_0 rfl rfl ?_
  refine bf_i2l dX12_isWire_1 ?_
  refine bf_lconst (v := 0) dX12_isWire_2 (by decide) ?_
  refine bf_aload_n 0 dX12_isWire_3 rfl rfl ?_
  refine fg_X12_11 dX12_isWire_4 rfl hk ?_
  refine bf_iconst (v := 1) dX12_isWire_7 (by decide) ?_
  refine bf_iald dX12_isWire_8 (kr_12_0 hk) (by rw [(kl_12_0 hk)]; decide) ?_
  refine bf_iconst (v := 1) dX12_isWire_9 (by decide) ?_
  refine bf_isub dX12_isWire_10 ?_
  refine bf_i2l dX12_isWire_11 ?_
  obtain ⟨r2, e1, hf⟩ := bf_bind hf
  have hCe1 := ok_X12_in (Γ := Γ) (ad := ad)  e1
  refine cv_X12_61 0 dX12_isWire_12 rfl ⟨Nat.le_of_ble_eq_true rfl, Nat.le_of_ble_eq_true rfl⟩ (Nat.le_of_ble_eq_true rfl) hCe1 ?_
  refine bf_if_eq 39 dX12_isWire_15 (by decide) (fun c3 => ?_) (fun c3 => ?_)
  · have hf := (if_pos c3).symm.trans hf
    refine bf_iconst (v := 0) dX12_isWire_39 (by decide) ?_
    obtain rfl := Option.some.inj hf
    exact bf_zret dX12_isWire_40 rfl rfl (Nat.le_refl _) (Nat.le_refl _) ⟨rfl, rfl⟩
  · have hf := (if_neg c3).symm.trans hf
    refine bf_aload_n 0 dX12_isWire_18 rfl rfl ?_
    refine fg_X12_11 dX12_isWire_19 rfl hk ?_
    refine bf_bipush (v := 74) dX12_isWire_22 (by decide) ?_
    refine bf_bipush (v := 105) dX12_isWire_24 (by decide) ?_
    refine bf_iload_n 1 dX12_isWire_26 rfl rfl ?_
    refine bf_imul dX12_isWire_27 ?_
    refine bf_iadd dX12_isWire_28 ?_
    refine bf_iconst (v := 4) dX12_isWire_29 (by decide) ?_
    refine bf_iadd dX12_isWire_30 ?_
    rcases Decidable.em (bf_ok (((74 : Int32) + ((105 : Int32) * a0)) + (4 : Int32)) 914) with c4 | c4
    · have hf := (if_pos c4).symm.trans hf
      refine bf_iald dX12_isWire_31 (kr_12_0 hk) (by rw [(kl_12_0 hk)]; exact c4) ?_
      refine bf_if_ne 39 dX12_isWire_32 (by decide) (fun c5 => ?_) (fun c5 => ?_)
      · have hf := (if_neg c5).symm.trans hf
        refine bf_iconst (v := 0) dX12_isWire_39 (by decide) ?_
        obtain rfl := Option.some.inj hf
        exact bf_zret dX12_isWire_40 rfl rfl (Nat.le_refl _) (Nat.le_refl _) ⟨rfl, rfl⟩
      · have hf := (if_pos c5).symm.trans hf
        refine bf_iconst (v := 1) dX12_isWire_35 (by decide) ?_
        refine bf_goto 40 dX12_isWire_36 (by decide) ?_
        obtain rfl := Option.some.inj hf
        exact bf_zret dX12_isWire_40 rfl rfl (Nat.le_refl _) (Nat.le_refl _) ⟨rfl, rfl⟩
    · exact absurd ((if_neg c4).symm.trans hf) (by simp)
def f_X12_box (o : Nat) (a0 : Int32) (a1 : Int32) (I : Nat → Nat → Int32) (L : Nat → Nat → Int64) : Option (Int32 × bf_St) :=
  ((f_X12_in (a0).toInt64 (0 : Int64) (4 : Int64) I L).bind (fun r2 => (if r2.1 = 0 then (some ((-1 : Int32), r2.2.1, r2.2.2)) else ((f_X12_in (a1).toInt64 (0 : Int64) (9 : Int64) r2.2.1 r2.2.2).bind (fun r5 => (if r5.1 = 0 then (some ((-2 : Int32), r5.2.1, r5.2.2)) else (if (r5.2.1 (o + 1) (0 : Int32).toNatClampNeg) = (6 : Int32) then (some ((-4 : Int32), r5.2.1, r5.2.2)) else (if bf_ok ((5 : Int32) + ((3 : Int32) * (r5.2.1 (o + 1) (0 : Int32).toNatClampNeg))) 914 then (if bf_ok (((5 : Int32) + ((3 : Int32) * (r5.2.1 (o + 1) (0 : Int32).toNatClampNeg))) + (1 : Int32)) 914 then (if bf_ok (((5 : Int32) + ((3 : Int32) * (r5.2.1 (o + 1) (0 : Int32).toNatClampNeg))) + (2 : Int32)) 914 then (some ((r5.2.1 (o + 1) (0 : Int32).toNatClampNeg), (bf_u (bf_u (bf_u (bf_u r5.2.1 (o + 1) ((5 : Int32) + ((3 : Int32) * (r5.2.1 (o + 1) (0 : Int32).toNatClampNeg))).toNatClampNeg a0) (o + 1) (((5 : Int32) + ((3 : Int32) * (r5.2.1 (o + 1) (0 : Int32).toNatClampNeg))) + (1 : Int32)).toNatClampNeg a1) (o + 1) (((5 : Int32) + ((3 : Int32) * (r5.2.1 (o + 1) (0 : Int32).toNatClampNeg))) + (2 : Int32)).toNatClampNeg (0 : Int32)) (o + 1) (0 : Int32).toNatClampNeg ((r5.2.1 (o + 1) (0 : Int32).toNatClampNeg) + (1 : Int32))), r5.2.2)) else none) else none) else none))))))))
set_option maxRecDepth 100000 in
set_option maxHeartbeats 4000000 in
theorem ok_X12_box {Γ : bf_Gm} {ad : Nat → Nat} {o : Nat} {a0 : Int32} {a1 : Int32} {I : Nat → Nat → Int32} {L : Nat → Nat → Int64} (hk : bf_kd o = 12) {r : Int32 × bf_St} (hf : f_X12_box o a0 a1 I L = some r) : bf_Cn Γ 1 mu_X12_box 0 0 [.ref (ad o), .int a0, .int a1] (bf_S ad I L) (fun q h => q = some (.int r.1) ∧ h = bf_S ad r.2.1 r.2.2) := by
  refine bf_met rfl (Nat.le_of_ble_eq_true rfl) ?_
  unfold f_X12_box at hf
  refine bf_iload_n 1 dX12_box_0 rfl rfl ?_
  refine bf_i2l dX12_box_1 ?_
  refine bf_lconst (v := 0) dX12_box_2 (by decide) ?_
  refine bf_ldc2 dX12_box_3 wk_X12_65 ?_
  obtain ⟨r2, e1, hf⟩ := bf_bind hf
  have hCe1 := ok_X12_in (Γ := Γ) (ad := ad)  e1
  refine cv_X12_61 0 dX12_box_6 rfl ⟨Nat.le_of_ble_eq_true rfl, Nat.le_of_ble_eq_true rfl⟩ (Nat.le_of_ble_eq_true rfl) hCe1 ?_
  refine bf_if_ne 14 dX12_box_9 (by decide) (fun c3 => ?_) (fun c3 => ?_)
  · have hf := (if_neg c3).symm.trans hf
    refine bf_iload_n 2 dX12_box_14 rfl rfl ?_
    refine bf_i2l dX12_box_15 ?_
    refine bf_lconst (v := 0) dX12_box_16 (by decide) ?_
    refine bf_ldc2 dX12_box_17 wk_X12_67 ?_
    obtain ⟨r5, e4, hf⟩ := bf_bind hf
    have hCe4 := ok_X12_in (Γ := Γ) (ad := ad)  e4
    refine cv_X12_61 0 dX12_box_20 rfl ⟨Nat.le_of_ble_eq_true rfl, Nat.le_of_ble_eq_true rfl⟩ (Nat.le_of_ble_eq_true rfl) hCe4 ?_
    refine bf_if_ne 29 dX12_box_23 (by decide) (fun c6 => ?_) (fun c6 => ?_)
    · have hf := (if_neg c6).symm.trans hf
      refine bf_aload_n 0 dX12_box_29 rfl rfl ?_
      refine fg_X12_11 dX12_box_30 rfl hk ?_
      refine bf_iconst (v := 0) dX12_box_33 (by decide) ?_
      refine bf_iald dX12_box_34 (kr_12_0 hk) (by rw [(kl_12_0 hk)]; decide) ?_
      refine bf_istore_n (lv2 := [(3, .int _), (0, .ref _), (1, .int _), (2, .int _)]) dX12_box_35 rfl (by decide) rfl ?_
      refine bf_iload_n 0 dX12_box_36 rfl rfl ?_
      refine bf_bipush (v := 6) dX12_box_37 (by decide) ?_
      refine bf_icmp_ne 45 dX12_box_39 (by decide) (fun c7 => ?_) (fun c7 => ?_)
      · have hf := (if_neg c7).symm.trans hf
        refine bf_aload_n 1 dX12_box_45 rfl rfl ?_
        refine fg_X12_11 dX12_box_46 rfl hk ?_
        refine bf_iconst (v := 5) dX12_box_49 (by decide) ?_
        refine bf_iconst (v := 3) dX12_box_50 (by decide) ?_
        refine bf_iload_n 0 dX12_box_51 rfl rfl ?_
        refine bf_imul dX12_box_52 ?_
        refine bf_iadd dX12_box_53 ?_
        refine bf_iload_n 2 dX12_box_54 rfl rfl ?_
        rcases Decidable.em (bf_ok ((5 : Int32) + ((3 : Int32) * (r5.2.1 (o + 1) (0 : Int32).toNatClampNeg))) 914) with c8 | c8
        · have hf := (if_pos c8).symm.trans hf
          refine bf_iast dX12_box_55 (kr_12_0 hk) (by rw [(kl_12_0 hk)]; exact c8) ?_
          refine bf_aload_n 1 dX12_box_56 rfl rfl ?_
          refine fg_X12_11 dX12_box_57 rfl hk ?_
          refine bf_iconst (v := 5) dX12_box_60 (by decide) ?_
          refine bf_iconst (v := 3) dX12_box_61 (by decide) ?_
          refine bf_iload_n 0 dX12_box_62 rfl rfl ?_
          refine bf_imul dX12_box_63 ?_
          refine bf_iadd dX12_box_64 ?_
          refine bf_iconst (v := 1) dX12_box_65 (by decide) ?_
          refine bf_iadd dX12_box_66 ?_
          refine bf_iload_n 3 dX12_box_67 rfl rfl ?_
          rcases Decidable.em (bf_ok (((5 : Int32) + ((3 : Int32) * (r5.2.1 (o + 1) (0 : Int32).toNatClampNeg))) + (1 : Int32)) 914) with c9 | c9
          · have hf := (if_pos c9).symm.trans hf
            refine bf_iast dX12_box_68 (kr_12_0 hk) (by rw [(kl_12_0 hk)]; exact c9) ?_
            refine bf_aload_n 1 dX12_box_69 rfl rfl ?_
            refine fg_X12_11 dX12_box_70 rfl hk ?_
            refine bf_iconst (v := 5) dX12_box_73 (by decide) ?_
            refine bf_iconst (v := 3) dX12_box_74 (by decide) ?_
            refine bf_iload_n 0 dX12_box_75 rfl rfl ?_
            refine bf_imul dX12_box_76 ?_
            refine bf_iadd dX12_box_77 ?_
            refine bf_iconst (v := 2) dX12_box_78 (by decide) ?_
            refine bf_iadd dX12_box_79 ?_
            refine bf_iconst (v := 0) dX12_box_80 (by decide) ?_
            rcases Decidable.em (bf_ok (((5 : Int32) + ((3 : Int32) * (r5.2.1 (o + 1) (0 : Int32).toNatClampNeg))) + (2 : Int32)) 914) with c10 | c10
            · have hf := (if_pos c10).symm.trans hf
              refine bf_iast dX12_box_81 (kr_12_0 hk) (by rw [(kl_12_0 hk)]; exact c10) ?_
              refine bf_aload_n 1 dX12_box_82 rfl rfl ?_
              refine fg_X12_11 dX12_box_83 rfl hk ?_
              refine bf_iconst (v := 0) dX12_box_86 (by decide) ?_
              refine bf_iload_n 0 dX12_box_87 rfl rfl ?_
              refine bf_iconst (v := 1) dX12_box_88 (by decide) ?_
              refine bf_iadd dX12_box_89 ?_
              refine bf_iast dX12_box_90 (kr_12_0 hk) (by rw [(kl_12_0 hk)]; decide) ?_
              refine bf_iload_n 0 dX12_box_91 rfl rfl ?_
              obtain rfl := Option.some.inj hf
              exact bf_iret dX12_box_92 rfl (Nat.le_refl _) (Nat.le_refl _) ⟨rfl, rfl⟩
            · exact absurd ((if_neg c10).symm.trans hf) (by simp)
          · exact absurd ((if_neg c9).symm.trans hf) (by simp)
        · exact absurd ((if_neg c8).symm.trans hf) (by simp)
      · have hf := (if_pos c7).symm.trans hf
        refine bf_bipush (v := -4) dX12_box_42 (by decide) ?_
        obtain rfl := Option.some.inj hf
        exact bf_iret dX12_box_44 rfl (Nat.le_refl _) (Nat.le_refl _) ⟨rfl, rfl⟩
    · have hf := (if_pos c6).symm.trans hf
      refine bf_bipush (v := -2) dX12_box_26 (by decide) ?_
      obtain rfl := Option.some.inj hf
      exact bf_iret dX12_box_28 rfl (Nat.le_refl _) (Nat.le_refl _) ⟨rfl, rfl⟩
  · have hf := (if_pos c3).symm.trans hf
    refine bf_iconst (v := -1) dX12_box_12 (by decide) ?_
    obtain rfl := Option.some.inj hf
    exact bf_iret dX12_box_13 rfl (Nat.le_refl _) (Nat.le_refl _) ⟨rfl, rfl⟩
def f_X12_wire (o : Nat) (a0 : Int32) (a1 : Int32) (a2 : Int32) (a3 : Int32) (I : Nat → Nat → Int32) (L : Nat → Nat → Int64) : Option (Int32 × bf_St) :=
  ((f_X12_isBox o a0 I L).bind (fun r2 => (if r2.1 = 0 then (some ((-1 : Int32), r2.2.1, r2.2.2)) else ((f_X12_isBox o a1 r2.2.1 r2.2.2).bind (fun r5 => (if r5.1 = 0 then (some ((-1 : Int32), r5.2.1, r5.2.2)) else ((f_X12_in (a2).toInt64 (1 : Int64) (4 : Int64) r5.2.1 r5.2.2).bind (fun r8 => (if r8.1 = 0 then (some ((-2 : Int32), r8.2.1, r8.2.2)) else ((f_X12_in (a3).toInt64 (1 : Int64) (4 : Int64) r8.2.1 r8.2.2).bind (fun r11 => (if r11.1 = 0 then (some ((-2 : Int32), r11.2.1, r11.2.2)) else (if (r11.2.1 (o + 1) (1 : Int32).toNatClampNeg) = (8 : Int32) then (some ((-4 : Int32), r11.2.1, r11.2.2)) else (if bf_ok ((74 : Int32) + ((105 : Int32) * (r11.2.1 (o + 1) (1 : Int32).toNatClampNeg))) 914 then (if bf_ok (((74 : Int32) + ((105 : Int32) * (r11.2.1 (o + 1) (1 : Int32).toNatClampNeg))) + (1 : Int32)) 914 then (if bf_ok (((74 : Int32) + ((105 : Int32) * (r11.2.1 (o + 1) (1 : Int32).toNatClampNeg))) + (2 : Int32)) 914 then (if bf_ok (((74 : Int32) + ((105 : Int32) * (r11.2.1 (o + 1) (1 : Int32).toNatClampNeg))) + (3 : Int32)) 914 then (if bf_ok (((74 : Int32) + ((105 : Int32) * (r11.2.1 (o + 1) (1 : Int32).toNatClampNeg))) + (4 : Int32)) 914 then (if bf_ok (((74 : Int32) + ((105 : Int32) * (r11.2.1 (o + 1) (1 : Int32).toNatClampNeg))) + (5 : Int32)) 914 then (some ((r11.2.1 (o + 1) (1 : Int32).toNatClampNeg), (bf_u (bf_u (bf_u (bf_u (bf_u (bf_u (bf_u r11.2.1 (o + 1) ((74 : Int32) + ((105 : Int32) * (r11.2.1 (o + 1) (1 : Int32).toNatClampNeg))).toNatClampNeg a0) (o + 1) (((74 : Int32) + ((105 : Int32) * (r11.2.1 (o + 1) (1 : Int32).toNatClampNeg))) + (1 : Int32)).toNatClampNeg a1) (o + 1) (((74 : Int32) + ((105 : Int32) * (r11.2.1 (o + 1) (1 : Int32).toNatClampNeg))) + (2 : Int32)).toNatClampNeg a2) (o + 1) (((74 : Int32) + ((105 : Int32) * (r11.2.1 (o + 1) (1 : Int32).toNatClampNeg))) + (3 : Int32)).toNatClampNeg a3) (o + 1) (((74 : Int32) + ((105 : Int32) * (r11.2.1 (o + 1) (1 : Int32).toNatClampNeg))) + (4 : Int32)).toNatClampNeg (0 : Int32)) (o + 1) (((74 : Int32) + ((105 : Int32) * (r11.2.1 (o + 1) (1 : Int32).toNatClampNeg))) + (5 : Int32)).toNatClampNeg (0 : Int32)) (o + 1) (1 : Int32).toNatClampNeg ((r11.2.1 (o + 1) (1 : Int32).toNatClampNeg) + (1 : Int32))), r11.2.2)) else none) else none) else none) else none) else none) else none))))))))))))))
set_option maxRecDepth 100000 in
set_option maxHeartbeats 4000000 in
theorem ok_X12_wire {Γ : bf_Gm} {ad : Nat → Nat} {o : Nat} {a0 : Int32} {a1 : Int32} {a2 : Int32} {a3 : Int32} {I : Nat → Nat → Int32} {L : Nat → Nat → Int64} (hk : bf_kd o = 12) {r : Int32 × bf_St} (hf : f_X12_wire o a0 a1 a2 a3 I L = some r) : bf_Cn Γ 2 mu_X12_wire 0 0 [.ref (ad o), .int a0, .int a1, .int a2, .int a3] (bf_S ad I L) (fun q h => q = some (.int r.1) ∧ h = bf_S ad r.2.1 r.2.2) := by
  refine bf_met rfl (Nat.le_of_ble_eq_true rfl) ?_
  unfold f_X12_wire at hf
  refine bf_aload_n 0 dX12_wire_0 rfl rfl ?_
  refine bf_iload_n 1 dX12_wire_1 rfl rfl ?_
  obtain ⟨r2, e1, hf⟩ := bf_bind hf
  have hCe1 := ok_X12_isBox (Γ := Γ) (ad := ad) hk e1
  refine cv_X12_69 1 dX12_wire_2 rfl ⟨Nat.le_of_ble_eq_true rfl, Nat.le_of_ble_eq_true rfl⟩ (Nat.le_of_ble_eq_true rfl) hk hCe1 ?_
  refine bf_if_eq 16 dX12_wire_5 (by decide) (fun c3 => ?_) (fun c3 => ?_)
  · have hf := (if_pos c3).symm.trans hf
    refine bf_iconst (v := -1) dX12_wire_16 (by decide) ?_
    obtain rfl := Option.some.inj hf
    exact bf_iret dX12_wire_17 rfl (Nat.le_refl _) (Nat.le_refl _) ⟨rfl, rfl⟩
  · have hf := (if_neg c3).symm.trans hf
    refine bf_aload_n 0 dX12_wire_8 rfl rfl ?_
    refine bf_iload_n 2 dX12_wire_9 rfl rfl ?_
    obtain ⟨r5, e4, hf⟩ := bf_bind hf
    have hCe4 := ok_X12_isBox (Γ := Γ) (ad := ad) hk e4
    refine cv_X12_69 1 dX12_wire_10 rfl ⟨Nat.le_of_ble_eq_true rfl, Nat.le_of_ble_eq_true rfl⟩ (Nat.le_of_ble_eq_true rfl) hk hCe4 ?_
    refine bf_if_ne 18 dX12_wire_13 (by decide) (fun c6 => ?_) (fun c6 => ?_)
    · have hf := (if_neg c6).symm.trans hf
      refine bf_iload_n 3 dX12_wire_18 rfl rfl ?_
      refine bf_i2l dX12_wire_19 ?_
      refine bf_lconst (v := 1) dX12_wire_20 (by decide) ?_
      refine bf_ldc2 dX12_wire_21 wk_X12_65 ?_
      obtain ⟨r8, e7, hf⟩ := bf_bind hf
      have hCe7 := ok_X12_in (Γ := Γ) (ad := ad)  e7
      refine cv_X12_61 0 dX12_wire_24 rfl ⟨Nat.le_of_ble_eq_true rfl, Nat.le_of_ble_eq_true rfl⟩ (Nat.le_of_ble_eq_true rfl) hCe7 ?_
      refine bf_if_eq 43 dX12_wire_27 (by decide) (fun c9 => ?_) (fun c9 => ?_)
      · have hf := (if_pos c9).symm.trans hf
        refine bf_bipush (v := -2) dX12_wire_43 (by decide) ?_
        obtain rfl := Option.some.inj hf
        exact bf_iret dX12_wire_45 rfl (Nat.le_refl _) (Nat.le_refl _) ⟨rfl, rfl⟩
      · have hf := (if_neg c9).symm.trans hf
        refine bf_iload 4 dX12_wire_30 rfl ?_
        refine bf_i2l dX12_wire_32 ?_
        refine bf_lconst (v := 1) dX12_wire_33 (by decide) ?_
        refine bf_ldc2 dX12_wire_34 wk_X12_65 ?_
        obtain ⟨r11, e10, hf⟩ := bf_bind hf
        have hCe10 := ok_X12_in (Γ := Γ) (ad := ad)  e10
        refine cv_X12_61 0 dX12_wire_37 rfl ⟨Nat.le_of_ble_eq_true rfl, Nat.le_of_ble_eq_true rfl⟩ (Nat.le_of_ble_eq_true rfl) hCe10 ?_
        refine bf_if_ne 46 dX12_wire_40 (by decide) (fun c12 => ?_) (fun c12 => ?_)
        · have hf := (if_neg c12).symm.trans hf
          refine bf_aload_n 0 dX12_wire_46 rfl rfl ?_
          refine fg_X12_11 dX12_wire_47 rfl hk ?_
          refine bf_iconst (v := 1) dX12_wire_50 (by decide) ?_
          refine bf_iald dX12_wire_51 (kr_12_0 hk) (by rw [(kl_12_0 hk)]; decide) ?_
          refine bf_istore (lv2 := [(5, .int _), (0, .ref _), (1, .int _), (2, .int _), (3, .int _), (4, .int _)]) dX12_wire_52 (by decide) rfl ?_
          refine bf_iload 0 dX12_wire_54 rfl ?_
          refine bf_bipush (v := 8) dX12_wire_56 (by decide) ?_
          refine bf_icmp_ne 64 dX12_wire_58 (by decide) (fun c13 => ?_) (fun c13 => ?_)
          · have hf := (if_neg c13).symm.trans hf
            refine bf_bipush (v := 74) dX12_wire_64 (by decide) ?_
            refine bf_bipush (v := 105) dX12_wire_66 (by decide) ?_
            refine bf_iload 0 dX12_wire_68 rfl ?_
            refine bf_imul dX12_wire_70 ?_
            refine bf_iadd dX12_wire_71 ?_
            refine bf_istore (lv2 := [(6, .int _), (5, .int _), (0, .ref _), (1, .int _), (2, .int _), (3, .int _), (4, .int _)]) dX12_wire_72 (by decide) rfl ?_
            refine bf_aload_n 2 dX12_wire_74 rfl rfl ?_
            refine fg_X12_11 dX12_wire_75 rfl hk ?_
            refine bf_iload 0 dX12_wire_78 rfl ?_
            refine bf_iload_n 3 dX12_wire_80 rfl rfl ?_
            rcases Decidable.em (bf_ok ((74 : Int32) + ((105 : Int32) * (r11.2.1 (o + 1) (1 : Int32).toNatClampNeg))) 914) with c14 | c14
            · have hf := (if_pos c14).symm.trans hf
              refine bf_iast dX12_wire_81 (kr_12_0 hk) (by rw [(kl_12_0 hk)]; exact c14) ?_
              refine bf_aload_n 2 dX12_wire_82 rfl rfl ?_
              refine fg_X12_11 dX12_wire_83 rfl hk ?_
              refine bf_iload 0 dX12_wire_86 rfl ?_
              refine bf_iconst (v := 1) dX12_wire_88 (by decide) ?_
              refine bf_iadd dX12_wire_89 ?_
              refine bf_iload_n 4 dX12_wire_90 rfl rfl ?_
              rcases Decidable.em (bf_ok (((74 : Int32) + ((105 : Int32) * (r11.2.1 (o + 1) (1 : Int32).toNatClampNeg))) + (1 : Int32)) 914) with c15 | c15
              · have hf := (if_pos c15).symm.trans hf
                refine bf_iast dX12_wire_91 (kr_12_0 hk) (by rw [(kl_12_0 hk)]; exact c15) ?_
                refine bf_aload_n 2 dX12_wire_92 rfl rfl ?_
                refine fg_X12_11 dX12_wire_93 rfl hk ?_
                refine bf_iload 0 dX12_wire_96 rfl ?_
                refine bf_iconst (v := 2) dX12_wire_98 (by decide) ?_
                refine bf_iadd dX12_wire_99 ?_
                refine bf_iload_n 5 dX12_wire_100 rfl rfl ?_
                rcases Decidable.em (bf_ok (((74 : Int32) + ((105 : Int32) * (r11.2.1 (o + 1) (1 : Int32).toNatClampNeg))) + (2 : Int32)) 914) with c16 | c16
                · have hf := (if_pos c16).symm.trans hf
                  refine bf_iast dX12_wire_101 (kr_12_0 hk) (by rw [(kl_12_0 hk)]; exact c16) ?_
                  refine bf_aload_n 2 dX12_wire_102 rfl rfl ?_
                  refine fg_X12_11 dX12_wire_103 rfl hk ?_
                  refine bf_iload 0 dX12_wire_106 rfl ?_
                  refine bf_iconst (v := 3) dX12_wire_108 (by decide) ?_
                  refine bf_iadd dX12_wire_109 ?_
                  refine bf_iload 6 dX12_wire_110 rfl ?_
                  rcases Decidable.em (bf_ok (((74 : Int32) + ((105 : Int32) * (r11.2.1 (o + 1) (1 : Int32).toNatClampNeg))) + (3 : Int32)) 914) with c17 | c17
                  · have hf := (if_pos c17).symm.trans hf
                    refine bf_iast dX12_wire_112 (kr_12_0 hk) (by rw [(kl_12_0 hk)]; exact c17) ?_
                    refine bf_aload_n 2 dX12_wire_113 rfl rfl ?_
                    refine fg_X12_11 dX12_wire_114 rfl hk ?_
                    refine bf_iload 0 dX12_wire_117 rfl ?_
                    refine bf_iconst (v := 4) dX12_wire_119 (by decide) ?_
                    refine bf_iadd dX12_wire_120 ?_
                    refine bf_iconst (v := 0) dX12_wire_121 (by decide) ?_
                    rcases Decidable.em (bf_ok (((74 : Int32) + ((105 : Int32) * (r11.2.1 (o + 1) (1 : Int32).toNatClampNeg))) + (4 : Int32)) 914) with c18 | c18
                    · have hf := (if_pos c18).symm.trans hf
                      refine bf_iast dX12_wire_122 (kr_12_0 hk) (by rw [(kl_12_0 hk)]; exact c18) ?_
                      refine bf_aload_n 2 dX12_wire_123 rfl rfl ?_
                      refine fg_X12_11 dX12_wire_124 rfl hk ?_
                      refine bf_iload 0 dX12_wire_127 rfl ?_
                      refine bf_iconst (v := 5) dX12_wire_129 (by decide) ?_
                      refine bf_iadd dX12_wire_130 ?_
                      refine bf_iconst (v := 0) dX12_wire_131 (by decide) ?_
                      rcases Decidable.em (bf_ok (((74 : Int32) + ((105 : Int32) * (r11.2.1 (o + 1) (1 : Int32).toNatClampNeg))) + (5 : Int32)) 914) with c19 | c19
                      · have hf := (if_pos c19).symm.trans hf
                        refine bf_iast dX12_wire_132 (kr_12_0 hk) (by rw [(kl_12_0 hk)]; exact c19) ?_
                        refine bf_aload_n 2 dX12_wire_133 rfl rfl ?_
                        refine fg_X12_11 dX12_wire_134 rfl hk ?_
                        refine bf_iconst (v := 1) dX12_wire_137 (by decide) ?_
                        refine bf_iload 1 dX12_wire_138 rfl ?_
                        refine bf_iconst (v := 1) dX12_wire_140 (by decide) ?_
                        refine bf_iadd dX12_wire_141 ?_
                        refine bf_iast dX12_wire_142 (kr_12_0 hk) (by rw [(kl_12_0 hk)]; decide) ?_
                        refine bf_iload 1 dX12_wire_143 rfl ?_
                        obtain rfl := Option.some.inj hf
                        exact bf_iret dX12_wire_145 rfl (Nat.le_refl _) (Nat.le_refl _) ⟨rfl, rfl⟩
                      · exact absurd ((if_neg c19).symm.trans hf) (by simp)
                    · exact absurd ((if_neg c18).symm.trans hf) (by simp)
                  · exact absurd ((if_neg c17).symm.trans hf) (by simp)
                · exact absurd ((if_neg c16).symm.trans hf) (by simp)
              · exact absurd ((if_neg c15).symm.trans hf) (by simp)
            · exact absurd ((if_neg c14).symm.trans hf) (by simp)
          · have hf := (if_pos c13).symm.trans hf
            refine bf_bipush (v := -4) dX12_wire_61 (by decide) ?_
            obtain rfl := Option.some.inj hf
            exact bf_iret dX12_wire_63 rfl (Nat.le_refl _) (Nat.le_refl _) ⟨rfl, rfl⟩
        · have hf := (if_pos c12).symm.trans hf
          refine bf_bipush (v := -2) dX12_wire_43 (by decide) ?_
          obtain rfl := Option.some.inj hf
          exact bf_iret dX12_wire_45 rfl (Nat.le_refl _) (Nat.le_refl _) ⟨rfl, rfl⟩
    · have hf := (if_pos c6).symm.trans hf
      refine bf_iconst (v := -1) dX12_wire_16 (by decide) ?_
      obtain rfl := Option.some.inj hf
      exact bf_iret dX12_wire_17 rfl (Nat.le_refl _) (Nat.le_refl _) ⟨rfl, rfl⟩
def f_X12_comes (o : Nat) (a0 : Int32) (a1 : Int32) (I : Nat → Nat → Int32) (L : Nat → Nat → Int64) : Option (bf_St) :=
  (if bf_ok (((74 : Int32) + ((105 : Int32) * a0)) + (5 : Int32)) 914 then (if bf_ok ((((74 : Int32) + ((105 : Int32) * a0)) + (6 : Int32)) + (I (o + 1) (((74 : Int32) + ((105 : Int32) * a0)) + (5 : Int32)).toNatClampNeg)) 914 then (if bf_ok (((74 : Int32) + ((105 : Int32) * a0)) + (5 : Int32)) 914 then (if bf_ok (((74 : Int32) + ((105 : Int32) * a0)) + (5 : Int32)) 914 then (some ((bf_u (bf_u I (o + 1) ((((74 : Int32) + ((105 : Int32) * a0)) + (6 : Int32)) + (I (o + 1) (((74 : Int32) + ((105 : Int32) * a0)) + (5 : Int32)).toNatClampNeg)).toNatClampNeg a1) (o + 1) (((74 : Int32) + ((105 : Int32) * a0)) + (5 : Int32)).toNatClampNeg (((bf_u I (o + 1) ((((74 : Int32) + ((105 : Int32) * a0)) + (6 : Int32)) + (I (o + 1) (((74 : Int32) + ((105 : Int32) * a0)) + (5 : Int32)).toNatClampNeg)).toNatClampNeg a1) (o + 1) (((74 : Int32) + ((105 : Int32) * a0)) + (5 : Int32)).toNatClampNeg) + (1 : Int32))), L)) else none) else none) else none) else none)
set_option maxRecDepth 100000 in
set_option maxHeartbeats 4000000 in
theorem ok_X12_comes {Γ : bf_Gm} {ad : Nat → Nat} {o : Nat} {a0 : Int32} {a1 : Int32} {I : Nat → Nat → Int32} {L : Nat → Nat → Int64} (hk : bf_kd o = 12) {r : bf_St} (hf : f_X12_comes o a0 a1 I L = some r) : bf_Cn Γ 0 mu_X12_comes 0 0 [.ref (ad o), .int a0, .int a1] (bf_S ad I L) (fun q h => q = none ∧ h = bf_S ad r.1 r.2) := by
  refine bf_met rfl (Nat.le_of_ble_eq_true rfl) ?_
  unfold f_X12_comes at hf
  refine bf_bipush (v := 74) dX12_comes_0 (by decide) ?_
  refine bf_bipush (v := 105) dX12_comes_2 (by decide) ?_
  refine bf_iload_n 1 dX12_comes_4 rfl rfl ?_
  refine bf_imul dX12_comes_5 ?_
  refine bf_iadd dX12_comes_6 ?_
  refine bf_istore_n (lv2 := [(3, .int _), (0, .ref _), (1, .int _), (2, .int _)]) dX12_comes_7 rfl (by decide) rfl ?_
  refine bf_aload_n 1 dX12_comes_8 rfl rfl ?_
  refine fg_X12_11 dX12_comes_9 rfl hk ?_
  refine bf_iload_n 0 dX12_comes_12 rfl rfl ?_
  refine bf_bipush (v := 6) dX12_comes_13 (by decide) ?_
  refine bf_iadd dX12_comes_15 ?_
  refine bf_aload_n 1 dX12_comes_16 rfl rfl ?_
  refine fg_X12_11 dX12_comes_17 rfl hk ?_
  refine bf_iload_n 0 dX12_comes_20 rfl rfl ?_
  refine bf_iconst (v := 5) dX12_comes_21 (by decide) ?_
  refine bf_iadd dX12_comes_22 ?_
  rcases Decidable.em (bf_ok (((74 : Int32) + ((105 : Int32) * a0)) + (5 : Int32)) 914) with c1 | c1
  · have hf := (if_pos c1).symm.trans hf
    refine bf_iald dX12_comes_23 (kr_12_0 hk) (by rw [(kl_12_0 hk)]; exact c1) ?_
    refine bf_iadd dX12_comes_24 ?_
    refine bf_iload_n 3 dX12_comes_25 rfl rfl ?_
    rcases Decidable.em (bf_ok ((((74 : Int32) + ((105 : Int32) * a0)) + (6 : Int32)) + (I (o + 1) (((74 : Int32) + ((105 : Int32) * a0)) + (5 : Int32)).toNatClampNeg)) 914) with c2 | c2
    · have hf := (if_pos c2).symm.trans hf
      refine bf_iast dX12_comes_26 (kr_12_0 hk) (by rw [(kl_12_0 hk)]; exact c2) ?_
      refine bf_aload_n 1 dX12_comes_27 rfl rfl ?_
      refine fg_X12_11 dX12_comes_28 rfl hk ?_
      refine bf_iload_n 0 dX12_comes_31 rfl rfl ?_
      refine bf_iconst (v := 5) dX12_comes_32 (by decide) ?_
      refine bf_iadd dX12_comes_33 ?_
      refine bf_dup2 dX12_comes_34 rfl rfl ?_
      rcases Decidable.em (bf_ok (((74 : Int32) + ((105 : Int32) * a0)) + (5 : Int32)) 914) with c3 | c3
      · have hf := (if_pos c3).symm.trans hf
        refine bf_iald dX12_comes_35 (kr_12_0 hk) (by rw [(kl_12_0 hk)]; exact c3) ?_
        refine bf_iconst (v := 1) dX12_comes_36 (by decide) ?_
        refine bf_iadd dX12_comes_37 ?_
        rcases Decidable.em (bf_ok (((74 : Int32) + ((105 : Int32) * a0)) + (5 : Int32)) 914) with c4 | c4
        · have hf := (if_pos c4).symm.trans hf
          refine bf_iast dX12_comes_38 (kr_12_0 hk) (by rw [(kl_12_0 hk)]; exact c4) ?_
          obtain rfl := Option.some.inj hf
          exact bf_vret dX12_comes_39 rfl (Nat.le_refl _) (Nat.le_refl _) ⟨rfl, rfl⟩
        · exact absurd ((if_neg c4).symm.trans hf) (by simp)
      · exact absurd ((if_neg c3).symm.trans hf) (by simp)
    · exact absurd ((if_neg c2).symm.trans hf) (by simp)
  · exact absurd ((if_neg c1).symm.trans hf) (by simp)
def f_X12_token (o : Nat) (a0 : Int32) (a1 : Int32) (I : Nat → Nat → Int32) (L : Nat → Nat → Int64) : Option (Int32 × bf_St) :=
  ((f_X12_isWire o a0 I L).bind (fun r2 => (if r2.1 = 0 then (some ((-1 : Int32), r2.2.1, r2.2.2)) else ((f_X12_tokens o a0 r2.2.1 r2.2.2).bind (fun r5 => (if r5.1 = (99 : Int32) then (some ((-4 : Int32), r5.2.1, r5.2.2)) else ((f_X12_comes o a0 a1 r5.2.1 r5.2.2).bind (fun r8 => ((f_X12_tokens o a0 r8.1 r8.2).bind (fun r10 => (some (r10.1, r10.2.1, r10.2.2))))))))))))
set_option maxRecDepth 100000 in
set_option maxHeartbeats 4000000 in
theorem ok_X12_token {Γ : bf_Gm} {ad : Nat → Nat} {o : Nat} {a0 : Int32} {a1 : Int32} {I : Nat → Nat → Int32} {L : Nat → Nat → Int64} (hk : bf_kd o = 12) {r : Int32 × bf_St} (hf : f_X12_token o a0 a1 I L = some r) : bf_Cn Γ 2 mu_X12_token 0 0 [.ref (ad o), .int a0, .int a1] (bf_S ad I L) (fun q h => q = some (.int r.1) ∧ h = bf_S ad r.2.1 r.2.2) := by
  refine bf_met rfl (Nat.le_of_ble_eq_true rfl) ?_
  unfold f_X12_token at hf
  refine bf_aload_n 0 dX12_token_0 rfl rfl ?_
  refine bf_iload_n 1 dX12_token_1 rfl rfl ?_
  obtain ⟨r2, e1, hf⟩ := bf_bind hf
  have hCe1 := ok_X12_isWire (Γ := Γ) (ad := ad) hk e1
  refine cv_X12_73 1 dX12_token_2 rfl ⟨Nat.le_of_ble_eq_true rfl, Nat.le_of_ble_eq_true rfl⟩ (Nat.le_of_ble_eq_true rfl) hk hCe1 ?_
  refine bf_if_ne 10 dX12_token_5 (by decide) (fun c3 => ?_) (fun c3 => ?_)
  · have hf := (if_neg c3).symm.trans hf
    refine bf_aload_n 0 dX12_token_10 rfl rfl ?_
    refine bf_iload_n 1 dX12_token_11 rfl rfl ?_
    obtain ⟨r5, e4, hf⟩ := bf_bind hf
    have hCe4 := ok_X12_tokens (Γ := Γ) (ad := ad) hk e4
    refine cv_X12_76 0 dX12_token_12 rfl ⟨Nat.le_of_ble_eq_true rfl, Nat.le_of_ble_eq_true rfl⟩ (Nat.le_of_ble_eq_true rfl) hk hCe4 ?_
    refine bf_bipush (v := 99) dX12_token_15 (by decide) ?_
    refine bf_icmp_ne 23 dX12_token_17 (by decide) (fun c6 => ?_) (fun c6 => ?_)
    · have hf := (if_neg c6).symm.trans hf
      refine bf_aload_n 0 dX12_token_23 rfl rfl ?_
      refine bf_iload_n 1 dX12_token_24 rfl rfl ?_
      refine bf_iload_n 2 dX12_token_25 rfl rfl ?_
      obtain ⟨r8, e7, hf⟩ := bf_bind hf
      have hCe7 := ok_X12_comes (Γ := Γ) (ad := ad) hk e7
      refine cv_X12_80 0 dX12_token_26 rfl ⟨Nat.le_of_ble_eq_true rfl, Nat.le_of_ble_eq_true rfl⟩ (Nat.le_of_ble_eq_true rfl) hk hCe7 ?_
      refine bf_aload_n 0 dX12_token_29 rfl rfl ?_
      refine bf_iload_n 1 dX12_token_30 rfl rfl ?_
      obtain ⟨r10, e9, hf⟩ := bf_bind hf
      have hCe9 := ok_X12_tokens (Γ := Γ) (ad := ad) hk e9
      refine cv_X12_76 0 dX12_token_31 rfl ⟨Nat.le_of_ble_eq_true rfl, Nat.le_of_ble_eq_true rfl⟩ (Nat.le_of_ble_eq_true rfl) hk hCe9 ?_
      obtain rfl := Option.some.inj hf
      exact bf_iret dX12_token_34 rfl (Nat.le_refl _) (Nat.le_refl _) ⟨rfl, rfl⟩
    · have hf := (if_pos c6).symm.trans hf
      refine bf_bipush (v := -4) dX12_token_20 (by decide) ?_
      obtain rfl := Option.some.inj hf
      exact bf_iret dX12_token_22 rfl (Nat.le_refl _) (Nat.le_refl _) ⟨rfl, rfl⟩
  · have hf := (if_pos c3).symm.trans hf
    refine bf_iconst (v := -1) dX12_token_8 (by decide) ?_
    obtain rfl := Option.some.inj hf
    exact bf_iret dX12_token_9 rfl (Nat.le_refl _) (Nat.le_refl _) ⟨rfl, rfl⟩
def f_X12_cut (o : Nat) (a0 : Int32) (I : Nat → Nat → Int32) (L : Nat → Nat → Int64) : Option (Int32 × bf_St) :=
  ((f_X12_isWire o a0 I L).bind (fun r2 => (if r2.1 = 0 then (some ((-1 : Int32), r2.2.1, r2.2.2)) else ((f_X12_tokens o a0 r2.2.1 r2.2.2).bind (fun r5 => (if bf_ok (((74 : Int32) + ((105 : Int32) * a0)) + (4 : Int32)) 914 then (if bf_ok (((74 : Int32) + ((105 : Int32) * a0)) + (5 : Int32)) 914 then (some (r5.1, (bf_u (bf_u r5.2.1 (o + 1) (((74 : Int32) + ((105 : Int32) * a0)) + (4 : Int32)).toNatClampNeg (1 : Int32)) (o + 1) (((74 : Int32) + ((105 : Int32) * a0)) + (5 : Int32)).toNatClampNeg (0 : Int32)), r5.2.2)) else none) else none))))))
set_option maxRecDepth 100000 in
set_option maxHeartbeats 4000000 in
theorem ok_X12_cut {Γ : bf_Gm} {ad : Nat → Nat} {o : Nat} {a0 : Int32} {I : Nat → Nat → Int32} {L : Nat → Nat → Int64} (hk : bf_kd o = 12) {r : Int32 × bf_St} (hf : f_X12_cut o a0 I L = some r) : bf_Cn Γ 2 mu_X12_cut 0 0 [.ref (ad o), .int a0] (bf_S ad I L) (fun q h => q = some (.int r.1) ∧ h = bf_S ad r.2.1 r.2.2) := by
  refine bf_met rfl (Nat.le_of_ble_eq_true rfl) ?_
  unfold f_X12_cut at hf
  refine bf_aload_n 0 dX12_cut_0 rfl rfl ?_
  refine bf_iload_n 1 dX12_cut_1 rfl rfl ?_
  obtain ⟨r2, e1, hf⟩ := bf_bind hf
  have hCe1 := ok_X12_isWire (Γ := Γ) (ad := ad) hk e1
  refine cv_X12_73 1 dX12_cut_2 rfl ⟨Nat.le_of_ble_eq_true rfl, Nat.le_of_ble_eq_true rfl⟩ (Nat.le_of_ble_eq_true rfl) hk hCe1 ?_
  refine bf_if_ne 10 dX12_cut_5 (by decide) (fun c3 => ?_) (fun c3 => ?_)
  · have hf := (if_neg c3).symm.trans hf
    refine bf_aload_n 0 dX12_cut_10 rfl rfl ?_
    refine bf_iload_n 1 dX12_cut_11 rfl rfl ?_
    obtain ⟨r5, e4, hf⟩ := bf_bind hf
    have hCe4 := ok_X12_tokens (Γ := Γ) (ad := ad) hk e4
    refine cv_X12_76 0 dX12_cut_12 rfl ⟨Nat.le_of_ble_eq_true rfl, Nat.le_of_ble_eq_true rfl⟩ (Nat.le_of_ble_eq_true rfl) hk hCe4 ?_
    refine bf_istore_n (lv2 := [(2, .int _), (0, .ref _), (1, .int _)]) dX12_cut_15 rfl (by decide) rfl ?_
    refine bf_aload_n 1 dX12_cut_16 rfl rfl ?_
    refine fg_X12_11 dX12_cut_17 rfl hk ?_
    refine bf_bipush (v := 74) dX12_cut_20 (by decide) ?_
    refine bf_bipush (v := 105) dX12_cut_22 (by decide) ?_
    refine bf_iload_n 2 dX12_cut_24 rfl rfl ?_
    refine bf_imul dX12_cut_25 ?_
    refine bf_iadd dX12_cut_26 ?_
    refine bf_iconst (v := 4) dX12_cut_27 (by decide) ?_
    refine bf_iadd dX12_cut_28 ?_
    refine bf_iconst (v := 1) dX12_cut_29 (by decide) ?_
    rcases Decidable.em (bf_ok (((74 : Int32) + ((105 : Int32) * a0)) + (4 : Int32)) 914) with c6 | c6
    · have hf := (if_pos c6).symm.trans hf
      refine bf_iast dX12_cut_30 (kr_12_0 hk) (by rw [(kl_12_0 hk)]; exact c6) ?_
      refine bf_aload_n 1 dX12_cut_31 rfl rfl ?_
      refine fg_X12_11 dX12_cut_32 rfl hk ?_
      refine bf_bipush (v := 74) dX12_cut_35 (by decide) ?_
      refine bf_bipush (v := 105) dX12_cut_37 (by decide) ?_
      refine bf_iload_n 2 dX12_cut_39 rfl rfl ?_
      refine bf_imul dX12_cut_40 ?_
      refine bf_iadd dX12_cut_41 ?_
      refine bf_iconst (v := 5) dX12_cut_42 (by decide) ?_
      refine bf_iadd dX12_cut_43 ?_
      refine bf_iconst (v := 0) dX12_cut_44 (by decide) ?_
      rcases Decidable.em (bf_ok (((74 : Int32) + ((105 : Int32) * a0)) + (5 : Int32)) 914) with c7 | c7
      · have hf := (if_pos c7).symm.trans hf
        refine bf_iast dX12_cut_45 (kr_12_0 hk) (by rw [(kl_12_0 hk)]; exact c7) ?_
        refine bf_iload_n 0 dX12_cut_46 rfl rfl ?_
        obtain rfl := Option.some.inj hf
        exact bf_iret dX12_cut_47 rfl (Nat.le_refl _) (Nat.le_refl _) ⟨rfl, rfl⟩
      · exact absurd ((if_neg c7).symm.trans hf) (by simp)
    · exact absurd ((if_neg c6).symm.trans hf) (by simp)
  · have hf := (if_pos c3).symm.trans hf
    refine bf_iconst (v := -1) dX12_cut_8 (by decide) ?_
    obtain rfl := Option.some.inj hf
    exact bf_iret dX12_cut_9 rfl (Nat.le_refl _) (Nat.le_refl _) ⟨rfl, rfl⟩
def f_X12_feed (o : Nat) (a0 : Int32) (I : Nat → Nat → Int32) (L : Nat → Nat → Int64) : Option (Int32 × bf_St) :=
  ((f_X12_in (a0).toInt64 (0 : Int64) (127 : Int64) I L).bind (fun r2 => (if r2.1 = 0 then (some ((-2 : Int32), r2.2.1, r2.2.2)) else (if (r2.2.1 o 5) = (100 : Int32) then (some ((-4 : Int32), r2.2.1, r2.2.2)) else (if bf_ok (r2.2.1 o 5) 100 then (some (((bf_u (bf_u r2.2.1 (o + 4) (r2.2.1 o 5).toNatClampNeg a0) o 5 (((bf_u r2.2.1 (o + 4) (r2.2.1 o 5).toNatClampNeg a0) o 5) + (1 : Int32))) o 5), (bf_u (bf_u r2.2.1 (o + 4) (r2.2.1 o 5).toNatClampNeg a0) o 5 (((bf_u r2.2.1 (o + 4) (r2.2.1 o 5).toNatClampNeg a0) o 5) + (1 : Int32))), r2.2.2)) else none)))))
set_option maxRecDepth 100000 in
set_option maxHeartbeats 4000000 in
theorem ok_X12_feed {Γ : bf_Gm} {ad : Nat → Nat} {o : Nat} {a0 : Int32} {I : Nat → Nat → Int32} {L : Nat → Nat → Int64} (hk : bf_kd o = 12) {r : Int32 × bf_St} (hf : f_X12_feed o a0 I L = some r) : bf_Cn Γ 1 mu_X12_feed 0 0 [.ref (ad o), .int a0] (bf_S ad I L) (fun q h => q = some (.int r.1) ∧ h = bf_S ad r.2.1 r.2.2) := by
  refine bf_met rfl (Nat.le_of_ble_eq_true rfl) ?_
  unfold f_X12_feed at hf
  refine bf_iload_n 1 dX12_feed_0 rfl rfl ?_
  refine bf_i2l dX12_feed_1 ?_
  refine bf_lconst (v := 0) dX12_feed_2 (by decide) ?_
  refine bf_ldc2 dX12_feed_3 wk_X12_84 ?_
  obtain ⟨r2, e1, hf⟩ := bf_bind hf
  have hCe1 := ok_X12_in (Γ := Γ) (ad := ad)  e1
  refine cv_X12_61 0 dX12_feed_6 rfl ⟨Nat.le_of_ble_eq_true rfl, Nat.le_of_ble_eq_true rfl⟩ (Nat.le_of_ble_eq_true rfl) hCe1 ?_
  refine bf_if_ne 15 dX12_feed_9 (by decide) (fun c3 => ?_) (fun c3 => ?_)
  · have hf := (if_neg c3).symm.trans hf
    refine bf_aload_n 0 dX12_feed_15 rfl rfl ?_
    refine fg_X12_86 dX12_feed_16 rfl hk ?_
    refine bf_bipush (v := 100) dX12_feed_19 (by decide) ?_
    refine bf_icmp_ne 27 dX12_feed_21 (by decide) (fun c4 => ?_) (fun c4 => ?_)
    · have hf := (if_neg c4).symm.trans hf
      refine bf_aload_n 0 dX12_feed_27 rfl rfl ?_
      refine fg_X12_21 dX12_feed_28 rfl hk ?_
      refine bf_aload_n 0 dX12_feed_31 rfl rfl ?_
      refine fg_X12_86 dX12_feed_32 rfl hk ?_
      refine bf_iload_n 1 dX12_feed_35 rfl rfl ?_
      rcases Decidable.em (bf_ok (r2.2.1 o 5) 100) with c5 | c5
      · have hf := (if_pos c5).symm.trans hf
        refine bf_iast dX12_feed_36 (kr_12_4 hk) (by rw [(kl_12_4 hk)]; exact c5) ?_
        refine bf_aload_n 0 dX12_feed_37 rfl rfl ?_
        refine bf_dup dX12_feed_38 rfl ?_
        refine fg_X12_86 dX12_feed_39 rfl hk ?_
        refine bf_iconst (v := 1) dX12_feed_42 (by decide) ?_
        refine bf_iadd dX12_feed_43 ?_
        refine fp_X12_86 dX12_feed_44 rfl hk ?_
        refine bf_aload_n 0 dX12_feed_47 rfl rfl ?_
        refine fg_X12_86 dX12_feed_48 rfl hk ?_
        obtain rfl := Option.some.inj hf
        exact bf_iret dX12_feed_51 rfl (Nat.le_refl _) (Nat.le_refl _) ⟨rfl, rfl⟩
      · exact absurd ((if_neg c5).symm.trans hf) (by simp)
    · have hf := (if_pos c4).symm.trans hf
      refine bf_bipush (v := -4) dX12_feed_24 (by decide) ?_
      obtain rfl := Option.some.inj hf
      exact bf_iret dX12_feed_26 rfl (Nat.le_refl _) (Nat.le_refl _) ⟨rfl, rfl⟩
  · have hf := (if_pos c3).symm.trans hf
    refine bf_bipush (v := -2) dX12_feed_12 (by decide) ?_
    obtain rfl := Option.some.inj hf
    exact bf_iret dX12_feed_14 rfl (Nat.le_refl _) (Nat.le_refl _) ⟨rfl, rfl⟩
def f_X12_byteAt (o : Nat) (a0 : Int32) (I : Nat → Nat → Int32) (L : Nat → Nat → Int64) : Option (Int32 × bf_St) :=
  (if (I o 5) ≤ a0 then (some ((-1 : Int32), I, L)) else (if bf_ok a0 100 then (some ((I (o + 4) a0.toNatClampNeg), I, L)) else none))
set_option maxRecDepth 100000 in
set_option maxHeartbeats 4000000 in
theorem ok_X12_byteAt {Γ : bf_Gm} {ad : Nat → Nat} {o : Nat} {a0 : Int32} {I : Nat → Nat → Int32} {L : Nat → Nat → Int64} (hk : bf_kd o = 12) {r : Int32 × bf_St} (hf : f_X12_byteAt o a0 I L = some r) : bf_Cn Γ 0 mu_X12_byteAt 0 0 [.ref (ad o), .int a0] (bf_S ad I L) (fun q h => q = some (.int r.1) ∧ h = bf_S ad r.2.1 r.2.2) := by
  refine bf_met rfl (Nat.le_of_ble_eq_true rfl) ?_
  unfold f_X12_byteAt at hf
  refine bf_iload_n 1 dX12_byteAt_0 rfl rfl ?_
  refine bf_aload_n 0 dX12_byteAt_1 rfl rfl ?_
  refine fg_X12_86 dX12_byteAt_2 rfl hk ?_
  refine bf_icmp_ge 17 dX12_byteAt_5 (by decide) (fun c1 => ?_) (fun c1 => ?_)
  · have hf := (if_pos c1).symm.trans hf
    refine bf_iconst (v := -1) dX12_byteAt_17 (by decide) ?_
    obtain rfl := Option.some.inj hf
    exact bf_iret dX12_byteAt_18 rfl (Nat.le_refl _) (Nat.le_refl _) ⟨rfl, rfl⟩
  · have hf := (if_neg c1).symm.trans hf
    refine bf_aload_n 0 dX12_byteAt_8 rfl rfl ?_
    refine fg_X12_21 dX12_byteAt_9 rfl hk ?_
    refine bf_iload_n 1 dX12_byteAt_12 rfl rfl ?_
    rcases Decidable.em (bf_ok a0 100) with c2 | c2
    · have hf := (if_pos c2).symm.trans hf
      refine bf_iald dX12_byteAt_13 (kr_12_4 hk) (by rw [(kl_12_4 hk)]; exact c2) ?_
      refine bf_goto 18 dX12_byteAt_14 (by decide) ?_
      obtain rfl := Option.some.inj hf
      exact bf_iret dX12_byteAt_18 rfl (Nat.le_refl _) (Nat.le_refl _) ⟨rfl, rfl⟩
    · exact absurd ((if_neg c2).symm.trans hf) (by simp)
def f_X12_digit (o : Nat) (a0 : Int32) (a1 : Int32) (a2 : Int32) (I : Nat → Nat → Int32) (L : Nat → Nat → Int64) : Option (Int32 × bf_St) :=
  ((f_X12_byteAt o (I o 6) I L).bind (fun r2 => ((f_X12_in (r2.1).toInt64 (((48 : Int32) + a1)).toInt64 (((48 : Int32) + a2)).toInt64 r2.2.1 r2.2.2).bind (fun r4 => (if r4.1 = 0 then (some ((0 : Int32), r4.2.1, r4.2.2)) else (if bf_ok a0 88 then (some ((1 : Int32), (bf_u (bf_u r4.2.1 (o + 5) a0.toNatClampNeg (r2.1 - (48 : Int32))) o 6 (((bf_u r4.2.1 (o + 5) a0.toNatClampNeg (r2.1 - (48 : Int32))) o 6) + (1 : Int32))), r4.2.2)) else none))))))
set_option maxRecDepth 100000 in
set_option maxHeartbeats 4000000 in
theorem ok_X12_digit {Γ : bf_Gm} {ad : Nat → Nat} {o : Nat} {a0 : Int32} {a1 : Int32} {a2 : Int32} {I : Nat → Nat → Int32} {L : Nat → Nat → Int64} (hk : bf_kd o = 12) {r : Int32 × bf_St} (hf : f_X12_digit o a0 a1 a2 I L = some r) : bf_Cn Γ 1 mu_X12_digit 0 0 [.ref (ad o), .int a0, .int a1, .int a2] (bf_S ad I L) (fun q h => q = some (.int r.1) ∧ h = bf_S ad r.2.1 r.2.2) := by
  refine bf_met rfl (Nat.le_of_ble_eq_true rfl) ?_
  unfold f_X12_digit at hf
  refine bf_aload_n 0 dX12_digit_0 rfl rfl ?_
  refine bf_aload_n 0 dX12_digit_1 rfl rfl ?_
  refine fg_X12_90 dX12_digit_2 rfl hk ?_
  obtain ⟨r2, e1, hf⟩ := bf_bind hf
  have hCe1 := ok_X12_byteAt (Γ := Γ) (ad := ad) hk e1
  refine cv_X12_93 0 dX12_digit_5 rfl ⟨Nat.le_of_ble_eq_true rfl, Nat.le_of_ble_eq_true rfl⟩ (Nat.le_of_ble_eq_true rfl) hk hCe1 ?_
  refine bf_istore (lv2 := [(4, .int _), (0, .ref _), (1, .int _), (2, .int _), (3, .int _)]) dX12_digit_8 (by decide) rfl ?_
  refine bf_iload 0 dX12_digit_10 rfl ?_
  refine bf_i2l dX12_digit_12 ?_
  refine bf_bipush (v := 48) dX12_digit_13 (by decide) ?_
  refine bf_iload_n 3 dX12_digit_15 rfl rfl ?_
  refine bf_iadd dX12_digit_16 ?_
  refine bf_i2l dX12_digit_17 ?_
  refine bf_bipush (v := 48) dX12_digit_18 (by decide) ?_
  refine bf_iload_n 4 dX12_digit_20 rfl rfl ?_
  refine bf_iadd dX12_digit_21 ?_
  refine bf_i2l dX12_digit_22 ?_
  obtain ⟨r4, e3, hf⟩ := bf_bind hf
  have hCe3 := ok_X12_in (Γ := Γ) (ad := ad)  e3
  refine cv_X12_61 0 dX12_digit_23 rfl ⟨Nat.le_of_ble_eq_true rfl, Nat.le_of_ble_eq_true rfl⟩ (Nat.le_of_ble_eq_true rfl) hCe3 ?_
  refine bf_if_ne 31 dX12_digit_26 (by decide) (fun c5 => ?_) (fun c5 => ?_)
  · have hf := (if_neg c5).symm.trans hf
    refine bf_aload_n 1 dX12_digit_31 rfl rfl ?_
    refine fg_X12_24 dX12_digit_32 rfl hk ?_
    refine bf_iload_n 2 dX12_digit_35 rfl rfl ?_
    refine bf_iload 0 dX12_digit_36 rfl ?_
    refine bf_bipush (v := 48) dX12_digit_38 (by decide) ?_
    refine bf_isub dX12_digit_40 ?_
    rcases Decidable.em (bf_ok a0 88) with c6 | c6
    · have hf := (if_pos c6).symm.trans hf
      refine bf_iast dX12_digit_41 (kr_12_7 hk) (by rw [(kl_12_7 hk)]; exact c6) ?_
      refine bf_aload_n 1 dX12_digit_42 rfl rfl ?_
      refine bf_dup dX12_digit_43 rfl ?_
      refine fg_X12_90 dX12_digit_44 rfl hk ?_
      refine bf_iconst (v := 1) dX12_digit_47 (by decide) ?_
      refine bf_iadd dX12_digit_48 ?_
      refine fp_X12_90 dX12_digit_49 rfl hk ?_
      refine bf_iconst (v := 1) dX12_digit_52 (by decide) ?_
      obtain rfl := Option.some.inj hf
      exact bf_zret dX12_digit_53 rfl rfl (Nat.le_refl _) (Nat.le_refl _) ⟨rfl, rfl⟩
    · exact absurd ((if_neg c6).symm.trans hf) (by simp)
  · have hf := (if_pos c5).symm.trans hf
    refine bf_iconst (v := 0) dX12_digit_29 (by decide) ?_
    obtain rfl := Option.some.inj hf
    exact bf_zret dX12_digit_30 rfl rfl (Nat.le_refl _) (Nat.le_refl _) ⟨rfl, rfl⟩
