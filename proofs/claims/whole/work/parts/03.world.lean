/-! the world: object numbers in the order in which the law makes them; kinds 0..12 are the classes of vwCl, 13 byte[], 14 int[], 15 long[], 16 Box[], 17 Clause[], 18 Tape[], 19 Wire[], 20 int[][] -/
abbrev bf_Gm : Type := Launch × va_G × (Nat → ClassId) × Nat
/-- n objects, their addresses, ints, longs, references -/
abbrev bf_Hs : Type := Nat × (Nat → Nat) × (Nat → Nat → Int32) × (Nat → Nat → Int64) × (Nat → Nat → Option Nat)
/-- a method: name, code, locals, what it answers -/
abbrev bf_Mt : Type := MethodName × ByteArray × Nat × Option FieldType
def bf_kl : List Nat := [11, 7, 3, 16, 0, 0, 0, 0, 0, 0, 19, 10, 14, 10, 14, 10, 14, 10, 14, 10, 14, 10, 14, 10, 14, 10, 14, 5, 14, 14, 14, 5, 14, 14, 14, 5, 14, 14, 14, 7, 3, 16, 0, 0, 0, 0, 0, 0, 19, 10, 14, 10, 14, 10, 14, 10, 14, 10, 14, 10, 14, 10, 14, 10, 14, 5, 14, 14, 14, 5, 14, 14, 14, 5, 14, 14, 14, 3, 16, 0, 0, 0, 0, 0, 0, 19, 10, 14, 10, 14, 10, 14, 10, 14, 10, 14, 10, 14, 10, 14, 10, 14, 6, 14, 14, 14, 14, 14, 2, 14, 4, 2, 14, 14, 20, 14, 14, 14, 14, 14, 14, 14, 14, 14, 9, 13, 17, 1, 14, 1, 14, 1, 14, 1, 14, 1, 14, 1, 14, 1, 14, 1, 14, 18, 8, 15, 8, 15, 8, 15, 8, 15, 8, 15, 8, 15, 12, 14, 14, 14, 14, 14, 15, 15, 14, 14, 14, 14, 14, 14, 14, 14, 15]
def bf_ll : List Nat := [0, 0, 0, 6, 0, 0, 0, 0, 0, 0, 8, 0, 99, 0, 99, 0, 99, 0, 99, 0, 99, 0, 99, 0, 99, 0, 99, 0, 5, 5, 5, 0, 10, 10, 10, 0, 8, 8, 8, 0, 0, 6, 0, 0, 0, 0, 0, 0, 8, 0, 99, 0, 99, 0, 99, 0, 99, 0, 99, 0, 99, 0, 99, 0, 99, 0, 5, 5, 5, 0, 10, 10, 10, 0, 8, 8, 8, 0, 6, 0, 0, 0, 0, 0, 0, 8, 0, 99, 0, 99, 0, 99, 0, 99, 0, 99, 0, 99, 0, 99, 0, 99, 0, 6, 360, 8, 6, 6, 0, 8, 0, 0, 8, 6, 9, 8, 8, 8, 8, 8, 8, 8, 8, 8, 0, 100, 8, 0, 6, 0, 6, 0, 6, 0, 6, 0, 6, 0, 6, 0, 6, 0, 6, 6, 0, 60, 0, 60, 0, 60, 0, 60, 0, 60, 0, 60, 0, 914, 914, 914, 100, 88, 6, 6, 6, 6, 8, 914, 72, 914, 6, 6, 360]
def bf_fk : List (List Nat) := [[0, 0, 0], [0, 0, 0, 0, 0, 1], [1], [1, 8, 0, 0], [1, 3, 4, 0, 0], [0, 1, 2, 3], [0, 0, 0, 1, 2, 0, 3, 4, 5, 6], [1, 26, 30, 34], [0, 0, 1], [0, 0, 2, 1, 0], [0, 0, 0, 0, 0, 0, 0, 1], [1, 39, 0, 77, 102, 110, 124, 143], [1, 2, 3, 0, 4, 0, 0, 5, 0, 0, 0, 0, 0, 0, 6, 7, 8, 9, 10, 0, 0, 11, 12, 0, 13, 14, 15, 16]]
def bf_kd (o : Nat) : Nat := bf_kl.getD o 99
def bf_le (o : Nat) : Nat := bf_ll.getD o 0
def bf_fo (c i : Nat) : Nat := (bf_fk.getD c []).getD i 0
def bf_nf (c : Nat) : Nat := (bf_fk.getD c []).length
def bf_fs (ad : Nat → Nat) (I : Nat → Nat → Int32) (Rf : Nat → Nat → Option Nat) (o c : Nat) : List Value := (List.range (bf_nf c)).map (fun i => if bf_fo c i = 0 then .int (I o i) else va_rf ((Rf o i).map ad))
def bf_ce (cy : Nat → ClassId) (h : bf_Hs) (o : Nat) : va_E :=
  if bf_kd o < 13 then .inr (bf_kd o, bf_fs h.2.1 h.2.2.1 h.2.2.2.2 o (bf_kd o))
  else if bf_kd o < 15 then .inl (cy (bf_kd o), bf_le o, .inl (h.2.2.1 o))
  else if bf_kd o = 15 then .inl (cy (bf_kd o), bf_le o, .inr (.inl (h.2.2.2.1 o)))
  else .inl (cy (bf_kd o), bf_le o, .inr (.inr (.inr (.inr (fun j => (h.2.2.2.2 o j).map h.2.1)))))
def bf_wl (cy : Nat → ClassId) (h : bf_Hs) : va_W := (List.range h.1).map (fun o => (h.2.1 o, bf_ce cy h o))
theorem bf_wl_at {cy : Nat → ClassId} {h : bf_Hs} {o : Nat} (ho : o < h.1) : (bf_wl cy h)[o]? = some (h.2.1 o, bf_ce cy h o) := by
  unfold bf_wl
  rw [List.getElem?_map, List.getElem?_range ho]
  rfl
theorem bf_ce_obj {cy : Nat → ClassId} {h : bf_Hs} {o c : Nat} (hk : bf_kd o = c) (hc : c < 13) : bf_ce cy h o = .inr (c, bf_fs h.2.1 h.2.2.1 h.2.2.2.2 o c) := by
  unfold bf_ce
  rw [hk, if_pos hc]
theorem bf_ce_int {cy : Nat → ClassId} {h : bf_Hs} {o : Nat} (hk : bf_kd o = 14) : bf_ce cy h o = .inl (cy 14, bf_le o, .inl (h.2.2.1 o)) := by
  unfold bf_ce
  rw [hk, if_neg (by decide), if_pos (by decide)]
theorem bf_ce_byte {cy : Nat → ClassId} {h : bf_Hs} {o : Nat} (hk : bf_kd o = 13) : bf_ce cy h o = .inl (cy 13, bf_le o, .inl (h.2.2.1 o)) := by
  unfold bf_ce
  rw [hk, if_neg (by decide), if_pos (by decide)]
theorem bf_ce_long {cy : Nat → ClassId} {h : bf_Hs} {o : Nat} (hk : bf_kd o = 15) : bf_ce cy h o = .inl (cy 15, bf_le o, .inr (.inl (h.2.2.2.1 o))) := by
  unfold bf_ce
  rw [hk, if_neg (by decide), if_neg (by decide), if_pos rfl]
theorem bf_ce_ref {cy : Nat → ClassId} {h : bf_Hs} {o c : Nat} (hk : bf_kd o = c) (hc : 15 < c) : bf_ce cy h o = .inl (cy c, bf_le o, .inr (.inr (.inr (.inr (fun j => (h.2.2.2.2 o j).map h.2.1))))) := by
  unfold bf_ce
  rw [hk, if_neg (by omega), if_neg (by omega), if_neg (by omega)]
theorem bf_fs_at {ad : Nat → Nat} {I : Nat → Nat → Int32} {Rf : Nat → Nat → Option Nat} {o c i : Nat} (hi : i < bf_nf c) : (bf_fs ad I Rf o c)[i]? = some (if bf_fo c i = 0 then .int (I o i) else va_rf ((Rf o i).map ad)) := by
  unfold bf_fs
  rw [List.getElem?_map, List.getElem?_range hi]
  rfl
theorem bf_fs_len {ad : Nat → Nat} {I : Nat → Nat → Int32} {Rf : Nat → Nat → Option Nat} {o c : Nat} : (bf_fs ad I Rf o c).length = bf_nf c := by
  unfold bf_fs
  rw [List.length_map, List.length_range]
/-- one slot of one object -/
def bf_u {α : Type} (f : Nat → Nat → α) (o i : Nat) (v : α) : Nat → Nat → α := fun a => if a = o then va_up (f o) i v else f a
theorem bf_u_o {α : Type} {f : Nat → Nat → α} {o i : Nat} {v : α} : bf_u f o i v o = va_up (f o) i v := if_pos rfl
theorem bf_u_ne {α : Type} {f : Nat → Nat → α} {o i a : Nat} {v : α} (h : a ≠ o) : bf_u f o i v a = f a := if_neg h
theorem bf_u_at {α : Type} {f : Nat → Nat → α} {o i : Nat} {v : α} : bf_u f o i v o i = v := by rw [bf_u_o]; exact if_pos rfl
theorem bf_u_ni {α : Type} {f : Nat → Nat → α} {o i j : Nat} {v : α} (h : j ≠ i) : bf_u f o i v o j = f o j := by rw [bf_u_o]; exact if_neg h
theorem bf_fs_set {ad : Nat → Nat} {I : Nat → Nat → Int32} {Rf : Nat → Nat → Option Nat} {o c i : Nat} {v : Int32} (hi : i < bf_nf c) (hf : bf_fo c i = 0) : (bf_fs ad I Rf o c).set i (.int v) = bf_fs ad (bf_u I o i v) Rf o c := by
  apply List.ext_getElem?
  intro j
  by_cases hj : j < bf_nf c
  · rw [bf_fs_at hj]
    by_cases hij : i = j
    · subst hij
      rw [List.getElem?_set_self (by rw [bf_fs_len]; exact hi), if_pos hf, bf_u_at]
    · rw [List.getElem?_set_ne hij, bf_fs_at hj, bf_u_ni (fun q => hij q.symm)]
  · rw [List.getElem?_eq_none (by rw [List.length_set, bf_fs_len]; omega), List.getElem?_eq_none (by rw [bf_fs_len]; omega)]
theorem bf_fs_ne {ad : Nat → Nat} {I : Nat → Nat → Int32} {Rf : Nat → Nat → Option Nat} {o q i c : Nat} {v : Int32} (h : q ≠ o) : bf_fs ad (bf_u I o i v) Rf q c = bf_fs ad I Rf q c := by
  unfold bf_fs
  rw [bf_u_ne h]
theorem bf_fs_setR {ad : Nat → Nat} {I : Nat → Nat → Int32} {Rf : Nat → Nat → Option Nat} {o c i t : Nat} (hi : i < bf_nf c) (hf : bf_fo c i ≠ 0) : (bf_fs ad I Rf o c).set i (.ref (ad t)) = bf_fs ad I (bf_u Rf o i (some t)) o c := by
  apply List.ext_getElem?
  intro j
  by_cases hj : j < bf_nf c
  · rw [bf_fs_at hj]
    by_cases hij : i = j
    · subst hij
      rw [List.getElem?_set_self (by rw [bf_fs_len]; exact hi), if_neg hf, bf_u_at]
      rfl
    · rw [List.getElem?_set_ne hij, bf_fs_at hj, bf_u_ni (fun q => hij q.symm)]
  · rw [List.getElem?_eq_none (by rw [List.length_set, bf_fs_len]; omega), List.getElem?_eq_none (by rw [bf_fs_len]; omega)]
theorem bf_fs_neR {ad : Nat → Nat} {I : Nat → Nat → Int32} {Rf : Nat → Nat → Option Nat} {o q i c : Nat} {v : Option Nat} (h : q ≠ o) : bf_fs ad I (bf_u Rf o i v) q c = bf_fs ad I Rf q c := by
  unfold bf_fs
  rw [bf_u_ne h]
theorem bf_wl_set {cy : Nat → ClassId} {h h2 : bf_Hs} {o : Nat} {e : va_E} (hn : h2.1 = h.1) (ha : h2.2.1 = h.2.1) (ho : o < h.1) (he : e = bf_ce cy h2 o) (hne : ∀ q, q ≠ o → bf_ce cy h2 q = bf_ce cy h q) : (bf_wl cy h).set o (h.2.1 o, e) = bf_wl cy h2 := by
  apply List.ext_getElem?
  intro j
  have hl : (bf_wl cy h).length = h.1 := by unfold bf_wl; rw [List.length_map, List.length_range]
  have hl2 : (bf_wl cy h2).length = h.1 := by unfold bf_wl; rw [List.length_map, List.length_range, hn]
  by_cases hj : j < h.1
  · by_cases hij : o = j
    · subst hij
      rw [List.getElem?_set_self (by rw [hl]; exact hj), bf_wl_at (by rw [hn]; exact hj), he, ha]
    · rw [List.getElem?_set_ne hij, bf_wl_at hj, bf_wl_at (by rw [hn]; exact hj), ha, hne j (fun q => hij q.symm)]
  · rw [List.getElem?_eq_none (by rw [List.length_set, hl]; omega), List.getElem?_eq_none (by rw [hl2]; omega)]
theorem bf_wl_setI {cy : Nat → ClassId} {n : Nat} {ad : Nat → Nat} {I : Nat → Nat → Int32} {L : Nat → Nat → Int64} {Rf : Nat → Nat → Option Nat} {o c i : Nat} {v : Int32} (ho : o < n) (hk : bf_kd o = c) (hc : c < 13) (hi : i < bf_nf c) (hf : bf_fo c i = 0) :
    (bf_wl cy (n, ad, I, L, Rf)).set o (ad o, .inr (c, (bf_fs ad I Rf o c).set i (.int v))) = bf_wl cy (n, ad, bf_u I o i v, L, Rf) := by
  refine bf_wl_set (h := (n, ad, I, L, Rf)) (h2 := (n, ad, bf_u I o i v, L, Rf)) rfl rfl ho ?_ ?_
  · rw [bf_ce_obj hk hc, bf_fs_set hi hf]
  · intro q hq
    unfold bf_ce
    dsimp only
    rw [bf_fs_ne hq, bf_u_ne hq]
theorem bf_wl_setR {cy : Nat → ClassId} {n : Nat} {ad : Nat → Nat} {I : Nat → Nat → Int32} {L : Nat → Nat → Int64} {Rf : Nat → Nat → Option Nat} {o c i t : Nat} (ho : o < n) (hk : bf_kd o = c) (hc : c < 13) (hi : i < bf_nf c) (hf : bf_fo c i ≠ 0) :
    (bf_wl cy (n, ad, I, L, Rf)).set o (ad o, .inr (c, (bf_fs ad I Rf o c).set i (.ref (ad t)))) = bf_wl cy (n, ad, I, L, bf_u Rf o i (some t)) := by
  refine bf_wl_set (h := (n, ad, I, L, Rf)) (h2 := (n, ad, I, L, bf_u Rf o i (some t))) rfl rfl ho ?_ ?_
  · rw [bf_ce_obj hk hc, bf_fs_setR hi hf]
  · intro q hq
    unfold bf_ce
    dsimp only
    rw [bf_fs_neR hq, bf_u_ne hq]
theorem bf_wl_int {cy : Nat → ClassId} {n : Nat} {ad : Nat → Nat} {I : Nat → Nat → Int32} {L : Nat → Nat → Int64} {Rf : Nat → Nat → Option Nat} {o i : Nat} {v : Int32} (ho : o < n) (hk : bf_kd o = 14) :
    (bf_wl cy (n, ad, I, L, Rf)).set o (ad o, .inl (cy 14, bf_le o, .inl (upd (I o) i v))) = bf_wl cy (n, ad, bf_u I o i v, L, Rf) := by
  refine bf_wl_set (h := (n, ad, I, L, Rf)) (h2 := (n, ad, bf_u I o i v, L, Rf)) rfl rfl ho ?_ ?_
  · rw [bf_ce_int hk]
    dsimp only
    rw [bf_u_o]
    rfl
  · intro q hq
    unfold bf_ce
    dsimp only
    rw [bf_fs_ne hq, bf_u_ne hq]
theorem bf_wl_byte {cy : Nat → ClassId} {n : Nat} {ad : Nat → Nat} {I : Nat → Nat → Int32} {L : Nat → Nat → Int64} {Rf : Nat → Nat → Option Nat} {o i : Nat} {v : Int32} (ho : o < n) (hk : bf_kd o = 13) :
    (bf_wl cy (n, ad, I, L, Rf)).set o (ad o, .inl (cy 13, bf_le o, .inl (upd (I o) i v))) = bf_wl cy (n, ad, bf_u I o i v, L, Rf) := by
  refine bf_wl_set (h := (n, ad, I, L, Rf)) (h2 := (n, ad, bf_u I o i v, L, Rf)) rfl rfl ho ?_ ?_
  · rw [bf_ce_byte hk]
    dsimp only
    rw [bf_u_o]
    rfl
  · intro q hq
    unfold bf_ce
    dsimp only
    rw [bf_fs_ne hq, bf_u_ne hq]
theorem bf_wl_long {cy : Nat → ClassId} {n : Nat} {ad : Nat → Nat} {I : Nat → Nat → Int32} {L : Nat → Nat → Int64} {Rf : Nat → Nat → Option Nat} {o i : Nat} {v : Int64} (ho : o < n) (hk : bf_kd o = 15) :
    (bf_wl cy (n, ad, I, L, Rf)).set o (ad o, .inl (cy 15, bf_le o, .inr (.inl (vp_updL (L o) i v)))) = bf_wl cy (n, ad, I, bf_u L o i v, Rf) := by
  refine bf_wl_set (h := (n, ad, I, L, Rf)) (h2 := (n, ad, I, bf_u L o i v, Rf)) rfl rfl ho ?_ ?_
  · rw [bf_ce_long hk]
    dsimp only
    rw [bf_u_o]
    rfl
  · intro q hq
    unfold bf_ce
    dsimp only
    rw [bf_u_ne hq]
/-- a row of an object, whole -/
def bf_w {α : Type} (f : Nat → Nat → α) (o : Nat) (r : Nat → α) : Nat → Nat → α := fun a => if a = o then r else f a
theorem bf_w_o {α : Type} {f : Nat → Nat → α} {o : Nat} {r : Nat → α} : bf_w f o r o = r := if_pos rfl
theorem bf_w_ne {α : Type} {f : Nat → Nat → α} {o a : Nat} {r : Nat → α} (h : a ≠ o) : bf_w f o r a = f a := if_neg h
theorem bf_wl_intW {cy : Nat → ClassId} {n : Nat} {ad : Nat → Nat} {I : Nat → Nat → Int32} {L : Nat → Nat → Int64} {Rf : Nat → Nat → Option Nat} {o : Nat} {r : Nat → Int32} (ho : o < n) (hk : bf_kd o = 14) :
    (bf_wl cy (n, ad, I, L, Rf)).set o (ad o, .inl (cy 14, bf_le o, .inl r)) = bf_wl cy (n, ad, bf_w I o r, L, Rf) := by
  refine bf_wl_set (h := (n, ad, I, L, Rf)) (h2 := (n, ad, bf_w I o r, L, Rf)) rfl rfl ho ?_ ?_
  · rw [bf_ce_int hk]
    dsimp only
    rw [bf_w_o]
  · intro q hq
    unfold bf_ce bf_fs
    dsimp only
    rw [bf_w_ne hq]
theorem bf_wl_longW {cy : Nat → ClassId} {n : Nat} {ad : Nat → Nat} {I : Nat → Nat → Int32} {L : Nat → Nat → Int64} {Rf : Nat → Nat → Option Nat} {o : Nat} {r : Nat → Int64} (ho : o < n) (hk : bf_kd o = 15) :
    (bf_wl cy (n, ad, I, L, Rf)).set o (ad o, .inl (cy 15, bf_le o, .inr (.inl r))) = bf_wl cy (n, ad, I, bf_w L o r, Rf) := by
  refine bf_wl_set (h := (n, ad, I, L, Rf)) (h2 := (n, ad, I, bf_w L o r, Rf)) rfl rfl ho ?_ ?_
  · rw [bf_ce_long hk]
    dsimp only
    rw [bf_w_o]
  · intro q hq
    unfold bf_ce
    dsimp only
    rw [bf_w_ne hq]
/-- the words -/
def bf_T : List Cond := lw_tbl.filter goodWord
theorem bf_in {w : Cond} (h : w ∈ lw_tbl) (g : goodWord w = true) : w ∈ bf_T := List.mem_filter.mpr ⟨h, g⟩
theorem bf_good {ws : List Cond} (h : ∀ w ∈ ws, w ∈ bf_T) : GoodIn bf_T ws := fun w hw => ⟨h w hw, good_of_word (List.mem_filter.mp (h w hw)).2⟩
def bf_ty (cy : Nat → ClassId) : List (ClassId × FieldType) := [(cy 13, .byte), (cy 14, .int), (cy 15, .long), (cy 16, .object RX0), (cy 17, .object RX1), (cy 18, .object RX8), (cy 19, .object RX10), (cy 20, .array .int)]
def bf_A (Γ : bf_Gm) : Nat → Prop := fun q => Γ.2.2.2 ≤ q
def bf_nest : Cond := .methodLinkNest RX6 126 yX11_greatestDivisor RX11
/-- what the tables say of int[][] -/
def bf_AOA (U : State) : Prop := (Cond.arrayOver (.array .int)).before #[] U = true
theorem bf_AOA.moved {u U : State} (hvm : u.vm.Alike U.vm) (h : bf_AOA u) : bf_AOA U := by
  unfold bf_AOA Cond.before Cond.holds at h ⊢
  simp only [Cond.value, beq_iff_eq] at h ⊢
  cases hc : u.vm.findClass (FieldType.array .int).toString with
  | none => simp [hc] at h
  | some comp =>
    simp only [hc, Option.bind_some, Option.bind_eq_some_iff, Option.map_eq_some_iff] at h
    obtain ⟨c, hi, k, hk, hb⟩ := h
    obtain ⟨k2, hk2, he⟩ := hvm.2.2 _ _ hk
    have hi2 := (Vm.Alike.findIdx?_eq hvm _ (fun _ => rfl)).trans hi
    have f1 : U.vm.findClass (FieldType.array .int).toString = some comp := by rw [hvm.findClass]; exact hc
    have f2 : U.vm.findClass ("[" ++ (FieldType.array .int).toString) = u.vm.findClass ("[" ++ (FieldType.array .int).toString) := hvm.findClass _ _
    rw [f1, Option.bind_some]
    refine Option.bind_eq_some_iff.mpr ⟨c, hi2, Option.map_eq_some_iff.mpr ⟨k2, hk2, ?_⟩⟩
    rw [f2, he]
    exact hb
/-- what the tables say at a state -/
def bf_K (Γ : bf_Gm) (U : State) : Prop := va_K Γ.2.1 vwCl (bf_ty Γ.2.2.1) U ∧ va_Nw bf_nest U ∧ va_AO RX0 U ∧ va_AO RX1 U ∧ va_AO RX8 U ∧ va_AO RX10 U ∧ bf_AOA U
theorem bf_K.warm {Γ : bf_Gm} {s U : State} (hW : s.WarmedH U.vm) (h : bf_K Γ s) : bf_K Γ U := ⟨h.1.moved hW.alike, va_Nw.warmM hW h.2.1, h.2.2.1.moved hW.alike, h.2.2.2.1.moved hW.alike, h.2.2.2.2.1.moved hW.alike, h.2.2.2.2.2.1.moved hW.alike, h.2.2.2.2.2.2.moved hW.alike⟩
theorem bf_K.same {Γ : bf_Gm} {u U : State} (hv : u.vm = U.vm) (h : bf_K Γ u) : bf_K Γ U := by
  have ha : u.vm.Alike U.vm := by rw [hv]; exact Vm.Alike.refl U.vm
  exact ⟨h.1.moved ha, va_Nw.same rfl hv h.2.1, h.2.2.1.moved ha, h.2.2.2.1.moved ha, h.2.2.2.2.1.moved ha, h.2.2.2.2.2.1.moved ha, h.2.2.2.2.2.2.moved ha⟩
/-- the heap holds the state -/
def bf_H (Γ : bf_Gm) (h : bf_Hs) (H : Heap) : Prop := va_P Γ.2.1 vwCl (bf_wl Γ.2.2.1 h) H ∧ va_D (bf_A Γ) (bf_wl Γ.2.2.1 h)
def bf_Pc (Γ : bf_Gm) (av : List Value) (h : bf_Hs) : Array Value → State → Prop := va_Pc av (fun U => bf_K Γ U ∧ Γ.2.2.2 ≤ U.heap.size ∧ bf_H Γ h U.heap)
def bf_QC (Γ : bf_Gm) (Q : Option Value → bf_Hs → Prop) : Array Value → State → Outcome → State → Prop := fun _ st oc t => (∃ (r : Option Value) (h : bf_Hs), oc = .returned r ∧ Q r h ∧ bf_H Γ h t.heap) ∧ va_F (bf_A Γ) st t
def bf_rm (d mc ms : Nat) : Room := { frames := d, cells := mc, slots := ms, locals := 64 * d }
/-- a method's contract at these arguments and this state -/
def bf_Cn (Γ : bf_Gm) (d : Nat) (μ : bf_Mt) (mc ms : Nat) (av : List Value) (h : bf_Hs) (Q : Option Value → bf_Hs → Prop) : Prop := Met Γ.1 μ.1 (.code μ.1 μ.2.1 μ.2.2.1 μ.2.2.2 :: bf_T) (bf_rm d mc ms) (bf_Pc Γ av h) (bf_QC Γ Q) mc ms (bf_A Γ)
def bf_Sd (Γ : bf_Gm) (μ : bf_Mt) (p : Program) (s : State) (m : MethodId) (args : Array Value) (meth : Method) (c : Code) : Prop := p.tables.exec = Jvm.exec ∧ c.code = μ.2.1 ∧ meth.sig.returnType = μ.2.2.2 ∧ c.maxLocals = μ.2.2.1 ∧ s.vm.findClass μ.1.cls = some m.cls ∧ (∀ w ∈ bf_T, w.before args s = true) ∧ meth.locks = false ∧ meth.name = μ.1.name ∧ bf_K Γ s ∧ Γ.2.2.2 ≤ s.heap.size
/-- the machine, at this place of a method with these locals, this stack, this state, comes to Z -/
def bf_Go (Γ : bf_Gm) (R : Room) (μ : bf_Mt) (E : Array Value → State → Prop) (Z : List Frame → Array Value → State → State → Prop) (k : Nat × Nat) (pc : Nat) (lv : List (Nat × Value)) (st : List Value) (h : bf_Hs) : Prop :=
  ∀ (p : Program) (e : Env) (s : State) (m : MethodId) (args : Array Value) (below : List Frame) (meth : Method) (c : Code) (H : Heap) (locs : List Loc) (ls : Array Slot), bf_Sd Γ μ p s m args meth c → E args s → va_P Γ.2.1 vwCl (bf_wl Γ.2.2.1 h) H → va_D (bf_A Γ) (bf_wl Γ.2.2.1 h) → va_S (bf_A Γ) s.heap H locs → lv_has ls μ.2.2.1 lv →
    W p Γ.1 e R s m args below meth c H locs k.1 k.2 (Z below args s) (F0 m pc ls st)
def bf_Z (Γ : bf_Gm) (Q : Option Value → bf_Hs → Prop) (mc ms : Nat) : List Frame → Array Value → State → State → Prop := fun below args s => MQ below (bf_QC Γ Q) args s mc ms (bf_A Γ)
abbrev bf_E0 : Array Value → State → Prop := fun _ _ => True
theorem bf_met {Γ : bf_Gm} {d : Nat} {μ : bf_Mt} {mc ms : Nat} {av : List Value} {h : bf_Hs} {Q : Option Value → bf_Hs → Prop} (hpl : plainName μ.1.cls = true) (hlen : (lg_sl av).length ≤ μ.2.2.1) (hgo : bf_Go Γ (bf_rm d mc ms) μ bf_E0 (bf_Z Γ Q mc ms) (0, 0) 0 (lv_args 0 av) [] h) : bf_Cn Γ d μ mc ms av h Q := by
  refine Met.ofW (cc := μ.2.1) (maxL := μ.2.2.1) (ret := μ.2.2.2) hpl rfl ?_
  intro p e s m args below meth c s₁ B hml hv
  obtain ⟨rfl, hK, hbs, hP, hD⟩ := hv
  rw [lg_entry_eq]
  have hts0 := atoms_spec (ws := .code μ.1 μ.2.1 μ.2.2.1 μ.2.2.2 :: bf_T) B.pre
  exact hgo p e s m _ below meth c s.heap [] _ ⟨B.exec, B.bytes, B.returns, hml, findClass_of_methodNamed B.named, fun w hw => hts0 w (List.mem_cons_of_mem _ hw), B.notSynchronized, (name_of_methodNamed B.named B.method).1, hK, hbs⟩ trivial hP hD va_S.rf (lv_entry av hlen)
section BFX
variable {Γ : bf_Gm} {R : Room} {μ : bf_Mt} {E : Array Value → State → Prop} {Z : List Frame → Array Value → State → State → Prop} {k : Nat × Nat} {pc : Nat} {lv : List (Nat × Value)} {st : List Value} {h : bf_Hs}
theorem bf_blind {av : List Value} : FrameBlind (bf_Pc Γ av h) := fun a U g mk q => by
  obtain ⟨q0, q1, q2, q3⟩ := q
  exact ⟨q0, q1.same rfl, q2, q3⟩
/-- a call of an object's method -/
theorem bf_callV {ν : bf_Mt} {d mc ms idx o n : Nat} {As rest : List Value} {T : u_T} {N : Nat} {Qv : Option Value → bf_Hs → Prop} (hd : decode μ.2.1 pc = .ok (.invokevirtual idx, 3)) (hst : st = As.reverse ++ .ref (h.2.1 o) :: rest) (hl1 : Cond.methodLink μ.1.cls idx ν.1 ∈ bf_T) (hl2 : Cond.instanceMethod ν.1 ∈ bf_T) (hl3 : Cond.selects ν.1.cls ν.1 ν.1 ∈ bf_T) (hl4 : Cond.initialized ν.1.cls ∈ bf_T) (hl5 : Cond.code ν.1 ν.2.1 ν.2.2.1 ν.2.2.2 ∈ bf_T)
    (hds : ν.1.cls = ν.1.cls ∧ ν.1.cls ≠ "java/lang/invoke/MethodHandle" ∧ ν.1.cls ≠ "java/lang/invoke/VarHandle" ∧ (parseMethodDescriptor ν.1.desc).map (fun d => d.parameters.length) = some As.length) (hR : d + 1 ≤ R.frames ∧ 8 + (ν.2.2.1 + 11) + 64 * d ≤ R.locals) (hcs : k.1 + mc ≤ R.cells ∧ k.2 + ms ≤ R.slots) (hw : (rest.map fun v => v.category).sum ≤ 8)
    (ho : o < h.1) (hk : bf_kd o = n) (hn : n < 13) (hc : vwCl[n]? = some (ν.1.cls, T, N)) (hC : bf_Cn Γ d ν mc ms (.ref (h.2.1 o) :: As) h Qv)
    (kk : ∀ (r : Option Value) (h2 : bf_Hs), Qv r h2 → bf_Go Γ R μ E Z (k.1 + mc, k.2 + ms) (pc + 3) lv (r.toList ++ rest) h2) : bf_Go Γ R μ E Z k pc lv st h := by
  intro p e s m args below meth c H locs ls S hE hP hD hS hl
  subst hst
  obtain ⟨hx, hb, hr, hml, hown, hts, hlk, hnm, hK, hbs⟩ := S
  have cw : CallW R s args μ.1.cls ν.1.cls idx ν.1 ν.2.1 ν.2.2.1 ν.2.2.2 (.code ν.1 ν.2.1 ν.2.2.1 ν.2.2.2 :: bf_T) (bf_rm d mc ms) mc ms As.length := cwV As.length hts (bf_good (fun w h9 => by
    rcases List.mem_append.mp h9 with h9 | h9
    · rcases List.mem_cons.mp h9 with rfl | h9
      · exact hl1
      · rcases List.mem_cons.mp h9 with rfl | h9
        · exact hl2
        · rcases List.mem_cons.mp h9 with rfl | h9
          · exact hl3
          · rcases List.mem_cons.mp h9 with rfl | h9
            · exact hl4
            · cases h9
    · rcases List.mem_cons.mp h9 with rfl | h9
      · exact hl5
      · exact h9)) rfl rfl rfl hds hR
  have he := bf_wl_at (cy := Γ.2.2.1) (h := h) ho
  rw [bf_ce_obj hk hn] at he
  have hrun := va_runV (p := p) (l := Γ.1) (e := e) (R := R) (below := below) (meth := meth) (locs := locs) (cells := k.1) (slots := k.2) (b := h.2.1 o) (As := As) (rest := rest) (g := F0 m pc ls (As.reverse ++ .ref (h.2.1 o) :: rest)) ⟨hx, hb, hml, hown, hts⟩ hC cw ⟨bf_blind, va_recv hK.1 hP hc he, fun U hU hW => ⟨rfl, hK.warm hW, by rw [hU]; exact Nat.le_trans hbs hS.1, by rw [hU]; exact ⟨hP, hD⟩⟩⟩ rfl rfl hl.1 rfl (lv_room hw) hd hcs
  intro T0 hT X
  obtain ⟨v, st₀, t, T', L, h0, X', hL, e1, e2, ⟨⟨r, h2, hv, hp, hP2, hD2⟩, hz, hkp⟩, stp⟩ := hrun T0 hT X
  cases hv
  rw [h0] at hz hkp
  obtain ⟨t2, a1, b1⟩ := kk _ h2 hp p e s m args below meth c T'.heap (locs ++ L) ls ⟨hx, hb, hr, hml, hown, hts, hlk, hnm, hK, hbs⟩ hE (by rw [e1]; exact hP2) hD2
    ⟨Nat.le_trans hS.1 (by rw [e1]; exact hz), fun q g1 g2 => by rw [e1, hkp q (Nat.lt_of_lt_of_le g1 hS.1) g2]; exact hS.2.1 q g1 g2, fun q hq => by
      rcases List.mem_append.mp hq with g | g
      · exact hS.2.2 q g
      · exact hL q g⟩ hl T' rfl X'
  exact ⟨t2, stp t2 a1, b1⟩
/-- a call of a static method of one's own class -/
theorem bf_callS {ν : bf_Mt} {d mc ms idx : Nat} {As rest : List Value} {Qv : Option Value → bf_Hs → Prop} (hd : decode μ.2.1 pc = .ok (.invokestatic idx, 3)) (hst : st = As.reverse ++ rest) (hl1 : Cond.methodLink μ.1.cls idx ν.1 ∈ bf_T) (hl2 : Cond.static ν.1 ∈ bf_T) (hl4 : Cond.initialized ν.1.cls ∈ bf_T) (hl5 : Cond.code ν.1 ν.2.1 ν.2.2.1 ν.2.2.2 ∈ bf_T)
    (hds : ν.1.cls ≠ "java/lang/invoke/MethodHandle" ∧ ν.1.cls ≠ "java/lang/invoke/VarHandle" ∧ (parseMethodDescriptor ν.1.desc).map (fun d => d.parameters.length) = some As.length) (hR : d + 1 ≤ R.frames ∧ 8 + (ν.2.2.1 + 11) + 64 * d ≤ R.locals) (hcs : k.1 + mc ≤ R.cells ∧ k.2 + ms ≤ R.slots) (hw : (rest.map fun v => v.category).sum ≤ 8)
    (hC : bf_Cn Γ d ν mc ms As h Qv)
    (kk : ∀ (r : Option Value) (h2 : bf_Hs), Qv r h2 → bf_Go Γ R μ E Z (k.1 + mc, k.2 + ms) (pc + 3) lv (r.toList ++ rest) h2) : bf_Go Γ R μ E Z k pc lv st h := by
  intro p e s m args below meth c H locs ls S hE hP hD hS hl
  subst hst
  obtain ⟨hx, hb, hr, hml, hown, hts, hlk, hnm, hK, hbs⟩ := S
  have cb : CallB R s args μ.1.cls idx ν.1 ν.2.1 ν.2.2.1 ν.2.2.2 (.code ν.1 ν.2.1 ν.2.2.1 ν.2.2.2 :: bf_T) (bf_rm d mc ms) mc ms As.length := callB_of As.length hts (bf_good (fun w h9 => by
    rcases List.mem_cons.mp h9 with rfl | h9
    · exact hl5
    · exact h9)) rfl rfl rfl (hts _ hl4) (hts _ hl1) hds hR
  have hrun := va_runS (p := p) (l := Γ.1) (e := e) (R := R) (below := below) (meth := meth) (locs := locs) (cells := k.1) (slots := k.2) (As := As) (rest := rest) (g := F0 m pc ls (As.reverse ++ rest)) ⟨hx, hb, hml, hown, hts⟩ hC ⟨cb, hts _ hl2⟩ ⟨bf_blind, fun U hU hW => ⟨rfl, hK.warm hW, by rw [hU]; exact Nat.le_trans hbs hS.1, by rw [hU]; exact ⟨hP, hD⟩⟩⟩ rfl rfl hl.1 rfl (lv_room hw) hd hcs
  intro T0 hT X
  obtain ⟨v, st₀, t, T', L, h0, X', hL, e1, e2, ⟨⟨r, h2, hv, hp, hP2, hD2⟩, hz, hkp⟩, stp⟩ := hrun T0 hT X
  cases hv
  rw [h0] at hz hkp
  obtain ⟨t2, a1, b1⟩ := kk _ h2 hp p e s m args below meth c T'.heap (locs ++ L) ls ⟨hx, hb, hr, hml, hown, hts, hlk, hnm, hK, hbs⟩ hE (by rw [e1]; exact hP2) hD2
    ⟨Nat.le_trans hS.1 (by rw [e1]; exact hz), fun q g1 g2 => by rw [e1, hkp q (Nat.lt_of_lt_of_le g1 hS.1) g2]; exact hS.2.1 q g1 g2, fun q hq => by
      rcases List.mem_append.mp hq with g | g
      · exact hS.2.2 q g
      · exact hL q g⟩ hl T' rfl X'
  exact ⟨t2, stp t2 a1, b1⟩
/-- the call of BoxFlow.greatestDivisor out of BoxFlow$Schedule, its nest mate -/
theorem bf_callN {ν : bf_Mt} {d mc ms : Nat} {As rest : List Value} {Qv : Option Value → bf_Hs → Prop} (hd : decode μ.2.1 pc = .ok (.invokestatic 126, 3)) (hst : st = As.reverse ++ rest) (hmu : μ.1.cls = RX6) (hnu : ν.1 = yX11_greatestDivisor) (hl2 : Cond.static ν.1 ∈ bf_T) (hl4 : Cond.initialized ν.1.cls ∈ bf_T) (hl5 : Cond.code ν.1 ν.2.1 ν.2.2.1 ν.2.2.2 ∈ bf_T)
    (hds : ν.1.cls ≠ "java/lang/invoke/MethodHandle" ∧ ν.1.cls ≠ "java/lang/invoke/VarHandle" ∧ (parseMethodDescriptor ν.1.desc).map (fun d => d.parameters.length) = some As.length) (hR : d + 1 ≤ R.frames ∧ 8 + (ν.2.2.1 + 11) + 64 * d ≤ R.locals) (hcs : k.1 + mc ≤ R.cells ∧ k.2 + ms ≤ R.slots) (hw : (rest.map fun v => v.category).sum ≤ 8)
    (hC : bf_Cn Γ d ν mc ms As h Qv)
    (kk : ∀ (r : Option Value) (h2 : bf_Hs), Qv r h2 → bf_Go Γ R μ E Z (k.1 + mc, k.2 + ms) (pc + 3) lv (r.toList ++ rest) h2) : bf_Go Γ R μ E Z k pc lv st h := by
  intro p e s m args below meth c H locs ls S hE hP hD hS hl
  subst hst
  obtain ⟨hx, hb, hr, hml, hown, hts, hlk, hnm, hK, hbs⟩ := S
  have cb : va_CN R s args μ.1.cls 126 ν.1 RX11 ν.2.1 ν.2.2.1 ν.2.2.2 (.code ν.1 ν.2.1 ν.2.2.1 ν.2.2.2 :: bf_T) (bf_rm d mc ms) mc ms As.length := va_cnB As.length hts (bf_good (fun w h9 => by
    rcases List.mem_cons.mp h9 with rfl | h9
    · exact hl5
    · exact h9)) rfl rfl rfl (by rw [hmu, hnu]; exact hK.2.1) (hts _ hl4) hds hR
  have hrun := va_runSN (p := p) (l := Γ.1) (e := e) (R := R) (below := below) (meth := meth) (locs := locs) (cells := k.1) (slots := k.2) (As := As) (rest := rest) (g := F0 m pc ls (As.reverse ++ rest)) ⟨hx, hb, hml, hown, hts⟩ hC ⟨cb, hts _ hl2, trivial⟩ ⟨bf_blind, fun U hU hW => ⟨rfl, hK.warm hW, by rw [hU]; exact Nat.le_trans hbs hS.1, by rw [hU]; exact ⟨hP, hD⟩⟩⟩ rfl rfl hl.1 rfl (lv_room hw) hd hcs
  intro T0 hT X
  obtain ⟨v, st₀, t, T', L, h0, X', hL, e1, e2, ⟨⟨r, h2, hv, hp, hP2, hD2⟩, hz, hkp⟩, stp⟩ := hrun T0 hT X
  cases hv
  rw [h0] at hz hkp
  obtain ⟨t2, a1, b1⟩ := kk _ h2 hp p e s m args below meth c T'.heap (locs ++ L) ls ⟨hx, hb, hr, hml, hown, hts, hlk, hnm, hK, hbs⟩ hE (by rw [e1]; exact hP2) hD2
    ⟨Nat.le_trans hS.1 (by rw [e1]; exact hz), fun q g1 g2 => by rw [e1, hkp q (Nat.lt_of_lt_of_le g1 hS.1) g2]; exact hS.2.1 q g1 g2, fun q hq => by
      rcases List.mem_append.mp hq with g | g
      · exact hS.2.2 q g
      · exact hL q g⟩ hl T' rfl X'
  exact ⟨t2, stp t2 a1, b1⟩
end BFX
section BFE
variable {Γ : bf_Gm} {R : Room} {μ : bf_Mt} {E : Array Value → State → Prop} {Q : Option Value → bf_Hs → Prop} {mc ms : Nat} {k : Nat × Nat} {pc : Nat} {lv : List (Nat × Value)} {h : bf_Hs}
theorem bf_zret {v : Int32} {ty : FieldType} (hd : decode μ.2.1 pc = .ok (.ireturn, 1)) (hr : μ.2.2.2 = some ty) (hn : narrow ty (.int v) = .int v) (hk1 : k.1 ≤ mc) (hk2 : k.2 ≤ ms) (hq : Q (some (.int v)) h) : bf_Go Γ R μ E (bf_Z Γ Q mc ms) k pc lv [.int v] h := by
  intro p e s m args below meth c H locs ls S hE hP hD hS hl
  refine W.widen (k := mc) (n := ms) hk1 hk2 ?_
  have hlk : meth.locks = false := S.2.2.2.2.2.2.1
  exact W.zret S.1 S.2.1 (S.2.2.1.trans hr) hn (fun t ht hW => ⟨⟨_, h, rfl, hq, by rw [ht]; exact ⟨hP, hD⟩⟩, hS.F ht⟩) hS.2.2 hd hlk
theorem bf_iret {v : Int32} (hd : decode μ.2.1 pc = .ok (.ireturn, 1)) (hr : μ.2.2.2 = some .int) (hk1 : k.1 ≤ mc) (hk2 : k.2 ≤ ms) (hq : Q (some (.int v)) h) : bf_Go Γ R μ E (bf_Z Γ Q mc ms) k pc lv [.int v] h := bf_zret hd hr rfl hk1 hk2 hq
theorem bf_lret {v : Int64} (hd : decode μ.2.1 pc = .ok (.lreturn, 1)) (hr : μ.2.2.2 = some .long) (hk1 : k.1 ≤ mc) (hk2 : k.2 ≤ ms) (hq : Q (some (.long v)) h) : bf_Go Γ R μ E (bf_Z Γ Q mc ms) k pc lv [.long v] h := by
  intro p e s m args below meth c H locs ls S hE hP hD hS hl
  refine W.widen (k := mc) (n := ms) hk1 hk2 ?_
  have hlk : meth.locks = false := S.2.2.2.2.2.2.1
  exact W.lret S.1 S.2.1 (S.2.2.1.trans hr) (fun t ht hW => ⟨⟨_, h, rfl, hq, by rw [ht]; exact ⟨hP, hD⟩⟩, hS.F ht⟩) hS.2.2 hd hlk
theorem bf_vret (hd : decode μ.2.1 pc = .ok (.return_, 1)) (hr : μ.2.2.2 = none) (hk1 : k.1 ≤ mc) (hk2 : k.2 ≤ ms) (hq : Q none h) : bf_Go Γ R μ E (bf_Z Γ Q mc ms) k pc lv [] h := by
  intro p e s m args below meth c H locs ls S hE hP hD hS hl
  refine W.widen (k := mc) (n := ms) hk1 hk2 ?_
  have hlk : meth.locks = false := S.2.2.2.2.2.2.1
  exact W.vret S.1 S.2.1 (S.2.2.1.trans hr) (fun t ht hW => ⟨⟨_, h, rfl, hq, by rw [ht]; exact ⟨hP, hD⟩⟩, hS.F ht⟩) hS.2.2 hd hlk
end BFE
section BFR
variable {Γ : bf_Gm} {R : Room} {μ : bf_Mt} {E : Array Value → State → Prop} {Z : List Frame → Array Value → State → State → Prop} {k : Nat × Nat} {pc : Nat} {lv lv2 : List (Nat × Value)} {st : List Value} {h : bf_Hs}
theorem bf_iconst {n : Int} {v : Int32} (hd : decode μ.2.1 pc = .ok (.iconst n, 1)) (hv : Int32.ofInt n = v) (kk : bf_Go Γ R μ E Z k (pc + 1) lv (.int v :: st) h) : bf_Go Γ R μ E Z k pc lv (st) h := by
  intro p e s m args below meth c H locs ls S hE hP hD hS hl
  exact lv_iconst S.1 S.2.1 hd hv (kk p e s m args below meth c H locs ls S hE hP hD hS hl)
theorem bf_bipush {n : Int} {v : Int32} (hd : decode μ.2.1 pc = .ok (.bipush n, 2)) (hv : (Int8.ofInt n).toInt32 = v) (kk : bf_Go Γ R μ E Z k (pc + 2) lv (.int v :: st) h) : bf_Go Γ R μ E Z k pc lv (st) h := by
  intro p e s m args below meth c H locs ls S hE hP hD hS hl
  exact lv_bipush S.1 S.2.1 hd hv (kk p e s m args below meth c H locs ls S hE hP hD hS hl)
theorem bf_sipush {n : Int} {v : Int32} (hd : decode μ.2.1 pc = .ok (.sipush n, 3)) (hv : (Int16.ofInt n).toInt32 = v) (kk : bf_Go Γ R μ E Z k (pc + 3) lv (.int v :: st) h) : bf_Go Γ R μ E Z k pc lv (st) h := by
  intro p e s m args below meth c H locs ls S hE hP hD hS hl
  exact lv_sipush S.1 S.2.1 hd hv (kk p e s m args below meth c H locs ls S hE hP hD hS hl)
theorem bf_lconst {n : Fin 2} {v : Int64} (hd : decode μ.2.1 pc = .ok (.lconst n, 1)) (hv : Int64.ofNat (n : Nat) = v) (kk : bf_Go Γ R μ E Z k (pc + 1) lv (.long v :: st) h) : bf_Go Γ R μ E Z k pc lv (st) h := by
  intro p e s m args below meth c H locs ls S hE hP hD hS hl
  exact lv_lconst S.1 S.2.1 hd hv (kk p e s m args below meth c H locs ls S hE hP hD hS hl)
theorem bf_iload_n (q : Nat) {j : Fin 4} {i : Nat} {x : Int32} (hd : decode μ.2.1 pc = .ok (.iload_n j, 1)) (hj : (j : Nat) = i) (hq : lv[q]? = some (i, .int x)) (kk : bf_Go Γ R μ E Z k (pc + 1) lv (.int x :: st) h) : bf_Go Γ R μ E Z k pc lv (st) h := by
  intro p e s m args below meth c H locs ls S hE hP hD hS hl
  exact lv_iload_n S.1 S.2.1 hd hj (lv_at hl q hq) (kk p e s m args below meth c H locs ls S hE hP hD hS hl)
theorem bf_iload (q : Nat) {i : Nat} {x : Int32} (hd : decode μ.2.1 pc = .ok (.iload i, 2)) (hq : lv[q]? = some (i, .int x)) (kk : bf_Go Γ R μ E Z k (pc + 2) lv (.int x :: st) h) : bf_Go Γ R μ E Z k pc lv (st) h := by
  intro p e s m args below meth c H locs ls S hE hP hD hS hl
  exact lv_iload S.1 S.2.1 hd (lv_at hl q hq) (kk p e s m args below meth c H locs ls S hE hP hD hS hl)
theorem bf_istore_n {j : Fin 4} {i : Nat} {x : Int32} (hd : decode μ.2.1 pc = .ok (.istore_n j, 1)) (hj : (j : Nat) = i) (hn : i < μ.2.2.1) (hq : (i, Value.int x) :: lv.filter (fun q => !(q.1 == i) && !(q.1 + 1 == i && q.2.category == 2)) = lv2) (kk : bf_Go Γ R μ E Z k (pc + 1) lv2 st h) : bf_Go Γ R μ E Z k pc lv (.int x :: st) h := by
  intro p e s m args below meth c H locs ls S hE hP hD hS hl
  exact lv_istore_n S.1 S.2.1 hd hj hl hn hq (fun ls2 hl2 => kk p e s m args below meth c H locs ls2 S hE hP hD hS hl2)
theorem bf_istore {i : Nat} {x : Int32} (hd : decode μ.2.1 pc = .ok (.istore i, 2)) (hn : i < μ.2.2.1) (hq : (i, Value.int x) :: lv.filter (fun q => !(q.1 == i) && !(q.1 + 1 == i && q.2.category == 2)) = lv2) (kk : bf_Go Γ R μ E Z k (pc + 2) lv2 st h) : bf_Go Γ R μ E Z k pc lv (.int x :: st) h := by
  intro p e s m args below meth c H locs ls S hE hP hD hS hl
  exact lv_istore S.1 S.2.1 hd hl hn hq (fun ls2 hl2 => kk p e s m args below meth c H locs ls2 S hE hP hD hS hl2)
theorem bf_lload_n (q : Nat) {j : Fin 4} {i : Nat} {x : Int64} (hd : decode μ.2.1 pc = .ok (.lload_n j, 1)) (hj : (j : Nat) = i) (hq : lv[q]? = some (i, .long x)) (kk : bf_Go Γ R μ E Z k (pc + 1) lv (.long x :: st) h) : bf_Go Γ R μ E Z k pc lv (st) h := by
  intro p e s m args below meth c H locs ls S hE hP hD hS hl
  exact lv_lload_n S.1 S.2.1 hd hj (lv_at hl q hq) (kk p e s m args below meth c H locs ls S hE hP hD hS hl)
theorem bf_lload (q : Nat) {i : Nat} {x : Int64} (hd : decode μ.2.1 pc = .ok (.lload i, 2)) (hq : lv[q]? = some (i, .long x)) (kk : bf_Go Γ R μ E Z k (pc + 2) lv (.long x :: st) h) : bf_Go Γ R μ E Z k pc lv (st) h := by
  intro p e s m args below meth c H locs ls S hE hP hD hS hl
  exact lv_lload S.1 S.2.1 hd (lv_at hl q hq) (kk p e s m args below meth c H locs ls S hE hP hD hS hl)
theorem bf_lstore_n {j : Fin 4} {i : Nat} {x : Int64} (hd : decode μ.2.1 pc = .ok (.lstore_n j, 1)) (hj : (j : Nat) = i) (hn : i + 1 < μ.2.2.1) (hq : (i, Value.long x) :: lv.filter (fun q => !(q.1 == i) && (!(q.1 == i + 1) && !(q.1 + 1 == i && q.2.category == 2))) = lv2) (kk : bf_Go Γ R μ E Z k (pc + 1) lv2 st h) : bf_Go Γ R μ E Z k pc lv (.long x :: st) h := by
  intro p e s m args below meth c H locs ls S hE hP hD hS hl
  exact lv_lstore_n S.1 S.2.1 hd hj hl hn hq (fun ls2 hl2 => kk p e s m args below meth c H locs ls2 S hE hP hD hS hl2)
theorem bf_lstore {i : Nat} {x : Int64} (hd : decode μ.2.1 pc = .ok (.lstore i, 2)) (hn : i + 1 < μ.2.2.1) (hq : (i, Value.long x) :: lv.filter (fun q => !(q.1 == i) && (!(q.1 == i + 1) && !(q.1 + 1 == i && q.2.category == 2))) = lv2) (kk : bf_Go Γ R μ E Z k (pc + 2) lv2 st h) : bf_Go Γ R μ E Z k pc lv (.long x :: st) h := by
  intro p e s m args below meth c H locs ls S hE hP hD hS hl
  exact lv_lstore S.1 S.2.1 hd hl hn hq (fun ls2 hl2 => kk p e s m args below meth c H locs ls2 S hE hP hD hS hl2)
theorem bf_aload_n (q : Nat) {j : Fin 4} {i : Nat} {x : Nat} (hd : decode μ.2.1 pc = .ok (.aload_n j, 1)) (hj : (j : Nat) = i) (hq : lv[q]? = some (i, .ref x)) (kk : bf_Go Γ R μ E Z k (pc + 1) lv (.ref x :: st) h) : bf_Go Γ R μ E Z k pc lv (st) h := by
  intro p e s m args below meth c H locs ls S hE hP hD hS hl
  exact lv_aload_n S.1 S.2.1 hd hj (lv_at hl q hq) (kk p e s m args below meth c H locs ls S hE hP hD hS hl)
theorem bf_aload (q : Nat) {i : Nat} {x : Nat} (hd : decode μ.2.1 pc = .ok (.aload i, 2)) (hq : lv[q]? = some (i, .ref x)) (kk : bf_Go Γ R μ E Z k (pc + 2) lv (.ref x :: st) h) : bf_Go Γ R μ E Z k pc lv (st) h := by
  intro p e s m args below meth c H locs ls S hE hP hD hS hl
  exact lv_aload S.1 S.2.1 hd (lv_at hl q hq) (kk p e s m args below meth c H locs ls S hE hP hD hS hl)
theorem bf_astore_n {j : Fin 4} {i : Nat} {x : Nat} (hd : decode μ.2.1 pc = .ok (.astore_n j, 1)) (hj : (j : Nat) = i) (hn : i < μ.2.2.1) (hq : (i, Value.ref x) :: lv.filter (fun q => !(q.1 == i) && !(q.1 + 1 == i && q.2.category == 2)) = lv2) (kk : bf_Go Γ R μ E Z k (pc + 1) lv2 st h) : bf_Go Γ R μ E Z k pc lv (.ref x :: st) h := by
  intro p e s m args below meth c H locs ls S hE hP hD hS hl
  exact lv_astore_n S.1 S.2.1 hd hj hl hn hq (fun ls2 hl2 => kk p e s m args below meth c H locs ls2 S hE hP hD hS hl2)
theorem bf_astore {i : Nat} {x : Nat} (hd : decode μ.2.1 pc = .ok (.astore i, 2)) (hn : i < μ.2.2.1) (hq : (i, Value.ref x) :: lv.filter (fun q => !(q.1 == i) && !(q.1 + 1 == i && q.2.category == 2)) = lv2) (kk : bf_Go Γ R μ E Z k (pc + 2) lv2 st h) : bf_Go Γ R μ E Z k pc lv (.ref x :: st) h := by
  intro p e s m args below meth c H locs ls S hE hP hD hS hl
  exact lv_astore S.1 S.2.1 hd hl hn hq (fun ls2 hl2 => kk p e s m args below meth c H locs ls2 S hE hP hD hS hl2)
theorem bf_iinc (q : Nat) {i : Nat} {n : Int} {x v : Int32} (hd : decode μ.2.1 pc = .ok (.iinc i n, 3)) (hk : lv[q]? = some (i, .int x)) (hv : x + Int32.ofInt n = v) (hn : i < μ.2.2.1) (hq : (i, Value.int v) :: lv.filter (fun q => !(q.1 == i) && !(q.1 + 1 == i && q.2.category == 2)) = lv2) (kk : bf_Go Γ R μ E Z k (pc + 3) lv2 st h) : bf_Go Γ R μ E Z k pc lv st h := by
  intro p e s m args below meth c H locs ls S hE hP hD hS hl
  exact lv_iinc (k := q) S.1 S.2.1 hd hl hk hv hn hq (fun ls2 hl2 => kk p e s m args below meth c H locs ls2 S hE hP hD hS hl2)
theorem bf_iadd {x y : Int32} (hd : decode μ.2.1 pc = .ok (.iadd, 1))  (kk : bf_Go Γ R μ E Z k (pc + 1) lv (.int (x + y) :: st) h) : bf_Go Γ R μ E Z k pc lv (.int y :: .int x :: st) h := by
  intro p e s m args below meth c H locs ls S hE hP hD hS hl
  exact lv_iadd S.1 S.2.1 hd (kk p e s m args below meth c H locs ls S hE hP hD hS hl)
theorem bf_isub {x y : Int32} (hd : decode μ.2.1 pc = .ok (.isub, 1))  (kk : bf_Go Γ R μ E Z k (pc + 1) lv (.int (x - y) :: st) h) : bf_Go Γ R μ E Z k pc lv (.int y :: .int x :: st) h := by
  intro p e s m args below meth c H locs ls S hE hP hD hS hl
  exact lv_isub S.1 S.2.1 hd (kk p e s m args below meth c H locs ls S hE hP hD hS hl)
theorem bf_imul {x y : Int32} (hd : decode μ.2.1 pc = .ok (.imul, 1))  (kk : bf_Go Γ R μ E Z k (pc + 1) lv (.int (x * y) :: st) h) : bf_Go Γ R μ E Z k pc lv (.int y :: .int x :: st) h := by
  intro p e s m args below meth c H locs ls S hE hP hD hS hl
  exact lv_imul S.1 S.2.1 hd (kk p e s m args below meth c H locs ls S hE hP hD hS hl)
theorem bf_iand {x y : Int32} (hd : decode μ.2.1 pc = .ok (.iand, 1))  (kk : bf_Go Γ R μ E Z k (pc + 1) lv (.int (x &&& y) :: st) h) : bf_Go Γ R μ E Z k pc lv (.int y :: .int x :: st) h := by
  intro p e s m args below meth c H locs ls S hE hP hD hS hl
  exact lv_iand S.1 S.2.1 hd (kk p e s m args below meth c H locs ls S hE hP hD hS hl)
theorem bf_ior {x y : Int32} (hd : decode μ.2.1 pc = .ok (.ior, 1))  (kk : bf_Go Γ R μ E Z k (pc + 1) lv (.int (x ||| y) :: st) h) : bf_Go Γ R μ E Z k pc lv (.int y :: .int x :: st) h := by
  intro p e s m args below meth c H locs ls S hE hP hD hS hl
  exact lv_ior S.1 S.2.1 hd (kk p e s m args below meth c H locs ls S hE hP hD hS hl)
theorem bf_ladd {x y : Int64} (hd : decode μ.2.1 pc = .ok (.ladd, 1))  (kk : bf_Go Γ R μ E Z k (pc + 1) lv (.long (x + y) :: st) h) : bf_Go Γ R μ E Z k pc lv (.long y :: .long x :: st) h := by
  intro p e s m args below meth c H locs ls S hE hP hD hS hl
  exact lv_ladd S.1 S.2.1 hd (kk p e s m args below meth c H locs ls S hE hP hD hS hl)
theorem bf_lmul {x y : Int64} (hd : decode μ.2.1 pc = .ok (.lmul, 1))  (kk : bf_Go Γ R μ E Z k (pc + 1) lv (.long (x * y) :: st) h) : bf_Go Γ R μ E Z k pc lv (.long y :: .long x :: st) h := by
  intro p e s m args below meth c H locs ls S hE hP hD hS hl
  exact lv_lmul S.1 S.2.1 hd (kk p e s m args below meth c H locs ls S hE hP hD hS hl)
theorem bf_land {x y : Int64} (hd : decode μ.2.1 pc = .ok (.land, 1))  (kk : bf_Go Γ R μ E Z k (pc + 1) lv (.long (x &&& y) :: st) h) : bf_Go Γ R μ E Z k pc lv (.long y :: .long x :: st) h := by
  intro p e s m args below meth c H locs ls S hE hP hD hS hl
  exact lv_land S.1 S.2.1 hd (kk p e s m args below meth c H locs ls S hE hP hD hS hl)
theorem bf_lor {x y : Int64} (hd : decode μ.2.1 pc = .ok (.lor, 1))  (kk : bf_Go Γ R μ E Z k (pc + 1) lv (.long (x ||| y) :: st) h) : bf_Go Γ R μ E Z k pc lv (.long y :: .long x :: st) h := by
  intro p e s m args below meth c H locs ls S hE hP hD hS hl
  exact lv_lor S.1 S.2.1 hd (kk p e s m args below meth c H locs ls S hE hP hD hS hl)
theorem bf_idiv {x y : Int32} (hd : decode μ.2.1 pc = .ok (.idiv, 1)) (hne : ¬ y = 0) (kk : bf_Go Γ R μ E Z k (pc + 1) lv (.int (x / y) :: st) h) : bf_Go Γ R μ E Z k pc lv (.int y :: .int x :: st) h := by
  intro p e s m args below meth c H locs ls S hE hP hD hS hl
  exact lv_idiv S.1 S.2.1 hd hne (kk p e s m args below meth c H locs ls S hE hP hD hS hl)
theorem bf_irem {x y : Int32} (hd : decode μ.2.1 pc = .ok (.irem, 1)) (hne : ¬ y = 0) (kk : bf_Go Γ R μ E Z k (pc + 1) lv (.int (x - x / y * y) :: st) h) : bf_Go Γ R μ E Z k pc lv (.int y :: .int x :: st) h := by
  intro p e s m args below meth c H locs ls S hE hP hD hS hl
  exact lv_irem S.1 S.2.1 hd hne (kk p e s m args below meth c H locs ls S hE hP hD hS hl)
theorem bf_ldiv {x y : Int64} (hd : decode μ.2.1 pc = .ok (.ldiv, 1)) (hne : ¬ y = 0) (kk : bf_Go Γ R μ E Z k (pc + 1) lv (.long (x / y) :: st) h) : bf_Go Γ R μ E Z k pc lv (.long y :: .long x :: st) h := by
  intro p e s m args below meth c H locs ls S hE hP hD hS hl
  exact lv_ldiv S.1 S.2.1 hd hne (kk p e s m args below meth c H locs ls S hE hP hD hS hl)
theorem bf_lrem {x y : Int64} (hd : decode μ.2.1 pc = .ok (.lrem, 1)) (hne : ¬ y = 0) (kk : bf_Go Γ R μ E Z k (pc + 1) lv (.long (x - x / y * y) :: st) h) : bf_Go Γ R μ E Z k pc lv (.long y :: .long x :: st) h := by
  intro p e s m args below meth c H locs ls S hE hP hD hS hl
  exact lv_lrem S.1 S.2.1 hd hne (kk p e s m args below meth c H locs ls S hE hP hD hS hl)
theorem bf_lneg {x : Int64} (hd : decode μ.2.1 pc = .ok (.lneg, 1))  (kk : bf_Go Γ R μ E Z k (pc + 1) lv (.long (-x) :: st) h) : bf_Go Γ R μ E Z k pc lv (.long x :: st) h := by
  intro p e s m args below meth c H locs ls S hE hP hD hS hl
  exact lv_lneg S.1 S.2.1 hd (kk p e s m args below meth c H locs ls S hE hP hD hS hl)
theorem bf_ishl {x y : Int32} (hd : decode μ.2.1 pc = .ok (.ishl, 1))  (kk : bf_Go Γ R μ E Z k (pc + 1) lv (.int (x <<< (y &&& 31)) :: st) h) : bf_Go Γ R μ E Z k pc lv (.int y :: .int x :: st) h := by
  intro p e s m args below meth c H locs ls S hE hP hD hS hl
  exact lv_ishl S.1 S.2.1 hd (kk p e s m args below meth c H locs ls S hE hP hD hS hl)
theorem bf_ishr {x y : Int32} (hd : decode μ.2.1 pc = .ok (.ishr, 1))  (kk : bf_Go Γ R μ E Z k (pc + 1) lv (.int (x >>> (y &&& 31)) :: st) h) : bf_Go Γ R μ E Z k pc lv (.int y :: .int x :: st) h := by
  intro p e s m args below meth c H locs ls S hE hP hD hS hl
  exact lv_ishr S.1 S.2.1 hd (kk p e s m args below meth c H locs ls S hE hP hD hS hl)
theorem bf_lshl {x : Int64} {y : Int32} (hd : decode μ.2.1 pc = .ok (.lshl, 1))  (kk : bf_Go Γ R μ E Z k (pc + 1) lv (.long (x <<< (y.toInt64 &&& 63)) :: st) h) : bf_Go Γ R μ E Z k pc lv (.int y :: .long x :: st) h := by
  intro p e s m args below meth c H locs ls S hE hP hD hS hl
  exact lv_lshl S.1 S.2.1 hd rfl (kk p e s m args below meth c H locs ls S hE hP hD hS hl)
theorem bf_i2l {x : Int32} (hd : decode μ.2.1 pc = .ok (.i2l, 1))  (kk : bf_Go Γ R μ E Z k (pc + 1) lv (.long x.toInt64 :: st) h) : bf_Go Γ R μ E Z k pc lv (.int x :: st) h := by
  intro p e s m args below meth c H locs ls S hE hP hD hS hl
  exact lv_i2l S.1 S.2.1 hd rfl (kk p e s m args below meth c H locs ls S hE hP hD hS hl)
theorem bf_l2i {x : Int64} (hd : decode μ.2.1 pc = .ok (.l2i, 1))  (kk : bf_Go Γ R μ E Z k (pc + 1) lv (.int x.toInt32 :: st) h) : bf_Go Γ R μ E Z k pc lv (.long x :: st) h := by
  intro p e s m args below meth c H locs ls S hE hP hD hS hl
  exact lv_l2i S.1 S.2.1 hd rfl (kk p e s m args below meth c H locs ls S hE hP hD hS hl)
theorem bf_i2b {x : Int32} (hd : decode μ.2.1 pc = .ok (.i2b, 1))  (kk : bf_Go Γ R μ E Z k (pc + 1) lv (.int x.toInt8.toInt32 :: st) h) : bf_Go Γ R μ E Z k pc lv (.int x :: st) h := by
  intro p e s m args below meth c H locs ls S hE hP hD hS hl
  exact lv_i2b S.1 S.2.1 hd rfl (kk p e s m args below meth c H locs ls S hE hP hD hS hl)
theorem bf_i2s {x : Int32} (hd : decode μ.2.1 pc = .ok (.i2s, 1))  (kk : bf_Go Γ R μ E Z k (pc + 1) lv (.int x.toInt16.toInt32 :: st) h) : bf_Go Γ R μ E Z k pc lv (.int x :: st) h := by
  intro p e s m args below meth c H locs ls S hE hP hD hS hl
  exact lv_i2s S.1 S.2.1 hd rfl (kk p e s m args below meth c H locs ls S hE hP hD hS hl)
theorem bf_lcmp {x y : Int64} (hd : decode μ.2.1 pc = .ok (.lcmp, 1))  (kk : bf_Go Γ R μ E Z k (pc + 1) lv (.int (lg_cmp x y) :: st) h) : bf_Go Γ R μ E Z k pc lv (.long y :: .long x :: st) h := by
  intro p e s m args below meth c H locs ls S hE hP hD hS hl
  exact W.lcmp S.1 S.2.1 hd (kk p e s m args below meth c H locs ls S hE hP hD hS hl)
theorem bf_dup {v : Value} (hd : decode μ.2.1 pc = .ok (.dup, 1)) (hv : v.category = 1) (kk : bf_Go Γ R μ E Z k (pc + 1) lv (v :: v :: st) h) : bf_Go Γ R μ E Z k pc lv (v :: st) h := by
  intro p e s m args below meth c H locs ls S hE hP hD hS hl
  exact lv_dup S.1 S.2.1 hd hv (kk p e s m args below meth c H locs ls S hE hP hD hS hl)
theorem bf_pop {v : Value} (hd : decode μ.2.1 pc = .ok (.pop, 1)) (hv : v.category = 1) (kk : bf_Go Γ R μ E Z k (pc + 1) lv (st) h) : bf_Go Γ R μ E Z k pc lv (v :: st) h := by
  intro p e s m args below meth c H locs ls S hE hP hD hS hl
  exact lv_pop S.1 S.2.1 hd hv (kk p e s m args below meth c H locs ls S hE hP hD hS hl)
theorem bf_dup2 {v u : Value} (hd : decode μ.2.1 pc = .ok (.dup2, 1)) (hv : v.category = 1) (hu : u.category = 1) (kk : bf_Go Γ R μ E Z k (pc + 1) lv (v :: u :: v :: u :: st) h) : bf_Go Γ R μ E Z k pc lv (v :: u :: st) h := by
  intro p e s m args below meth c H locs ls S hE hP hD hS hl
  exact lv_dup2_11 S.1 S.2.1 hd hv hu (kk p e s m args below meth c H locs ls S hE hP hD hS hl)
theorem bf_ldc {i : Nat} {v : Int32} (hd : decode μ.2.1 pc = .ok (.ldc i, 2)) (hw : Cond.constant μ.1.cls i v ∈ bf_T) (kk : bf_Go Γ R μ E Z k (pc + 2) lv (.int v :: st) h) : bf_Go Γ R μ E Z k pc lv (st) h := by
  intro p e s m args below meth c H locs ls S hE hP hD hS hl
  exact lv_ldc S.1 S.2.1 S.2.2.2.2.1 (S.2.2.2.2.2.1 _ hw) hd (kk p e s m args below meth c H locs ls S hE hP hD hS hl)
theorem bf_ldc2 {i : Nat} {v : Int64} (hd : decode μ.2.1 pc = .ok (.ldc2_w i, 3)) (hw : Cond.constantLong μ.1.cls i v ∈ bf_T) (kk : bf_Go Γ R μ E Z k (pc + 3) lv (.long v :: st) h) : bf_Go Γ R μ E Z k pc lv (st) h := by
  intro p e s m args below meth c H locs ls S hE hP hD hS hl
  exact lv_ldc2 S.1 S.2.1 S.2.2.2.2.1 (S.2.2.2.2.2.1 _ hw) hd (kk p e s m args below meth c H locs ls S hE hP hD hS hl)
theorem bf_if_eq {x : Int32} {off : Int} (tgt : Nat) (hd : decode μ.2.1 pc = .ok (.ifCond .eq off, 3)) (ht : (pc : Int) + off = (tgt : Int)) (kt : x = 0 → bf_Go Γ R μ E Z k tgt lv st h) (kf : ¬ (x = 0) → bf_Go Γ R μ E Z k (pc + 3) lv st h) : bf_Go Γ R μ E Z k pc lv (.int x :: st) h := by
  intro p e s m args below meth c H locs ls S hE hP hD hS hl
  exact lv_if_eq S.1 S.2.1 hd ht (fun q => kt q p e s m args below meth c H locs ls S hE hP hD hS hl) (fun q => kf q p e s m args below meth c H locs ls S hE hP hD hS hl)
theorem bf_icmp_eq {x y : Int32} {off : Int} (tgt : Nat) (hd : decode μ.2.1 pc = .ok (.if_icmp .eq off, 3)) (ht : (pc : Int) + off = (tgt : Int)) (kt : x = y → bf_Go Γ R μ E Z k tgt lv st h) (kf : ¬ (x = y) → bf_Go Γ R μ E Z k (pc + 3) lv st h) : bf_Go Γ R μ E Z k pc lv (.int y :: .int x :: st) h := by
  intro p e s m args below meth c H locs ls S hE hP hD hS hl
  exact lv_icmp_eq S.1 S.2.1 hd ht (fun q => kt q p e s m args below meth c H locs ls S hE hP hD hS hl) (fun q => kf q p e s m args below meth c H locs ls S hE hP hD hS hl)
theorem bf_if_ne {x : Int32} {off : Int} (tgt : Nat) (hd : decode μ.2.1 pc = .ok (.ifCond .ne off, 3)) (ht : (pc : Int) + off = (tgt : Int)) (kt : x ≠ 0 → bf_Go Γ R μ E Z k tgt lv st h) (kf : x = 0 → bf_Go Γ R μ E Z k (pc + 3) lv st h) : bf_Go Γ R μ E Z k pc lv (.int x :: st) h := by
  intro p e s m args below meth c H locs ls S hE hP hD hS hl
  exact lv_if_ne S.1 S.2.1 hd ht (fun q => kt q p e s m args below meth c H locs ls S hE hP hD hS hl) (fun q => kf q p e s m args below meth c H locs ls S hE hP hD hS hl)
theorem bf_icmp_ne {x y : Int32} {off : Int} (tgt : Nat) (hd : decode μ.2.1 pc = .ok (.if_icmp .ne off, 3)) (ht : (pc : Int) + off = (tgt : Int)) (kt : x ≠ y → bf_Go Γ R μ E Z k tgt lv st h) (kf : x = y → bf_Go Γ R μ E Z k (pc + 3) lv st h) : bf_Go Γ R μ E Z k pc lv (.int y :: .int x :: st) h := by
  intro p e s m args below meth c H locs ls S hE hP hD hS hl
  exact lv_icmp_ne S.1 S.2.1 hd ht (fun q => kt q p e s m args below meth c H locs ls S hE hP hD hS hl) (fun q => kf q p e s m args below meth c H locs ls S hE hP hD hS hl)
theorem bf_if_lt {x : Int32} {off : Int} (tgt : Nat) (hd : decode μ.2.1 pc = .ok (.ifCond .lt off, 3)) (ht : (pc : Int) + off = (tgt : Int)) (kt : x < 0 → bf_Go Γ R μ E Z k tgt lv st h) (kf : ¬ (x < 0) → bf_Go Γ R μ E Z k (pc + 3) lv st h) : bf_Go Γ R μ E Z k pc lv (.int x :: st) h := by
  intro p e s m args below meth c H locs ls S hE hP hD hS hl
  exact lv_if_lt S.1 S.2.1 hd ht (fun q => kt q p e s m args below meth c H locs ls S hE hP hD hS hl) (fun q => kf q p e s m args below meth c H locs ls S hE hP hD hS hl)
theorem bf_icmp_lt {x y : Int32} {off : Int} (tgt : Nat) (hd : decode μ.2.1 pc = .ok (.if_icmp .lt off, 3)) (ht : (pc : Int) + off = (tgt : Int)) (kt : x < y → bf_Go Γ R μ E Z k tgt lv st h) (kf : ¬ (x < y) → bf_Go Γ R μ E Z k (pc + 3) lv st h) : bf_Go Γ R μ E Z k pc lv (.int y :: .int x :: st) h := by
  intro p e s m args below meth c H locs ls S hE hP hD hS hl
  exact lv_icmp_lt S.1 S.2.1 hd ht (fun q => kt q p e s m args below meth c H locs ls S hE hP hD hS hl) (fun q => kf q p e s m args below meth c H locs ls S hE hP hD hS hl)
theorem bf_if_ge {x : Int32} {off : Int} (tgt : Nat) (hd : decode μ.2.1 pc = .ok (.ifCond .ge off, 3)) (ht : (pc : Int) + off = (tgt : Int)) (kt : 0 ≤ x → bf_Go Γ R μ E Z k tgt lv st h) (kf : ¬ (0 ≤ x) → bf_Go Γ R μ E Z k (pc + 3) lv st h) : bf_Go Γ R μ E Z k pc lv (.int x :: st) h := by
  intro p e s m args below meth c H locs ls S hE hP hD hS hl
  exact lv_if_ge S.1 S.2.1 hd ht (fun q => kt q p e s m args below meth c H locs ls S hE hP hD hS hl) (fun q => kf q p e s m args below meth c H locs ls S hE hP hD hS hl)
theorem bf_icmp_ge {x y : Int32} {off : Int} (tgt : Nat) (hd : decode μ.2.1 pc = .ok (.if_icmp .ge off, 3)) (ht : (pc : Int) + off = (tgt : Int)) (kt : y ≤ x → bf_Go Γ R μ E Z k tgt lv st h) (kf : ¬ (y ≤ x) → bf_Go Γ R μ E Z k (pc + 3) lv st h) : bf_Go Γ R μ E Z k pc lv (.int y :: .int x :: st) h := by
  intro p e s m args below meth c H locs ls S hE hP hD hS hl
  exact lv_icmp_ge S.1 S.2.1 hd ht (fun q => kt q p e s m args below meth c H locs ls S hE hP hD hS hl) (fun q => kf q p e s m args below meth c H locs ls S hE hP hD hS hl)
theorem bf_if_gt {x : Int32} {off : Int} (tgt : Nat) (hd : decode μ.2.1 pc = .ok (.ifCond .gt off, 3)) (ht : (pc : Int) + off = (tgt : Int)) (kt : 0 < x → bf_Go Γ R μ E Z k tgt lv st h) (kf : ¬ (0 < x) → bf_Go Γ R μ E Z k (pc + 3) lv st h) : bf_Go Γ R μ E Z k pc lv (.int x :: st) h := by
  intro p e s m args below meth c H locs ls S hE hP hD hS hl
  exact lv_if_gt S.1 S.2.1 hd ht (fun q => kt q p e s m args below meth c H locs ls S hE hP hD hS hl) (fun q => kf q p e s m args below meth c H locs ls S hE hP hD hS hl)
theorem bf_icmp_gt {x y : Int32} {off : Int} (tgt : Nat) (hd : decode μ.2.1 pc = .ok (.if_icmp .gt off, 3)) (ht : (pc : Int) + off = (tgt : Int)) (kt : y < x → bf_Go Γ R μ E Z k tgt lv st h) (kf : ¬ (y < x) → bf_Go Γ R μ E Z k (pc + 3) lv st h) : bf_Go Γ R μ E Z k pc lv (.int y :: .int x :: st) h := by
  intro p e s m args below meth c H locs ls S hE hP hD hS hl
  exact lv_icmp_gt S.1 S.2.1 hd ht (fun q => kt q p e s m args below meth c H locs ls S hE hP hD hS hl) (fun q => kf q p e s m args below meth c H locs ls S hE hP hD hS hl)
theorem bf_if_le {x : Int32} {off : Int} (tgt : Nat) (hd : decode μ.2.1 pc = .ok (.ifCond .le off, 3)) (ht : (pc : Int) + off = (tgt : Int)) (kt : x ≤ 0 → bf_Go Γ R μ E Z k tgt lv st h) (kf : ¬ (x ≤ 0) → bf_Go Γ R μ E Z k (pc + 3) lv st h) : bf_Go Γ R μ E Z k pc lv (.int x :: st) h := by
  intro p e s m args below meth c H locs ls S hE hP hD hS hl
  exact lv_if_le S.1 S.2.1 hd ht (fun q => kt q p e s m args below meth c H locs ls S hE hP hD hS hl) (fun q => kf q p e s m args below meth c H locs ls S hE hP hD hS hl)
theorem bf_icmp_le {x y : Int32} {off : Int} (tgt : Nat) (hd : decode μ.2.1 pc = .ok (.if_icmp .le off, 3)) (ht : (pc : Int) + off = (tgt : Int)) (kt : x ≤ y → bf_Go Γ R μ E Z k tgt lv st h) (kf : ¬ (x ≤ y) → bf_Go Γ R μ E Z k (pc + 3) lv st h) : bf_Go Γ R μ E Z k pc lv (.int y :: .int x :: st) h := by
  intro p e s m args below meth c H locs ls S hE hP hD hS hl
  exact lv_icmp_le S.1 S.2.1 hd ht (fun q => kt q p e s m args below meth c H locs ls S hE hP hD hS hl) (fun q => kf q p e s m args below meth c H locs ls S hE hP hD hS hl)
theorem bf_goto {off : Int} (tgt : Nat) (hd : decode μ.2.1 pc = .ok (.goto off, 3)) (ht : (pc : Int) + off = (tgt : Int)) (kk : bf_Go Γ R μ E Z k tgt lv st h) : bf_Go Γ R μ E Z k pc lv st h := by
  intro p e s m args below meth c H locs ls S hE hP hD hS hl
  exact lv_goto S.1 S.2.1 hd ht (kk p e s m args below meth c H locs ls S hE hP hD hS hl)
theorem bf_swOut {dflt lo hi : Int} {offs : Array Int} {len : Nat} {x : Int32} (tgt : Nat) (hd : decode μ.2.1 pc = .ok (.tableswitch dflt lo hi offs, len)) (hx : x.toInt < lo ∨ hi < x.toInt) (ht : (pc : Int) + dflt = (tgt : Int)) (kk : bf_Go Γ R μ E Z k tgt lv st h) : bf_Go Γ R μ E Z k pc lv (.int x :: st) h := by
  intro p e s m args below meth c H locs ls S hE hP hD hS hl
  exact lv_tableOut S.1 S.2.1 hd hx ht (kk p e s m args below meth c H locs ls S hE hP hD hS hl)
theorem bf_swIn {dflt lo hi : Int} {offs : Array Int} {len : Nat} {x : Int32} {off : Int} (tgt : Nat) (hd : decode μ.2.1 pc = .ok (.tableswitch dflt lo hi offs, len)) (h1 : ¬ x.toInt < lo) (h2 : ¬ hi < x.toInt) (ho : offs[(x.toInt - lo).toNat]? = some off) (ht : (pc : Int) + off = (tgt : Int)) (kk : bf_Go Γ R μ E Z k tgt lv st h) : bf_Go Γ R μ E Z k pc lv (.int x :: st) h := by
  intro p e s m args below meth c H locs ls S hE hP hD hS hl
  exact lv_tableIn S.1 S.2.1 hd h1 h2 ho ht (kk p e s m args below meth c H locs ls S hE hP hD hS hl)
theorem bf_perm (ks : List Nat) (hq : lv_pick lv ks = lv2) (kk : bf_Go Γ R μ E Z k pc lv2 st h) : bf_Go Γ R μ E Z k pc lv st h := by
  intro p e s m args below meth c H locs ls S hE hP hD hS hl
  exact kk p e s m args below meth c H locs ls S hE hP hD hS (lv_sub hl ks hq)
end BFR
