/-! the state while the law runs: 173 objects, their references fixed -/
def bf_R0 (o i : Nat) : Option Nat := if bf_kd o < 13 then (if bf_fo (bf_kd o) i = 0 then none else some (o + bf_fo (bf_kd o) i)) else if bf_kd o < 16 then none else if bf_kd o = 16 ∨ bf_kd o = 20 then (if i < bf_le o then some (o + 1 + i) else none) else (if i < bf_le o then some (o + 1 + 2 * i) else none)
abbrev bf_St : Type := (Nat → Nat → Int32) × (Nat → Nat → Int64)
abbrev bf_S (ad : Nat → Nat) (I : Nat → Nat → Int32) (L : Nat → Nat → Int64) : bf_Hs := (173, ad, I, L, bf_R0)
theorem bf_kd_lt {o c : Nat} (h : bf_kd o = c) (hc : c < 99) : o < 173 := by
  rcases Nat.lt_or_ge o 173 with q | q
  · exact q
  · unfold bf_kd at h
    rw [List.getD_eq_getElem?_getD, List.getElem?_eq_none (by rw [show bf_kl.length = 173 from rfl]; exact q)] at h
    rw [← h] at hc
    exact absurd hc (by decide)
abbrev bf_ok (i : Int32) (n : Nat) : Prop := ¬ i < 0 ∧ i.toNatClampNeg < n
theorem bf_ok_in {i : Int32} {n : Nat} (h : bf_ok i n) : vp_in i n := fun q => q.elim h.1 (fun q => absurd h.2 (Nat.not_lt.mpr q))
def bf_max (x y : Int32) : Int32 := if x < y then y else x
def bf_min (x y : Int32) : Int32 := if y < x then y else x
def bf_minL (x y : Int64) : Int64 := if y < x then y else x
def bf_absL (x : Int64) : Int64 := if 0 < x then x else -x
def bf_cpok (sp dp n : Int32) (a b : Nat) : Prop := ¬ sp < 0 ∧ ¬ dp < 0 ∧ ¬ n < 0 ∧ sp.toNatClampNeg + n.toNatClampNeg ≤ bf_le a ∧ dp.toNatClampNeg + n.toNatClampNeg ≤ bf_le b
abbrev bf_cpOK (sp dp n : Int32) (a b : Nat) : Prop := ¬ sp < 0 ∧ ¬ dp < 0 ∧ ¬ n < 0 ∧ sp.toNatClampNeg + n.toNatClampNeg ≤ bf_le a ∧ dp.toNatClampNeg + n.toNatClampNeg ≤ bf_le b
theorem bf_bind {α β : Type} {x : Option α} {f : α → Option β} {b : β} (h : x.bind f = some b) : ∃ a, x = some a ∧ f a = some b := by
  cases x with
  | none => cases h
  | some a => exact ⟨a, rfl, h⟩
theorem bf_nne {x : Int32} {n : Int32} (h : ¬ x = n) : x.toInt ≠ n.toInt := fun q => h (Int32.toInt_inj.mp q)
section BFM
variable {Γ : bf_Gm} {R : Room} {μ : bf_Mt} {E : Array Value → State → Prop} {Z : List Frame → Array Value → State → State → Prop} {k : Nat × Nat} {pc : Nat} {lv : List (Nat × Value)} {st : List Value} {ad : Nat → Nat} {I : Nat → Nat → Int32} {L : Nat → Nat → Int64}
theorem bf_geti {idx o c i N : Nat} {C : String} {T : u_T} (hd : decode μ.2.1 pc = .ok (.getfield idx, 3)) (hlk : Cond.fieldLink μ.1.cls idx (T i).1 (T i).2.1 (T i).2.2.1 ∈ bf_T) (hk : bf_kd o = c) (hc13 : c < 13) (hc : vwCl[c]? = some (C, T, N)) (hin : ∀ w ∈ u_ws C T N, w ∈ bf_T) (hi : i < N) (hnf : i < bf_nf c) (hf : bf_fo c i = 0)
    (kk : bf_Go Γ R μ E Z k (pc + 3) lv (.int (I o i) :: st) (bf_S ad I L)) : bf_Go Γ R μ E Z k pc lv (.ref (ad o) :: st) (bf_S ad I L) := by
  intro p e s m args below meth c' H locs ls S hE hP hD hS hl
  have he := bf_wl_at (cy := Γ.2.2.1) (h := bf_S ad I L) (o := o) (bf_kd_lt hk (by omega))
  rw [bf_ce_obj hk hc13] at he
  refine va_get (ci := c) (v := .int (I o i)) S.1 S.2.1 S.2.2.2.2.2.1 hin S.2.2.2.2.1 S.2.2.2.2.2.2.2.2.1.1 hP o he hc i hi (S.2.2.2.2.2.1 _ hlk) (fun _ h9 => h9) ?_ hd (kk p e s m args below meth c' H locs ls S hE hP hD hS hl)
  rw [bf_fs_at hnf, if_pos hf]
theorem bf_getr {idx o c i N f : Nat} {C : String} {T : u_T} (hd : decode μ.2.1 pc = .ok (.getfield idx, 3)) (hlk : Cond.fieldLink μ.1.cls idx (T i).1 (T i).2.1 (T i).2.2.1 ∈ bf_T) (hk : bf_kd o = c) (hc13 : c < 13) (hc : vwCl[c]? = some (C, T, N)) (hin : ∀ w ∈ u_ws C T N, w ∈ bf_T) (hi : i < N) (hnf : i < bf_nf c) (hf : bf_fo c i = f) (hf0 : f ≠ 0)
    (kk : bf_Go Γ R μ E Z k (pc + 3) lv (.ref (ad (o + f)) :: st) (bf_S ad I L)) : bf_Go Γ R μ E Z k pc lv (.ref (ad o) :: st) (bf_S ad I L) := by
  intro p e s m args below meth c' H locs ls S hE hP hD hS hl
  have he := bf_wl_at (cy := Γ.2.2.1) (h := bf_S ad I L) (o := o) (bf_kd_lt hk (by omega))
  rw [bf_ce_obj hk hc13] at he
  refine va_get (ci := c) (v := .ref (ad (o + f))) S.1 S.2.1 S.2.2.2.2.2.1 hin S.2.2.2.2.1 S.2.2.2.2.2.2.2.2.1.1 hP o he hc i hi (S.2.2.2.2.2.1 _ hlk) (fun _ h9 => h9) ?_ hd (kk p e s m args below meth c' H locs ls S hE hP hD hS hl)
  rw [bf_fs_at hnf, if_neg (by rw [hf]; exact hf0)]
  show some (va_rf ((bf_R0 o i).map ad)) = _
  unfold bf_R0
  rw [hk, if_pos hc13, hf, if_neg hf0]
  rfl
theorem bf_puti {idx o c i N : Nat} {C : String} {T : u_T} {x : Int32} {ty : FieldType} (ty0 : Nat → FieldType) (hd : decode μ.2.1 pc = .ok (.putfield idx, 3)) (hlk : Cond.fieldLink μ.1.cls idx (T i).1 (T i).2.1 (T i).2.2.1 ∈ bf_T) (hk : bf_kd o = c) (hc13 : c < 13) (hc : vwCl[c]? = some (C, T, N)) (hin : ∀ w ∈ u_ws C T N, w ∈ bf_T) (hty : ∀ j, j < N → parseFieldDescriptor (T j).2.2.1 = some (ty0 j)) (hnm : ∀ a, a < N → ∀ b, b < N → a ≠ b → (T a).2.1 ≠ (T b).2.1) (hi : i < N) (hnf : i < bf_nf c) (hf : bf_fo c i = 0) (hfin : (T i).2.2.2 = false) (hp : parseFieldDescriptor (T i).2.2.1 = some ty) (hnr : narrow ty (.int x) = .int x) (hft : fits ty (.int x) = true)
    (kk : bf_Go Γ R μ E Z k (pc + 3) lv st (bf_S ad (bf_u I o i x) L)) : bf_Go Γ R μ E Z k pc lv (.int x :: .ref (ad o) :: st) (bf_S ad I L) := by
  intro p e s m args below meth c' H locs ls S hE hP hD hS hl
  have ho : o < 173 := bf_kd_lt hk (by omega)
  have he := bf_wl_at (cy := Γ.2.2.1) (h := bf_S ad I L) (o := o) ho
  rw [bf_ce_obj hk hc13] at he
  refine va_put (ci := c) (v := .int x) S.1 S.2.1 S.2.2.2.2.2.1 hin ty0 hty hnm S.2.2.2.2.1 S.2.2.2.2.2.2.2.2.1.1 hP hD hS o he hc i hi (S.2.2.2.2.2.1 _ hlk) (fun _ h9 => h9) hfin hp hnr hft (by rw [bf_fs_len]; exact hnf) hd (fun H1 locs1 hP1 hD1 hS1 => ?_)
  rw [bf_wl_setI ho hk hc13 hnf hf] at hP1 hD1
  exact kk p e s m args below meth c' H1 locs1 ls S hE hP1 hD1 hS1 hl
theorem bf_iald {a : Nat} {i : Int32} (hd : decode μ.2.1 pc = .ok (.iaload, 1)) (hk : bf_kd a = 14) (hin : bf_ok i (bf_le a)) (kk : bf_Go Γ R μ E Z k (pc + 1) lv (.int (I a i.toNatClampNeg) :: st) (bf_S ad I L)) : bf_Go Γ R μ E Z k pc lv (.int i :: .ref (ad a) :: st) (bf_S ad I L) := by
  intro p e s m args below meth c' H locs ls S hE hP hD hS hl
  have he := bf_wl_at (cy := Γ.2.2.1) (h := bf_S ad I L) (o := a) (bf_kd_lt hk (by decide))
  rw [bf_ce_int hk] at he
  exact va_iald S.1 S.2.1 S.2.2.2.2.2.2.2.2.1.1 hP a 1 he rfl (bf_ok_in hin) hd (kk p e s m args below meth c' H locs ls S hE hP hD hS hl)
theorem bf_bald {a : Nat} {i : Int32} (hd : decode μ.2.1 pc = .ok (.baload, 1)) (hk : bf_kd a = 13) (hin : bf_ok i (bf_le a)) (kk : bf_Go Γ R μ E Z k (pc + 1) lv (.int (I a i.toNatClampNeg) :: st) (bf_S ad I L)) : bf_Go Γ R μ E Z k pc lv (.int i :: .ref (ad a) :: st) (bf_S ad I L) := by
  intro p e s m args below meth c' H locs ls S hE hP hD hS hl
  have he := bf_wl_at (cy := Γ.2.2.1) (h := bf_S ad I L) (o := a) (bf_kd_lt hk (by decide))
  rw [bf_ce_byte hk] at he
  exact va_bald S.1 S.2.1 S.2.2.2.2.2.2.2.2.1.1 hP a 0 he rfl (bf_ok_in hin) hd (kk p e s m args below meth c' H locs ls S hE hP hD hS hl)
theorem bf_lald {a : Nat} {i : Int32} (hd : decode μ.2.1 pc = .ok (.laload, 1)) (hk : bf_kd a = 15) (hin : bf_ok i (bf_le a)) (kk : bf_Go Γ R μ E Z k (pc + 1) lv (.long (L a i.toNatClampNeg) :: st) (bf_S ad I L)) : bf_Go Γ R μ E Z k pc lv (.int i :: .ref (ad a) :: st) (bf_S ad I L) := by
  intro p e s m args below meth c' H locs ls S hE hP hD hS hl
  have he := bf_wl_at (cy := Γ.2.2.1) (h := bf_S ad I L) (o := a) (bf_kd_lt hk (by decide))
  rw [bf_ce_long hk] at he
  exact va_lald S.1 S.2.1 S.2.2.2.2.2.2.2.2.1.1 hP a 2 he rfl (bf_ok_in hin) hd (kk p e s m args below meth c' H locs ls S hE hP hD hS hl)
theorem bf_iast {a : Nat} {i x : Int32} (hd : decode μ.2.1 pc = .ok (.iastore, 1)) (hk : bf_kd a = 14) (hin : bf_ok i (bf_le a)) (kk : bf_Go Γ R μ E Z k (pc + 1) lv st (bf_S ad (bf_u I a i.toNatClampNeg x) L)) : bf_Go Γ R μ E Z k pc lv (.int x :: .int i :: .ref (ad a) :: st) (bf_S ad I L) := by
  intro p e s m args below meth c' H locs ls S hE hP hD hS hl
  have ho : a < 173 := bf_kd_lt hk (by decide)
  have he := bf_wl_at (cy := Γ.2.2.1) (h := bf_S ad I L) (o := a) ho
  rw [bf_ce_int hk] at he
  refine va_iast S.1 S.2.1 S.2.2.2.2.2.2.2.2.1.1 hP hD hS a 1 he rfl (bf_ok_in hin) hd (fun H1 locs1 hP1 hD1 hS1 => ?_)
  rw [bf_wl_int ho hk] at hP1 hD1
  exact kk p e s m args below meth c' H1 locs1 ls S hE hP1 hD1 hS1 hl
theorem bf_bast {a : Nat} {i x : Int32} (hd : decode μ.2.1 pc = .ok (.bastore, 1)) (hk : bf_kd a = 13) (hin : bf_ok i (bf_le a)) (kk : bf_Go Γ R μ E Z k (pc + 1) lv st (bf_S ad (bf_u I a i.toNatClampNeg (vp_nar .byte x)) L)) : bf_Go Γ R μ E Z k pc lv (.int x :: .int i :: .ref (ad a) :: st) (bf_S ad I L) := by
  intro p e s m args below meth c' H locs ls S hE hP hD hS hl
  have ho : a < 173 := bf_kd_lt hk (by decide)
  have he := bf_wl_at (cy := Γ.2.2.1) (h := bf_S ad I L) (o := a) ho
  rw [bf_ce_byte hk] at he
  refine va_bast S.1 S.2.1 S.2.2.2.2.2.2.2.2.1.1 hP hD hS a 0 he rfl (bf_ok_in hin) hd (fun H1 locs1 hP1 hD1 hS1 => ?_)
  rw [bf_wl_byte ho hk] at hP1 hD1
  exact kk p e s m args below meth c' H1 locs1 ls S hE hP1 hD1 hS1 hl
theorem bf_last {a : Nat} {i : Int32} {x : Int64} (hd : decode μ.2.1 pc = .ok (.lastore, 1)) (hk : bf_kd a = 15) (hin : bf_ok i (bf_le a)) (kk : bf_Go Γ R μ E Z k (pc + 1) lv st (bf_S ad I (bf_u L a i.toNatClampNeg x))) : bf_Go Γ R μ E Z k pc lv (.long x :: .int i :: .ref (ad a) :: st) (bf_S ad I L) := by
  intro p e s m args below meth c' H locs ls S hE hP hD hS hl
  have ho : a < 173 := bf_kd_lt hk (by decide)
  have he := bf_wl_at (cy := Γ.2.2.1) (h := bf_S ad I L) (o := a) ho
  rw [bf_ce_long hk] at he
  refine va_last S.1 S.2.1 S.2.2.2.2.2.2.2.2.1.1 hP hD hS a 2 he rfl (bf_ok_in hin) hd (fun H1 locs1 hP1 hD1 hS1 => ?_)
  rw [bf_wl_long ho hk] at hP1 hD1
  exact kk p e s m args below meth c' H1 locs1 ls S hE hP1 hD1 hS1 hl
theorem bf_aald {a t0 c : Nat} {C : String} {i : Int32} (hd : decode μ.2.1 pc = .ok (.aaload, 1)) (hk : bf_kd a = c) (hc : 15 < c ∧ c < 21) (ht : (bf_ty Γ.2.2.1)[t0]? = some (Γ.2.2.1 c, .object C)) (hin : bf_ok i (bf_le a)) {t : Nat} (hr : bf_R0 a i.toNatClampNeg = some t) (kk : bf_Go Γ R μ E Z k (pc + 1) lv (.ref (ad t) :: st) (bf_S ad I L)) : bf_Go Γ R μ E Z k pc lv (.int i :: .ref (ad a) :: st) (bf_S ad I L) := by
  intro p e s m args below meth c' H locs ls S hE hP hD hS hl
  have he := bf_wl_at (cy := Γ.2.2.1) (h := bf_S ad I L) (o := a) (bf_kd_lt hk (by omega))
  rw [bf_ce_ref hk hc.1] at he
  refine va_aldq S.1 S.2.1 S.2.2.2.2.2.2.2.2.1.1 hP a t0 he ht (bf_ok_in hin) hd ?_
  dsimp only
  rw [hr]
  exact kk p e s m args below meth c' H locs ls S hE hP hD hS hl
theorem bf_aldI {a : Nat} {i : Int32} (hd : decode μ.2.1 pc = .ok (.aaload, 1)) (hk : bf_kd a = 20) (hin : bf_ok i (bf_le a)) {t : Nat} (hr : bf_R0 a i.toNatClampNeg = some t) (kk : bf_Go Γ R μ E Z k (pc + 1) lv (.ref (ad t) :: st) (bf_S ad I L)) : bf_Go Γ R μ E Z k pc lv (.int i :: .ref (ad a) :: st) (bf_S ad I L) := by
  intro p e s m args below meth c' H locs ls S hE hP hD hS hl
  have he := bf_wl_at (cy := Γ.2.2.1) (h := bf_S ad I L) (o := a) (bf_kd_lt hk (by decide))
  rw [bf_ce_ref hk (by decide)] at he
  have hin2 := bf_ok_in hin
  have hlt : i.toNatClampNeg < bf_le a := hin.2
  refine W.aald (v := va_rf ((bf_R0 a i.toNatClampNeg).map ad)) (ty := .array .int) S.1 S.2.1 (hP a _ he) ((S.2.2.2.2.2.2.2.2.1.1.2 7 (Γ.2.2.1 20, .array .int) rfl).1 (bf_le a) (fun j => va_rf ((bf_R0 a j).map ad))) rfl (fun q => by cases q) (by show ¬ (i < 0 ∨ (arrV _ _ _).slots.size ≤ _); rw [arrV_size]; exact hin2) (by show (arrV _ _ _).slots[_]? = _; rw [arrV_read _ _ hlt]) rfl rfl hd ?_
  rw [hr]
  exact kk p e s m args below meth c' H locs ls S hE hP hD hS hl
theorem bf_alenI {a : Nat} (hd : decode μ.2.1 pc = .ok (.arraylength, 1)) (hk : bf_kd a = 14) (kk : bf_Go Γ R μ E Z k (pc + 1) lv (.int (Int32.ofNat (bf_le a)) :: st) (bf_S ad I L)) : bf_Go Γ R μ E Z k pc lv (.ref (ad a) :: st) (bf_S ad I L) := by
  intro p e s m args below meth c' H locs ls S hE hP hD hS hl
  have he := bf_wl_at (cy := Γ.2.2.1) (h := bf_S ad I L) (o := a) (bf_kd_lt hk (by decide))
  rw [bf_ce_int hk] at he
  exact va_alen (ty := .int) S.1 S.2.1 S.2.2.2.2.2.2.2.2.1.1 hP a 1 he rfl rfl hd (kk p e s m args below meth c' H locs ls S hE hP hD hS hl)
theorem bf_alenJ {a : Nat} (hd : decode μ.2.1 pc = .ok (.arraylength, 1)) (hk : bf_kd a = 15) (kk : bf_Go Γ R μ E Z k (pc + 1) lv (.int (Int32.ofNat (bf_le a)) :: st) (bf_S ad I L)) : bf_Go Γ R μ E Z k pc lv (.ref (ad a) :: st) (bf_S ad I L) := by
  intro p e s m args below meth c' H locs ls S hE hP hD hS hl
  have he := bf_wl_at (cy := Γ.2.2.1) (h := bf_S ad I L) (o := a) (bf_kd_lt hk (by decide))
  rw [bf_ce_long hk] at he
  exact va_alen (ty := .long) S.1 S.2.1 S.2.2.2.2.2.2.2.2.1.1 hP a 2 he rfl rfl hd (kk p e s m args below meth c' H locs ls S hE hP hD hS hl)
theorem bf_copyi {idx a b : Nat} {sp dp n : Int32} (hd : decode μ.2.1 pc = .ok (.invokestatic idx, 3)) (hw : Cond.methodLink μ.1.cls idx arraycopyName ∈ bf_T) (hw2 : Cond.native arraycopyName ∈ bf_T) (hw3 : Cond.static arraycopyName ∈ bf_T) (hw4 : Cond.initialized "java/lang/System" ∈ bf_T) (hka : bf_kd a = 14) (hkb : bf_kd b = 14) (hcp : bf_cpOK sp dp n a b) (hR : 1 ≤ R.frames) (hR2 : (st.map fun v => v.category).sum + (nativeFrameWords "java/lang/System" "arraycopy" 5 + 11) ≤ R.locals)
    (kk : bf_Go Γ R μ E Z k (pc + 3) lv st (bf_S ad (bf_w I b (va_cpy (I a) (I b) sp.toNatClampNeg dp.toNatClampNeg n.toNatClampNeg)) L)) : bf_Go Γ R μ E Z k pc lv (.int n :: .int dp :: .ref (ad b) :: .int sp :: .ref (ad a) :: st) (bf_S ad I L) := by
  intro p e s m args below meth c' H locs ls S hE hP hD hS hl
  have hoa : a < 173 := bf_kd_lt hka (by decide)
  have hob : b < 173 := bf_kd_lt hkb (by decide)
  have hea := bf_wl_at (cy := Γ.2.2.1) (h := bf_S ad I L) (o := a) hoa
  have heb := bf_wl_at (cy := Γ.2.2.1) (h := bf_S ad I L) (o := b) hob
  rw [bf_ce_int hka] at hea
  rw [bf_ce_int hkb] at heb
  refine va_copyi (ty := .int) S.1 S.2.1 (S.2.2.2.1.trans hl.1.symm) S.2.2.2.2.1 (S.2.2.2.2.2.1 _ hw) (S.2.2.2.2.2.1 _ hw2) (S.2.2.2.2.2.1 _ hw3) (S.2.2.2.2.2.1 _ hw4) S.2.2.2.2.2.2.2.2.1.1 hP hD hS a b 1 1 hea heb rfl rfl rfl hcp.1 hcp.2.1 hcp.2.2.1 hcp.2.2.2.1 hcp.2.2.2.2 (fun _ _ => rfl) hR hR2 hd (fun H1 locs1 hP1 hD1 hS1 => ?_)
  rw [bf_wl_intW hob hkb] at hP1 hD1
  exact kk p e s m args below meth c' H1 locs1 ls S hE hP1 hD1 hS1 hl
theorem bf_copyl {idx a b : Nat} {sp dp n : Int32} (hd : decode μ.2.1 pc = .ok (.invokestatic idx, 3)) (hw : Cond.methodLink μ.1.cls idx arraycopyName ∈ bf_T) (hw2 : Cond.native arraycopyName ∈ bf_T) (hw3 : Cond.static arraycopyName ∈ bf_T) (hw4 : Cond.initialized "java/lang/System" ∈ bf_T) (hka : bf_kd a = 15) (hkb : bf_kd b = 15) (hcp : bf_cpOK sp dp n a b) (hR : 1 ≤ R.frames) (hR2 : (st.map fun v => v.category).sum + (nativeFrameWords "java/lang/System" "arraycopy" 5 + 11) ≤ R.locals)
    (kk : bf_Go Γ R μ E Z k (pc + 3) lv st (bf_S ad I (bf_w L b (va_cpy (L a) (L b) sp.toNatClampNeg dp.toNatClampNeg n.toNatClampNeg)))) : bf_Go Γ R μ E Z k pc lv (.int n :: .int dp :: .ref (ad b) :: .int sp :: .ref (ad a) :: st) (bf_S ad I L) := by
  intro p e s m args below meth c' H locs ls S hE hP hD hS hl
  have hoa : a < 173 := bf_kd_lt hka (by decide)
  have hob : b < 173 := bf_kd_lt hkb (by decide)
  have hea := bf_wl_at (cy := Γ.2.2.1) (h := bf_S ad I L) (o := a) hoa
  have heb := bf_wl_at (cy := Γ.2.2.1) (h := bf_S ad I L) (o := b) hob
  rw [bf_ce_long hka] at hea
  rw [bf_ce_long hkb] at heb
  refine va_copyl (ty := .long) S.1 S.2.1 (S.2.2.2.1.trans hl.1.symm) S.2.2.2.2.1 (S.2.2.2.2.2.1 _ hw) (S.2.2.2.2.2.1 _ hw2) (S.2.2.2.2.2.1 _ hw3) (S.2.2.2.2.2.1 _ hw4) S.2.2.2.2.2.2.2.2.1.1 hP hD hS a b 2 2 hea heb rfl rfl rfl hcp.1 hcp.2.1 hcp.2.2.1 hcp.2.2.2.1 hcp.2.2.2.2 (fun _ _ => rfl) hR hR2 hd (fun H1 locs1 hP1 hD1 hS1 => ?_)
  rw [bf_wl_longW hob hkb] at hP1 hD1
  exact kk p e s m args below meth c' H1 locs1 ls S hE hP1 hD1 hS1 hl
theorem bf_mmax {h : bf_Hs} {idx : Nat} {x y : Int32} (hd : decode μ.2.1 pc = .ok (.invokestatic idx, 3)) (hw : Cond.methodLink μ.1.cls idx Lib.Math.max.name ∈ bf_T) (hw3 : Cond.static Lib.Math.max.name ∈ bf_T) (hw4 : Cond.initialized "java/lang/Math" ∈ bf_T) (hw5 : Cond.code Lib.Math.max.name Lib.Math.max.code 2 (some .int) ∈ bf_T) (hR : 1 ≤ R.frames) (hR2 : (st.map fun v => v.category).sum + 13 ≤ R.locals) (hk1 : k.1 ≤ R.cells) (hk2 : k.2 ≤ R.slots) (kk : bf_Go Γ R μ E Z k (pc + 3) lv (.int (bf_max x y) :: st) h) : bf_Go Γ R μ E Z k pc lv (.int y :: .int x :: st) h := by
  intro p e s m args below meth c' H locs ls S hE hP hD hS hl
  exact va_mmax S.1 S.2.1 (S.2.2.2.1.trans hl.1.symm) S.2.2.2.2.1 (S.2.2.2.2.2.1 _ hw) (S.2.2.2.2.2.1 _ hw3) (S.2.2.2.2.2.1 _ hw4) (S.2.2.2.2.2.1 _ hw5) hR hR2 hk1 hk2 hd (kk p e s m args below meth c' H locs ls S hE hP hD hS hl)
theorem bf_mmin {h : bf_Hs} {idx : Nat} {x y : Int32} (hd : decode μ.2.1 pc = .ok (.invokestatic idx, 3)) (hw : Cond.methodLink μ.1.cls idx Lib.Math.min.name ∈ bf_T) (hw3 : Cond.static Lib.Math.min.name ∈ bf_T) (hw4 : Cond.initialized "java/lang/Math" ∈ bf_T) (hw5 : Cond.code Lib.Math.min.name Lib.Math.min.code 2 (some .int) ∈ bf_T) (hR : 1 ≤ R.frames) (hR2 : (st.map fun v => v.category).sum + 13 ≤ R.locals) (hk1 : k.1 ≤ R.cells) (hk2 : k.2 ≤ R.slots) (kk : bf_Go Γ R μ E Z k (pc + 3) lv (.int (bf_min x y) :: st) h) : bf_Go Γ R μ E Z k pc lv (.int y :: .int x :: st) h := by
  intro p e s m args below meth c' H locs ls S hE hP hD hS hl
  exact va_mmin S.1 S.2.1 (S.2.2.2.1.trans hl.1.symm) S.2.2.2.2.1 (S.2.2.2.2.2.1 _ hw) (S.2.2.2.2.2.1 _ hw3) (S.2.2.2.2.2.1 _ hw4) (S.2.2.2.2.2.1 _ hw5) hR hR2 hk1 hk2 hd (kk p e s m args below meth c' H locs ls S hE hP hD hS hl)
theorem bf_mminL {h : bf_Hs} {idx : Nat} {x y : Int64} (hd : decode μ.2.1 pc = .ok (.invokestatic idx, 3)) (hw : Cond.methodLink μ.1.cls idx Lib.MathLoose.min_long.x ∈ bf_T) (hw3 : Cond.static Lib.MathLoose.min_long.x ∈ bf_T) (hw4 : Cond.initialized "java/lang/Math" ∈ bf_T) (hw5 : Cond.code Lib.MathLoose.min_long.x Lib.MathLoose.min_long.code 4 (some .long) ∈ bf_T) (hR : 1 ≤ R.frames) (hR2 : (st.map fun v => v.category).sum + 15 ≤ R.locals) (hk1 : k.1 ≤ R.cells) (hk2 : k.2 ≤ R.slots) (kk : bf_Go Γ R μ E Z k (pc + 3) lv (.long (bf_minL x y) :: st) h) : bf_Go Γ R μ E Z k pc lv (.long y :: .long x :: st) h := by
  intro p e s m args below meth c' H locs ls S hE hP hD hS hl
  exact va_mmin_long S.1 S.2.1 (S.2.2.2.1.trans hl.1.symm) S.2.2.2.2.1 (S.2.2.2.2.2.1 _ hw) (S.2.2.2.2.2.1 _ hw3) (S.2.2.2.2.2.1 _ hw4) (S.2.2.2.2.2.1 _ hw5) hR hR2 hk1 hk2 hd (kk p e s m args below meth c' H locs ls S hE hP hD hS hl)
theorem bf_mabsL {h : bf_Hs} {idx : Nat} {x : Int64} (hd : decode μ.2.1 pc = .ok (.invokestatic idx, 3)) (hw : Cond.methodLink μ.1.cls idx Lib.MathLoose.abs_long.x ∈ bf_T) (hw3 : Cond.static Lib.MathLoose.abs_long.x ∈ bf_T) (hw4 : Cond.initialized "java/lang/Math" ∈ bf_T) (hw5 : Cond.code Lib.MathLoose.abs_long.x Lib.MathLoose.abs_long.code 2 (some .long) ∈ bf_T) (hR : 1 ≤ R.frames) (hR2 : (st.map fun v => v.category).sum + 13 ≤ R.locals) (hk1 : k.1 ≤ R.cells) (hk2 : k.2 ≤ R.slots) (kk : bf_Go Γ R μ E Z k (pc + 3) lv (.long (bf_absL x) :: st) h) : bf_Go Γ R μ E Z k pc lv (.long x :: st) h := by
  intro p e s m args below meth c' H locs ls S hE hP hD hS hl
  exact va_mabs_long S.1 S.2.1 (S.2.2.2.1.trans hl.1.symm) S.2.2.2.2.1 (S.2.2.2.2.2.1 _ hw) (S.2.2.2.2.2.1 _ hw3) (S.2.2.2.2.2.1 _ hw4) (S.2.2.2.2.2.1 _ hw5) hR hR2 hk1 hk2 hd (kk p e s m args below meth c' H locs ls S hE hP hD hS hl)
end BFM
theorem bf_m1 {w : Cond} (h : w ∈ tables_1_1) (g : goodWord w = true) : w ∈ bf_T := bf_in (List.mem_append_right _ (List.mem_append_left _ h)) g
theorem bf_m2 {w : Cond} (h : w ∈ tables_1_2) (g : goodWord w = true) : w ∈ bf_T := bf_in (List.mem_append_right _ (List.mem_append_right _ (List.mem_append_left _ h))) g
theorem bf_m3 {w : Cond} (h : w ∈ tables_1_3) (g : goodWord w = true) : w ∈ bf_T := bf_in (List.mem_append_right _ (List.mem_append_right _ (List.mem_append_right _ (List.mem_append_left _ h)))) g
theorem bf_m4 {w : Cond} (h : w ∈ tables_1_4) (g : goodWord w = true) : w ∈ bf_T := bf_in (List.mem_append_right _ (List.mem_append_right _ (List.mem_append_right _ (List.mem_append_right _ (List.mem_append_left _ h))))) g
theorem bf_m5 {w : Cond} (h : w ∈ tables_1_5) (g : goodWord w = true) : w ∈ bf_T := bf_in (List.mem_append_right _ (List.mem_append_right _ (List.mem_append_right _ (List.mem_append_right _ (List.mem_append_right _ (List.mem_append_left _ h)))))) g
theorem bf_m6 {w : Cond} (h : w ∈ tables_1_6) (g : goodWord w = true) : w ∈ bf_T := bf_in (List.mem_append_right _ (List.mem_append_right _ (List.mem_append_right _ (List.mem_append_right _ (List.mem_append_right _ (List.mem_append_right _ h)))))) g
theorem bf_mp {w : Cond} (h : w ∈ k2_sels lw_privs) (g : goodWord w = true) : w ∈ bf_T := bf_in (List.mem_append_left _ h) g
