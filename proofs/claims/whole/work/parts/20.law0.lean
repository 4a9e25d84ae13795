/-! THE CLAIM OUT OF ONE WALK OF THE LAW'S BODY. Your part is whole_start (and what it stands on); all else here is the same for every law, but numbers. -/
def R_law : String := "BoxFlowLaw"
def lw_P (b : Addr) (xs : List Int32) (args : Array Value) (s : State) : Prop := args = #[.ref b] ∧ s.IntsAt b xs ∧ xs.length ≤ 3072 ∧ (Jvm.Cond.and given_1 narrow_1).before args s = true
def lw_Q (_ : Array Value) (s : State) (o : Outcome) (t : State) : Prop := o = .returned (some (.int 1)) ∧ Framed s o t [] 600000 7302249
def lw_Z (below : List Frame) (a : Array Value) (s : State) : State → Prop := fun t => ∃ o, t.status = .running ∧ Ended t below o ∧ lw_Q a s o t
/-- the law's own end, with 1 on the stack, nothing written that was there before, its room as the claim has it -/
theorem lw_ret {p : Program} {l : Launch} {e : Env} {s : State} {m : MethodId} {below : List Frame} {meth : Method} {c : Code} {b : Nat} (hx : p.tables.exec = Jvm.exec) (hb : c.code = code) (hr : meth.sig.returnType = ret) (hlocks : meth.locks = false) {pc : Nat} {H : Heap} {ls : Array Slot} (hdg : decode code pc = .ok (.ireturn, 1)) : W p l e room_1 s m #[Value.ref b] below meth c H [] 600000 7302249 (lw_Z below #[Value.ref b] s) (F0 m pc ls [.int 1]) := by
  intro T hT X
  obtain ⟨fs, hret, hrun, hended, hW, hframe⟩ := X.leave (v := some (.int 1)) (hlocks := hlocks) (fun h => by rw [hr] at h; cases h)
  have hmeth' : T.vm.method? m = some meth := X.method'
  refine ⟨T.setFrames fs, ?_, .returned (some (.int 1)), hrun, hended, rfl, ⟨_, rfl⟩, hW, hframe⟩
  jvm_step X.here [X.here.top, hx, hb, hdg, hmeth', hr, ret, narrow_b1]
  (try refine ⟨rfl, ?_⟩); (try refine ⟨rfl, ?_⟩)
  first | (intro acts; rw [hret _ acts rfl rfl rfl]) | rw [hret _ _ rfl rfl rfl]
  exact Steps.refl _
/-- what holds at the law's entry: the machine, the code, the tables' words (any of lw_tbl by 'hts w (by decide +kernel)'), the script of L ints xs at the cell b, what the Statement gives of the start (any of its parts by flat_of_before) -/
def lw_At (p : Program) (s : State) (m : MethodId) (meth : Method) (c : Code) (b L : Nat) (xs : Nat → Int32) : Prop :=
  p.tables.exec = Jvm.exec ∧ c.code = code ∧ meth.sig.returnType = ret ∧ c.maxLocals = 4 ∧ s.vm.findClass R_law = some m.cls ∧ (∀ w ∈ lw_tbl, w.before #[Value.ref b] s = true) ∧ va_X b L xs s s.heap ∧ b < s.heap.size ∧ meth.locks = false ∧ (Jvm.Cond.and given_1 narrow_1).before #[Value.ref b] s = true
/-! rows for the law's own frame -/
abbrev bf_mL (nm : String) : bf_Mt := (⟨RL, nm, "([I)Z"⟩, cL_law, 4, ret)
def bf_E1 (Γ : bf_Gm) (b N : Nat) (xs : Nat → Int32) : Array Value → State → Prop := fun args s => args = #[Value.ref b] ∧ va_X b N xs s s.heap ∧ b < s.heap.size ∧ Γ.2.2.2 = s.heap.size
def bf_ZL (b : Nat) : List Frame → Array Value → State → State → Prop := fun below _ s => lw_Z below #[Value.ref b] s
section BFS
variable {Γ : bf_Gm} {R : Room} {μ : bf_Mt} {Z : List Frame → Array Value → State → State → Prop} {k : Nat × Nat} {pc : Nat} {lv : List (Nat × Value)} {st : List Value} {h : bf_Hs} {b N : Nat} {xs : Nat → Int32} {nm : String}
theorem bf_sld {i : Int32} (hd : decode μ.2.1 pc = .ok (.iaload, 1)) (hin : bf_ok i N) (kk : bf_Go Γ R μ (bf_E1 Γ b N xs) Z k (pc + 1) lv (.int (xs i.toNatClampNeg) :: st) h) : bf_Go Γ R μ (bf_E1 Γ b N xs) Z k pc lv (.int i :: .ref b :: st) h := by
  intro p e s m args below meth c H locs ls S hE hP hD hS hl
  have hbA : ¬ bf_A Γ b := by show ¬ Γ.2.2.2 ≤ b; rw [hE.2.2.2]; exact Nat.not_le.mpr hE.2.2.1
  exact va_sld S.1 S.2.1 hE.2.1 hE.2.2.1 hbA hS (bf_ok_in hin) hd (kk p e s m args below meth c H locs ls S hE hP hD hS hl)
theorem bf_slen (hd : decode μ.2.1 pc = .ok (.arraylength, 1)) (kk : bf_Go Γ R μ (bf_E1 Γ b N xs) Z k (pc + 1) lv (.int (Int32.ofNat N) :: st) h) : bf_Go Γ R μ (bf_E1 Γ b N xs) Z k pc lv (.ref b :: st) h := by
  intro p e s m args below meth c H locs ls S hE hP hD hS hl
  have hbA : ¬ bf_A Γ b := by show ¬ Γ.2.2.2 ≤ b; rw [hE.2.2.2]; exact Nat.not_le.mpr hE.2.2.1
  exact va_slen S.1 S.2.1 hE.2.1 hE.2.2.1 hbA hS hd (kk p e s m args below meth c H locs ls S hE hP hD hS hl)
theorem bf_lend (hd : decode cL_law pc = .ok (.ireturn, 1)) : bf_Go Γ room_1 (bf_mL nm) (bf_E1 Γ b N xs) (bf_ZL b) (173, 9215) pc lv [.int 1] h := by
  intro p e s m args below meth c H locs ls S hE hP hD hS hl
  obtain ⟨ha, -, -, hbs⟩ := hE
  subst ha
  refine va_forget (fun q hq => by have h1 : Γ.2.2.2 ≤ q.base := hS.2.2 q hq; rw [hbs] at h1; exact h1) ?_
  refine W.widen (k := 600000) (n := 7302249) (Nat.le_of_ble_eq_true rfl) (Nat.le_of_ble_eq_true rfl) ?_
  exact lw_ret S.1 S.2.1 S.2.2.1 S.2.2.2.2.2.2.1 hd
end BFS
theorem bf_arr {s : State} {args : Array Value} {ty : FieldType} (h : (Cond.arrayClass ty).before args s = true) : ∃ cA, ArrOfT s cA ty ∧ s.vm.findClass ("[" ++ ty.toString) = some cA := by
  obtain ⟨c, k, comp, h1, h2, h3⟩ := Cond.arrayClass_spec h
  exact ⟨c, fun _ _ => ⟨fun _ h => (by cases h), k, h2, comp, h3⟩, h1⟩
theorem bf_arq {s : State} {C : String} (h : va_AO C s) : ∃ cA, ArrOfT s cA (.object C) ∧ va_RA s cA (.object C) := by
  obtain ⟨comp, c, k, h1, -, h3, h4, h5⟩ := Cond.arrayOver_spec h
  exact ⟨c, fun _ _ => ⟨fun _ h => (by cases h), k, h3, comp, h4⟩, k, comp, h3, h4, h1, h5⟩
theorem bf_ara {s : State} (h : bf_AOA s) : ∃ cA, ArrOfT s cA (.array .int) ∧ va_RA s cA (.array .int) := by
  obtain ⟨comp, c, k, h1, h3, h4, h5⟩ := mu_over h
  exact ⟨c, fun _ _ => ⟨fun _ h => (by cases h), k, h3, comp, h4⟩, h5⟩
theorem tao_RX0 : Cond.arrayOver (.object RX0) ∈ lw_tbl := (List.mem_append_right _ (List.mem_append_left _ (List.mem_of_getElem? (i := 38) (by decide +kernel))))
theorem tao_RX1 : Cond.arrayOver (.object RX1) ∈ lw_tbl := (List.mem_append_right _ (List.mem_append_right _ (List.mem_append_left _ (List.mem_of_getElem? (i := 32) (by decide +kernel)))))
theorem tao_RX8 : Cond.arrayOver (.object RX8) ∈ lw_tbl := (List.mem_append_right _ (List.mem_append_right _ (List.mem_append_left _ (List.mem_of_getElem? (i := 85) (by decide +kernel)))))
theorem tao_RX10 : Cond.arrayOver (.object RX10) ∈ lw_tbl := (List.mem_append_right _ (List.mem_append_left _ (List.mem_of_getElem? (i := 62) (by decide +kernel))))
theorem tao_a : Cond.arrayOver (.array .int) ∈ lw_tbl := (List.mem_append_right _ (List.mem_append_right _ (List.mem_append_left _ (List.mem_of_getElem? (i := 8) (by decide +kernel)))))
theorem tne : bf_nest ∈ lw_tbl := (List.mem_append_right _ (List.mem_append_right _ (List.mem_append_right _ (List.mem_append_left _ (List.mem_of_getElem? (i := 6) (by decide +kernel))))))
theorem bf_start {s : State} {b : Nat} (hts : ∀ w ∈ lw_tbl, w.before #[Value.ref b] s = true) : ∃ (D : va_G) (cy : Nat → ClassId), ∀ (l : Launch) (base : Nat), bf_K (l, D, cy, base) s := by
  have htT : ∀ w ∈ bf_T, w.before #[Value.ref b] s = true := fun w hw => hts w (List.mem_filter.mp hw).1
  obtain ⟨c0, i0, hk0⟩ := u_known (C := RX0) (T := TX0) (N := 3) htT in_X0 (htT _ wj_X0)
  obtain ⟨c1, i1, hk1⟩ := u_known (C := RX1) (T := TX1) (N := 6) htT in_X1 (htT _ wj_X1)
  obtain ⟨c2, i2, hk2⟩ := u_known (C := RX2) (T := TX2) (N := 1) htT in_X2 (htT _ wj_X2)
  obtain ⟨c3, i3, hk3⟩ := u_known (C := RX3) (T := TX3) (N := 4) htT in_X3 (htT _ wj_X3)
  obtain ⟨c4, i4, hk4⟩ := u_known (C := RX4) (T := TX4) (N := 5) htT in_X4 (htT _ wj_X4)
  obtain ⟨c5, i5, hk5⟩ := u_known (C := RX5) (T := TX5) (N := 4) htT in_X5 (htT _ wj_X5)
  obtain ⟨c6, i6, hk6⟩ := u_known (C := RX6) (T := TX6) (N := 10) htT in_X6 (htT _ wj_X6)
  obtain ⟨c7, i7, hk7⟩ := u_known (C := RX7) (T := TX7) (N := 4) htT in_X7 (htT _ wj_X7)
  obtain ⟨c8, i8, hk8⟩ := u_known (C := RX8) (T := TX8) (N := 3) htT in_X8 (htT _ wj_X8)
  obtain ⟨c9, i9, hk9⟩ := u_known (C := RX9) (T := TX9) (N := 5) htT in_X9 (htT _ wj_X9)
  obtain ⟨c10, i10, hk10⟩ := u_known (C := RX10) (T := TX10) (N := 8) htT in_X10 (htT _ wj_X10)
  obtain ⟨c11, i11, hk11⟩ := u_known (C := RX11) (T := TX11) (N := 8) htT in_X11 (htT _ wj_X11)
  obtain ⟨c12, i12, hk12⟩ := u_known (C := RX12) (T := TX12) (N := 28) htT in_X12 (htT _ wj_X12)
  obtain ⟨a_byte, ha_byte⟩ := bf_arr (htT _ wy_byte)
  obtain ⟨a_int, ha_int⟩ := bf_arr (htT _ wy_int)
  obtain ⟨a_long, ha_long⟩ := bf_arr (htT _ wy_long)
  obtain ⟨a_RX0, ha_RX0⟩ := bf_arq (va_AO.of (hts _ tao_RX0))
  obtain ⟨a_RX1, ha_RX1⟩ := bf_arq (va_AO.of (hts _ tao_RX1))
  obtain ⟨a_RX8, ha_RX8⟩ := bf_arq (va_AO.of (hts _ tao_RX8))
  obtain ⟨a_RX10, ha_RX10⟩ := bf_arq (va_AO.of (hts _ tao_RX10))
  obtain ⟨a_a, ha_a⟩ := bf_ara (hts _ tao_a)
  refine ⟨(fun k => [c0, c1, c2, c3, c4, c5, c6, c7, c8, c9, c10, c11, c12].getD k c0, fun k => [i0, i1, i2, i3, i4, i5, i6, i7, i8, i9, i10, i11, i12].getD k i0), fun k => [a_byte, a_int, a_long, a_RX0, a_RX1, a_RX8, a_RX10, a_a].getD (k - 13) a_int, fun l base => ⟨⟨fun k q hq => ?_, fun k q hq => ?_⟩, va_Nw.of rfl (hts _ tne), va_AO.of (hts _ tao_RX0), va_AO.of (hts _ tao_RX1), va_AO.of (hts _ tao_RX8), va_AO.of (hts _ tao_RX10), hts _ tao_a⟩⟩
  · match k, hq with
    | 0, hq => cases hq; exact hk0
    | 1, hq => cases hq; exact hk1
    | 2, hq => cases hq; exact hk2
    | 3, hq => cases hq; exact hk3
    | 4, hq => cases hq; exact hk4
    | 5, hq => cases hq; exact hk5
    | 6, hq => cases hq; exact hk6
    | 7, hq => cases hq; exact hk7
    | 8, hq => cases hq; exact hk8
    | 9, hq => cases hq; exact hk9
    | 10, hq => cases hq; exact hk10
    | 11, hq => cases hq; exact hk11
    | 12, hq => cases hq; exact hk12
    | k + 13, hq => cases hq
  · match k, hq with
    | 0, hq => cases hq; exact ha_byte
    | 1, hq => cases hq; exact ha_int
    | 2, hq => cases hq; exact ha_long
    | 3, hq => cases hq; exact ha_RX0
    | 4, hq => cases hq; exact ha_RX1
    | 5, hq => cases hq; exact ha_RX8
    | 6, hq => cases hq; exact ha_RX10
    | 7, hq => cases hq; exact ha_a
    | k + 8, hq => cases hq
