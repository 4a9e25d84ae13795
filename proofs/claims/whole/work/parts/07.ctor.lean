/-! the constructors: objects come one by one; what isn't there yet has its last rows already -/
def bf_Cl (n : Nat) (Rf : Nat → Nat → Option Nat) : Prop := ∀ o, o < n → ∀ j t, Rf o j = some t → t < n
theorem bf_ce_ad {cy : Nat → ClassId} {n m m2 o : Nat} {ad ad2 : Nat → Nat} {I I2 : Nat → Nat → Int32} {L L2 : Nat → Nat → Int64} {Rf R2 : Nat → Nat → Option Nat} (hA : ∀ i, i < n → ad2 i = ad i) (hI : I2 o = I o) (hL : L2 o = L o) (hR : R2 o = Rf o) (hc : ∀ j t, Rf o j = some t → t < n) : bf_ce cy (m2, ad2, I2, L2, R2) o = bf_ce cy (m, ad, I, L, Rf) o := by
  have hm : ∀ j, (Rf o j).map ad2 = (Rf o j).map ad := by
    intro j
    cases h : Rf o j with
    | none => rfl
    | some t => show some (ad2 t) = some (ad t); rw [hA t (hc j t h)]
  unfold bf_ce bf_fs
  dsimp only
  rw [hI, hL, hR]
  simp only [hm]
theorem bf_wl_push {cy : Nat → ClassId} {n : Nat} {ad ad2 : Nat → Nat} {I I2 : Nat → Nat → Int32} {L L2 : Nat → Nat → Int64} {Rf R2 : Nat → Nat → Option Nat} {e : va_E} (hA : ∀ i, i < n → ad2 i = ad i) (hCl : bf_Cl n Rf) (hI : ∀ o, o < n → I2 o = I o) (hL : ∀ o, o < n → L2 o = L o) (hR : ∀ o, o < n → R2 o = Rf o) (he : e = bf_ce cy (n + 1, ad2, I2, L2, R2) n) :
    bf_wl cy (n, ad, I, L, Rf) ++ [(ad2 n, e)] = bf_wl cy (n + 1, ad2, I2, L2, R2) := by
  unfold bf_wl
  dsimp only
  rw [List.range_succ, List.map_append]
  have h1 : (List.range n).map (fun o => (ad o, bf_ce cy (n, ad, I, L, Rf) o)) = (List.range n).map (fun o => (ad2 o, bf_ce cy (n + 1, ad2, I2, L2, R2) o)) := by
    apply List.map_congr_left
    intro o ho
    have ho := List.mem_range.mp ho
    rw [hA o ho, bf_ce_ad hA (hI o ho) (hL o ho) (hR o ho) (hCl o ho)]
  rw [h1, he]
  rfl
theorem bf_Cl_w {n : Nat} {Rf : Nat → Nat → Option Nat} (h : bf_Cl n Rf) : bf_Cl (n + 1) (bf_w Rf n (fun _ => none)) := by
  intro o ho j t hj
  by_cases q : o = n
  · subst q
    rw [bf_w_o] at hj
    cases hj
  · rw [bf_w_ne q] at hj
    have := h o (by omega) j t hj
    omega
theorem bf_Cl_k {n : Nat} {Rf : Nat → Nat → Option Nat} (h : bf_Cl n Rf) (h0 : ∀ j, Rf n j = none) : bf_Cl (n + 1) Rf := by
  intro o ho j t hj
  by_cases q : o = n
  · subst q
    rw [h0 j] at hj
    cases hj
  · have := h o (by omega) j t hj
    omega
theorem bf_Cl_u {n o i t : Nat} {Rf : Nat → Nat → Option Nat} (h : bf_Cl n Rf) (ht : t < n) : bf_Cl n (bf_u Rf o i (some t)) := by
  intro a ha j u hj
  by_cases q : a = o
  · subst q
    by_cases q2 : j = i
    · subst q2
      rw [bf_u_at] at hj
      cases hj
      exact ht
    · rw [bf_u_ni q2] at hj
      exact h a ha j u hj
  · rw [bf_u_ne q] at hj
    exact h a ha j u hj
theorem bf_wl_refs {cy : Nat → ClassId} {n : Nat} {ad : Nat → Nat} {I : Nat → Nat → Int32} {L : Nat → Nat → Int64} {Rf : Nat → Nat → Option Nat} {o i t c : Nat} (ho : o < n) (hk : bf_kd o = c) (hc : 15 < c) :
    (bf_wl cy (n, ad, I, L, Rf)).set o (ad o, .inl (cy c, bf_le o, .inr (.inr (.inr (.inr (va_up (fun j => (Rf o j).map ad) i (some (ad t)))))))) = bf_wl cy (n, ad, I, L, bf_u Rf o i (some t)) := by
  refine bf_wl_set (h := (n, ad, I, L, Rf)) (h2 := (n, ad, I, L, bf_u Rf o i (some t))) rfl rfl ho ?_ ?_
  · rw [bf_ce_ref hk hc]
    dsimp only
    rw [bf_u_o]
    have : va_up (fun j => (Rf o j).map ad) i (some (ad t)) = fun j => (va_up (Rf o) i (some t) j).map ad := by
      funext j
      unfold va_up
      by_cases q : j = i
      · rw [if_pos q, if_pos q]; rfl
      · rw [if_neg q, if_neg q]
    rw [this]
  · intro q hq
    unfold bf_ce
    dsimp only
    rw [bf_fs_neR hq, bf_u_ne hq]
section BFC
variable {Γ : bf_Gm} {R : Room} {μ : bf_Mt} {E : Array Value → State → Prop} {Z : List Frame → Array Value → State → State → Prop} {k : Nat × Nat} {pc : Nat} {lv : List (Nat × Value)} {st : List Value} {n : Nat} {ad : Nat → Nat} {I : Nat → Nat → Int32} {L : Nat → Nat → Int64} {Rf : Nat → Nat → Option Nat} {lvf : (Nat → Nat) → List (Nat × Value)} {stf : (Nat → Nat) → List Value}
theorem bf_xnew {idx ci N : Nat} {C : String} {T : u_T} (tyf : Nat → FieldType) (hd : decode μ.2.1 pc = .ok (.new idx, 3)) (hcl : Cond.classLink μ.1.cls idx C ∈ bf_T) (hinst : Cond.instantiable C N ∈ bf_T) (hini : Cond.initialized C ∈ bf_T) (hin : ∀ w ∈ u_ws C T N, w ∈ bf_T) (hty : ∀ j, j < N → parseFieldDescriptor (T j).2.2.1 = some (tyf j)) (hc : vwCl[ci]? = some (C, T, N)) (hkn : bf_kd n = ci) (hci : ci < 13) (hnf : bf_nf ci = N) (hdv : ∀ j, j < N → defaultValue (tyf j) = (if bf_fo ci j = 0 then .int 0 else .null)) (hk1 : k.1 + 1 ≤ R.cells) (hk2 : k.2 + N ≤ R.slots) (hCl : bf_Cl n Rf) (hf : ∀ ad2 : Nat → Nat, (∀ i, i < n → ad2 i = ad i) → lvf ad2 = lvf ad ∧ stf ad2 = stf ad)
    (kk : ∀ ad2 : Nat → Nat, (∀ i, i < n → ad2 i = ad i) → bf_Cl (n + 1) (bf_w Rf n (fun _ => none)) → bf_Go Γ R μ E Z (k.1 + 1, k.2 + N) (pc + 3) (lvf ad2) (.ref (ad2 n) :: stf ad2) (n + 1, ad2, bf_w I n (fun _ => 0), L, bf_w Rf n (fun _ => none))) : bf_Go Γ R μ E Z k pc (lvf ad) (stf ad) (n, ad, I, L, Rf) := by
  intro p e s m args below meth c H locs ls S hE hP hD hS hl
  have hA : ∀ q, s.heap.size ≤ q → bf_A Γ q := fun q hq => Nat.le_trans S.2.2.2.2.2.2.2.2.2 hq
  refine va_new (ci := ci) (fs := bf_fs ad (fun _ _ => 0) (fun _ _ => none) n ci) S.1 S.2.1 S.2.2.2.2.2.1 hin tyf hty S.2.2.2.2.1 (S.2.2.2.2.2.1 _ hcl) (S.2.2.2.2.2.1 _ hinst) (S.2.2.2.2.2.1 _ hini) S.2.2.2.2.2.2.2.2.1.1 hP hD hS hA hc ?_ hk1 hk2 hd (fun q H1 hP1 hD1 hS1 => ?_)
  · intro j hj
    rw [hdv j hj]
    show _ = (bf_fs ad (fun _ _ => 0) (fun _ _ => none) n ci).getD j .null
    rw [List.getD_eq_getElem?_getD, bf_fs_at (by rw [hnf]; exact hj)]
    by_cases q : bf_fo ci j = 0
    · rw [if_pos q, if_pos q]; rfl
    · rw [if_neg q, if_neg q]; rfl
  · have hA2 : ∀ i, i < n → va_up ad n q i = ad i := fun i hi => if_neg (by omega)
    have hq : va_up ad n q n = q := if_pos rfl
    have ew : bf_wl Γ.2.2.1 (n, ad, I, L, Rf) ++ [(va_up ad n q n, .inr (ci, bf_fs ad (fun _ _ => 0) (fun _ _ => none) n ci))] = bf_wl Γ.2.2.1 (n + 1, va_up ad n q, bf_w I n (fun _ => 0), L, bf_w Rf n (fun _ => none)) := by
      refine bf_wl_push hA2 hCl (fun o ho => bf_w_ne (by omega)) (fun _ _ => rfl) (fun o ho => bf_w_ne (by omega)) ?_
      rw [bf_ce_obj hkn hci]
      unfold bf_fs
      dsimp only
      rw [bf_w_o, bf_w_o]
      rfl
    rw [hq] at ew
    rw [ew] at hP1 hD1
    obtain ⟨f1, f2⟩ := hf _ hA2
    have K := kk _ hA2 (bf_Cl_w hCl) p e s m args below meth c H1 locs ls S hE hP1 hD1 hS1 (by rw [f1]; exact hl)
    rw [f2, hq] at K
    exact K
theorem bf_xnewI {x : Int32} {N : Nat} (hd : decode μ.2.1 pc = .ok (.newarray .int, 2)) (hw : Cond.arrayClass .int ∈ bf_T) (hx : ¬ x < 0) (hN : x.toNatClampNeg = N) (hb : N * componentBytes .int ≤ 536870912) (hkn : bf_kd n = 14) (hle : bf_le n = N) (hz : I n = fun _ => 0) (hrn : ∀ j, Rf n j = none) (hk1 : k.1 + 1 ≤ R.cells) (hk2 : k.2 + N ≤ R.slots) (hCl : bf_Cl n Rf) (hf : ∀ ad2 : Nat → Nat, (∀ i, i < n → ad2 i = ad i) → lvf ad2 = lvf ad ∧ stf ad2 = stf ad)
    (kk : ∀ ad2 : Nat → Nat, (∀ i, i < n → ad2 i = ad i) → bf_Cl (n + 1) Rf → bf_Go Γ R μ E Z (k.1 + 1, k.2 + N) (pc + 2) (lvf ad2) (.ref (ad2 n) :: stf ad2) (n + 1, ad2, I, L, Rf)) : bf_Go Γ R μ E Z k pc (lvf ad) (.int x :: stf ad) (n, ad, I, L, Rf) := by
  intro p e s m args below meth c H locs ls S hE hP hD hS hl
  have hA : ∀ q, s.heap.size ≤ q → bf_A Γ q := fun q hq => Nat.le_trans S.2.2.2.2.2.2.2.2.2 hq
  refine va_newa (atype := .int) (ty := .int) (a0 := (N, .inl (fun _ => 0))) S.1 S.2.1 (S.2.2.2.2.2.1 _ hw) rfl S.2.2.2.2.2.2.2.2.1.1 hP hD hS hA (fun _ => rfl) hx hN hb hk1 hk2 hd (fun q cA H1 hK2 hP1 hD1 hS1 => ?_)
  have hcA : cA = Γ.2.2.1 14 := by
    have h1 : s.vm.findClass ("[" ++ FieldType.int.toString) = some cA := (hK2.2 8 (cA, .int) rfl).2
    have h2 : s.vm.findClass ("[" ++ FieldType.int.toString) = some (Γ.2.2.1 14) := (S.2.2.2.2.2.2.2.2.1.1.2 1 (Γ.2.2.1 14, .int) rfl).2
    exact Option.some.inj (h1.symm.trans h2)
  subst hcA
  have hA2 : ∀ i, i < n → va_up ad n q i = ad i := fun i hi => if_neg (by omega)
  have hq : va_up ad n q n = q := if_pos rfl
  have ew : bf_wl Γ.2.2.1 (n, ad, I, L, Rf) ++ [(va_up ad n q n, .inl (Γ.2.2.1 14, N, .inl (fun _ => 0)))] = bf_wl Γ.2.2.1 (n + 1, va_up ad n q, I, L, Rf) := by
    refine bf_wl_push hA2 hCl (fun _ _ => rfl) (fun _ _ => rfl) (fun _ _ => rfl) ?_
    rw [bf_ce_int hkn, hle]
    dsimp only
    rw [hz]
  rw [hq] at ew
  rw [ew] at hP1 hD1
  obtain ⟨f1, f2⟩ := hf _ hA2
  have K := kk _ hA2 (bf_Cl_k hCl hrn) p e s m args below meth c H1 locs ls S hE hP1 hD1 hS1 (by rw [f1]; exact hl)
  rw [f2, hq] at K
  exact K
theorem bf_xnewB {x : Int32} {N : Nat} (hd : decode μ.2.1 pc = .ok (.newarray .byte, 2)) (hw : Cond.arrayClass .byte ∈ bf_T) (hx : ¬ x < 0) (hN : x.toNatClampNeg = N) (hb : N * componentBytes .byte ≤ 536870912) (hkn : bf_kd n = 13) (hle : bf_le n = N) (hz : I n = fun _ => 0) (hrn : ∀ j, Rf n j = none) (hk1 : k.1 + 1 ≤ R.cells) (hk2 : k.2 + N ≤ R.slots) (hCl : bf_Cl n Rf) (hf : ∀ ad2 : Nat → Nat, (∀ i, i < n → ad2 i = ad i) → lvf ad2 = lvf ad ∧ stf ad2 = stf ad)
    (kk : ∀ ad2 : Nat → Nat, (∀ i, i < n → ad2 i = ad i) → bf_Cl (n + 1) Rf → bf_Go Γ R μ E Z (k.1 + 1, k.2 + N) (pc + 2) (lvf ad2) (.ref (ad2 n) :: stf ad2) (n + 1, ad2, I, L, Rf)) : bf_Go Γ R μ E Z k pc (lvf ad) (.int x :: stf ad) (n, ad, I, L, Rf) := by
  intro p e s m args below meth c H locs ls S hE hP hD hS hl
  have hA : ∀ q, s.heap.size ≤ q → bf_A Γ q := fun q hq => Nat.le_trans S.2.2.2.2.2.2.2.2.2 hq
  refine va_newa (atype := .byte) (ty := .byte) (a0 := (N, .inl (fun _ => 0))) S.1 S.2.1 (S.2.2.2.2.2.1 _ hw) rfl S.2.2.2.2.2.2.2.2.1.1 hP hD hS hA (fun _ => rfl) hx hN hb hk1 hk2 hd (fun q cA H1 hK2 hP1 hD1 hS1 => ?_)
  have hcA : cA = Γ.2.2.1 13 := by
    have h1 : s.vm.findClass ("[" ++ FieldType.byte.toString) = some cA := (hK2.2 8 (cA, .byte) rfl).2
    have h2 : s.vm.findClass ("[" ++ FieldType.byte.toString) = some (Γ.2.2.1 13) := (S.2.2.2.2.2.2.2.2.1.1.2 0 (Γ.2.2.1 13, .byte) rfl).2
    exact Option.some.inj (h1.symm.trans h2)
  subst hcA
  have hA2 : ∀ i, i < n → va_up ad n q i = ad i := fun i hi => if_neg (by omega)
  have hq : va_up ad n q n = q := if_pos rfl
  have ew : bf_wl Γ.2.2.1 (n, ad, I, L, Rf) ++ [(va_up ad n q n, .inl (Γ.2.2.1 13, N, .inl (fun _ => 0)))] = bf_wl Γ.2.2.1 (n + 1, va_up ad n q, I, L, Rf) := by
    refine bf_wl_push hA2 hCl (fun _ _ => rfl) (fun _ _ => rfl) (fun _ _ => rfl) ?_
    rw [bf_ce_byte hkn, hle]
    dsimp only
    rw [hz]
  rw [hq] at ew
  rw [ew] at hP1 hD1
  obtain ⟨f1, f2⟩ := hf _ hA2
  have K := kk _ hA2 (bf_Cl_k hCl hrn) p e s m args below meth c H1 locs ls S hE hP1 hD1 hS1 (by rw [f1]; exact hl)
  rw [f2, hq] at K
  exact K
theorem bf_xnewJ {x : Int32} {N : Nat} (hd : decode μ.2.1 pc = .ok (.newarray .long, 2)) (hw : Cond.arrayClass .long ∈ bf_T) (hx : ¬ x < 0) (hN : x.toNatClampNeg = N) (hb : N * componentBytes .long ≤ 536870912) (hkn : bf_kd n = 15) (hle : bf_le n = N) (hz : L n = fun _ => 0) (hrn : ∀ j, Rf n j = none) (hk1 : k.1 + 1 ≤ R.cells) (hk2 : k.2 + N ≤ R.slots) (hCl : bf_Cl n Rf) (hf : ∀ ad2 : Nat → Nat, (∀ i, i < n → ad2 i = ad i) → lvf ad2 = lvf ad ∧ stf ad2 = stf ad)
    (kk : ∀ ad2 : Nat → Nat, (∀ i, i < n → ad2 i = ad i) → bf_Cl (n + 1) Rf → bf_Go Γ R μ E Z (k.1 + 1, k.2 + N) (pc + 2) (lvf ad2) (.ref (ad2 n) :: stf ad2) (n + 1, ad2, I, L, Rf)) : bf_Go Γ R μ E Z k pc (lvf ad) (.int x :: stf ad) (n, ad, I, L, Rf) := by
  intro p e s m args below meth c H locs ls S hE hP hD hS hl
  have hA : ∀ q, s.heap.size ≤ q → bf_A Γ q := fun q hq => Nat.le_trans S.2.2.2.2.2.2.2.2.2 hq
  refine va_newa (atype := .long) (ty := .long) (a0 := (N, .inr (.inl (fun _ => 0)))) S.1 S.2.1 (S.2.2.2.2.2.1 _ hw) rfl S.2.2.2.2.2.2.2.2.1.1 hP hD hS hA (fun _ => rfl) hx hN hb hk1 hk2 hd (fun q cA H1 hK2 hP1 hD1 hS1 => ?_)
  have hcA : cA = Γ.2.2.1 15 := by
    have h1 : s.vm.findClass ("[" ++ FieldType.long.toString) = some cA := (hK2.2 8 (cA, .long) rfl).2
    have h2 : s.vm.findClass ("[" ++ FieldType.long.toString) = some (Γ.2.2.1 15) := (S.2.2.2.2.2.2.2.2.1.1.2 2 (Γ.2.2.1 15, .long) rfl).2
    exact Option.some.inj (h1.symm.trans h2)
  subst hcA
  have hA2 : ∀ i, i < n → va_up ad n q i = ad i := fun i hi => if_neg (by omega)
  have hq : va_up ad n q n = q := if_pos rfl
  have ew : bf_wl Γ.2.2.1 (n, ad, I, L, Rf) ++ [(va_up ad n q n, .inl (Γ.2.2.1 15, N, .inr (.inl (fun _ => 0))))] = bf_wl Γ.2.2.1 (n + 1, va_up ad n q, I, L, Rf) := by
    refine bf_wl_push hA2 hCl (fun _ _ => rfl) (fun _ _ => rfl) (fun _ _ => rfl) ?_
    rw [bf_ce_long hkn, hle]
    dsimp only
    rw [hz]
  rw [hq] at ew
  rw [ew] at hP1 hD1
  obtain ⟨f1, f2⟩ := hf _ hA2
  have K := kk _ hA2 (bf_Cl_k hCl hrn) p e s m args below meth c H1 locs ls S hE hP1 hD1 hS1 (by rw [f1]; exact hl)
  rw [f2, hq] at K
  exact K
theorem bf_xnewQ {idx t0 cc : Nat} {C : String} {x : Int32} {N : Nat} (hd : decode μ.2.1 pc = .ok (.anewarray idx, 3)) (hcl : Cond.classLink μ.1.cls idx C ∈ bf_T) (hAO : ∀ s : State, bf_K Γ s → va_AO C s) (ht : (bf_ty Γ.2.2.1)[t0]? = some (Γ.2.2.1 cc, .object C)) (hx : ¬ x < 0) (hN : x.toNatClampNeg = N) (hb : N * 4 ≤ 536870912) (hkn : bf_kd n = cc) (hcc : 15 < cc) (hle : bf_le n = N) (hk1 : k.1 + 1 ≤ R.cells) (hk2 : k.2 + N ≤ R.slots) (hCl : bf_Cl n Rf) (hf : ∀ ad2 : Nat → Nat, (∀ i, i < n → ad2 i = ad i) → lvf ad2 = lvf ad ∧ stf ad2 = stf ad)
    (kk : ∀ ad2 : Nat → Nat, (∀ i, i < n → ad2 i = ad i) → bf_Cl (n + 1) (bf_w Rf n (fun _ => none)) → bf_Go Γ R μ E Z (k.1 + 1, k.2 + N) (pc + 3) (lvf ad2) (.ref (ad2 n) :: stf ad2) (n + 1, ad2, I, L, bf_w Rf n (fun _ => none))) : bf_Go Γ R μ E Z k pc (lvf ad) (.int x :: stf ad) (n, ad, I, L, Rf) := by
  intro p e s m args below meth c H locs ls S hE hP hD hS hl
  have hA : ∀ q, s.heap.size ≤ q → bf_A Γ q := fun q hq => Nat.le_trans S.2.2.2.2.2.2.2.2.2 hq
  refine va_newq S.1 S.2.1 S.2.2.2.2.1 (S.2.2.2.2.2.1 _ hcl) (hAO s S.2.2.2.2.2.2.2.2.1) S.2.2.2.2.2.2.2.2.1.1 hP hD hS hA hx hN hb hk1 hk2 hd (fun q cA H1 hK2 hP1 hD1 hS1 => ?_)
  have hcA : cA = Γ.2.2.1 cc := by
    obtain ⟨k1, c1, -, -, -, h1⟩ := (hK2.2 8 (cA, .object C) rfl).2
    obtain ⟨k2, c2, -, -, -, h2⟩ := (S.2.2.2.2.2.2.2.2.1.1.2 t0 (Γ.2.2.1 cc, .object C) ht).2
    exact Option.some.inj (h1.symm.trans h2)
  subst hcA
  have hA2 : ∀ i, i < n → va_up ad n q i = ad i := fun i hi => if_neg (by omega)
  have hq : va_up ad n q n = q := if_pos rfl
  have ew : bf_wl Γ.2.2.1 (n, ad, I, L, Rf) ++ [(va_up ad n q n, .inl (Γ.2.2.1 cc, N, .inr (.inr (.inr (.inr (fun _ => none))))))] = bf_wl Γ.2.2.1 (n + 1, va_up ad n q, I, L, bf_w Rf n (fun _ => none)) := by
    refine bf_wl_push hA2 hCl (fun _ _ => rfl) (fun _ _ => rfl) (fun o ho => bf_w_ne (by omega)) ?_
    rw [bf_ce_ref hkn hcc, hle]
    dsimp only
    rw [bf_w_o]
    rfl
  rw [hq] at ew
  rw [ew] at hP1 hD1
  obtain ⟨f1, f2⟩ := hf _ hA2
  have K := kk _ hA2 (bf_Cl_w hCl) p e s m args below meth c H1 locs ls S hE hP1 hD1 hS1 (by rw [f1]; exact hl)
  rw [f2, hq] at K
  exact K
theorem bf_xast {a t t0 cc ci N : Nat} {C : String} {T : u_T} {i : Int32} (hd : decode μ.2.1 pc = .ok (.aastore, 1)) (ha : a < n) (ht : t < n) (hka : bf_kd a = cc) (hcc : 15 < cc) (hkt : bf_kd t = ci) (hci : ci < 13) (hc : vwCl[ci]? = some (C, T, N)) (hty : (bf_ty Γ.2.2.1)[t0]? = some (Γ.2.2.1 cc, .object C)) (hin : bf_ok i (bf_le a)) (kk : bf_Go Γ R μ E Z k (pc + 1) lv st (n, ad, I, L, bf_u Rf a i.toNatClampNeg (some t))) : bf_Go Γ R μ E Z k pc lv (.ref (ad t) :: .int i :: .ref (ad a) :: st) (n, ad, I, L, Rf) := by
  intro p e s m args below meth c H locs ls S hE hP hD hS hl
  have hea := bf_wl_at (cy := Γ.2.2.1) (h := (n, ad, I, L, Rf)) (o := a) ha
  have het := bf_wl_at (cy := Γ.2.2.1) (h := (n, ad, I, L, Rf)) (o := t) ht
  rw [bf_ce_ref hka hcc] at hea
  rw [bf_ce_obj hkt hci] at het
  refine va_astq S.1 S.2.1 S.2.2.2.2.2.2.2.2.1.1 hP hD hS a t0 t ci hea hty het hc (bf_ok_in hin) hd (fun H1 locs1 hP1 hD1 hS1 => ?_)
  dsimp only at hP1 hD1
  rw [bf_wl_refs ha hka hcc] at hP1 hD1
  exact kk p e s m args below meth c H1 locs1 ls S hE hP1 hD1 hS1 hl
theorem bf_xputI {idx o ci i N : Nat} {C : String} {T : u_T} {x : Int32} {ty : FieldType} (tyf : Nat → FieldType) (hd : decode μ.2.1 pc = .ok (.putfield idx, 3)) (hlk : Cond.fieldLink μ.1.cls idx (T i).1 (T i).2.1 (T i).2.2.1 ∈ bf_T) (ho : o < n) (hk : bf_kd o = ci) (hc13 : ci < 13) (hc : vwCl[ci]? = some (C, T, N)) (hin : ∀ w ∈ u_ws C T N, w ∈ bf_T) (hty : ∀ j, j < N → parseFieldDescriptor (T j).2.2.1 = some (tyf j)) (hnm : ∀ a, a < N → ∀ b, b < N → a ≠ b → (T a).2.1 ≠ (T b).2.1) (hi : i < N) (hnf : i < bf_nf ci) (hf : bf_fo ci i = 0) (hfin : (T i).2.2.2 = false) (hp : parseFieldDescriptor (T i).2.2.1 = some ty) (hnr : narrow ty (.int x) = .int x) (hft : fits ty (.int x) = true)
    (kk : bf_Go Γ R μ E Z k (pc + 3) lv st (n, ad, bf_u I o i x, L, Rf)) : bf_Go Γ R μ E Z k pc lv (.int x :: .ref (ad o) :: st) (n, ad, I, L, Rf) := by
  intro p e s m args below meth c' H locs ls S hE hP hD hS hl
  have he := bf_wl_at (cy := Γ.2.2.1) (h := (n, ad, I, L, Rf)) (o := o) ho
  rw [bf_ce_obj hk hc13] at he
  refine va_put (ci := ci) (v := .int x) S.1 S.2.1 S.2.2.2.2.2.1 hin tyf hty hnm S.2.2.2.2.1 S.2.2.2.2.2.2.2.2.1.1 hP hD hS o he hc i hi (S.2.2.2.2.2.1 _ hlk) (fun _ h9 => h9) hfin hp hnr hft (by rw [bf_fs_len]; exact hnf) hd (fun H1 locs1 hP1 hD1 hS1 => ?_)
  rw [bf_wl_setI ho hk hc13 hnf hf] at hP1 hD1
  exact kk p e s m args below meth c' H1 locs1 ls S hE hP1 hD1 hS1 hl
theorem bf_xputR {idx o ci i N t : Nat} {C : String} {T : u_T} {ty : FieldType} (tyf : Nat → FieldType) (hd : decode μ.2.1 pc = .ok (.putfield idx, 3)) (hlk : Cond.fieldLink μ.1.cls idx (T i).1 (T i).2.1 (T i).2.2.1 ∈ bf_T) (ho : o < n) (hk : bf_kd o = ci) (hc13 : ci < 13) (hc : vwCl[ci]? = some (C, T, N)) (hin : ∀ w ∈ u_ws C T N, w ∈ bf_T) (hty : ∀ j, j < N → parseFieldDescriptor (T j).2.2.1 = some (tyf j)) (hnm : ∀ a, a < N → ∀ b, b < N → a ≠ b → (T a).2.1 ≠ (T b).2.1) (hi : i < N) (hnf : i < bf_nf ci) (hf : bf_fo ci i ≠ 0) (hfin : (T i).2.2.2 = true) (hnin : μ.1.name = "<init>") (hdcl : (T i).1 = μ.1.cls) (hp : parseFieldDescriptor (T i).2.2.1 = some ty) (hnr : ∀ a : Nat, narrow ty (.ref a) = .ref a) (hft : ∀ a : Nat, fits ty (.ref a) = true)
    (kk : bf_Go Γ R μ E Z k (pc + 3) lv st (n, ad, I, L, bf_u Rf o i (some t))) : bf_Go Γ R μ E Z k pc lv (.ref (ad t) :: .ref (ad o) :: st) (n, ad, I, L, Rf) := by
  intro p e s m args below meth c' H locs ls S hE hP hD hS hl
  have he := bf_wl_at (cy := Γ.2.2.1) (h := (n, ad, I, L, Rf)) (o := o) ho
  rw [bf_ce_obj hk hc13] at he
  refine va_putF (ci := ci) (v := .ref (ad t)) S.1 S.2.1 S.2.2.2.2.2.1 hin tyf hty hnm S.2.2.2.2.1 S.2.2.2.2.2.2.2.2.1.1 hP hD hS o he hc i hi (S.2.2.2.2.2.1 _ hlk) (fun _ h9 => h9) hfin (S.2.2.2.2.2.2.2.1.trans hnin) hdcl hp (hnr _) (hft _) (by rw [bf_fs_len]; exact hnf) hd (fun H1 locs1 hP1 hD1 hS1 => ?_)
  rw [bf_wl_setR ho hk hc13 hnf hf] at hP1 hD1
  exact kk p e s m args below meth c' H1 locs1 ls S hE hP1 hD1 hS1 hl
theorem bf_xgetR {idx o ci i N t : Nat} {C : String} {T : u_T} (hd : decode μ.2.1 pc = .ok (.getfield idx, 3)) (hlk : Cond.fieldLink μ.1.cls idx (T i).1 (T i).2.1 (T i).2.2.1 ∈ bf_T) (ho : o < n) (hk : bf_kd o = ci) (hc13 : ci < 13) (hc : vwCl[ci]? = some (C, T, N)) (hin : ∀ w ∈ u_ws C T N, w ∈ bf_T) (hi : i < N) (hnf : i < bf_nf ci) (hf : bf_fo ci i ≠ 0) (ht : Rf o i = some t)
    (kk : bf_Go Γ R μ E Z k (pc + 3) lv (.ref (ad t) :: st) (n, ad, I, L, Rf)) : bf_Go Γ R μ E Z k pc lv (.ref (ad o) :: st) (n, ad, I, L, Rf) := by
  intro p e s m args below meth c' H locs ls S hE hP hD hS hl
  have he := bf_wl_at (cy := Γ.2.2.1) (h := (n, ad, I, L, Rf)) (o := o) ho
  rw [bf_ce_obj hk hc13] at he
  refine va_get (ci := ci) (v := .ref (ad t)) S.1 S.2.1 S.2.2.2.2.2.1 hin S.2.2.2.2.1 S.2.2.2.2.2.2.2.2.1.1 hP o he hc i hi (S.2.2.2.2.2.1 _ hlk) (fun _ h9 => h9) ?_ hd (kk p e s m args below meth c' H locs ls S hE hP hD hS hl)
  rw [bf_fs_at hnf, if_neg hf]
  show some (va_rf ((Rf o i).map ad)) = _
  rw [ht]
  rfl
theorem bf_xiast {a : Nat} {i x : Int32} (hd : decode μ.2.1 pc = .ok (.iastore, 1)) (ha : a < n) (hk : bf_kd a = 14) (hin : bf_ok i (bf_le a)) (kk : bf_Go Γ R μ E Z k (pc + 1) lv st (n, ad, bf_u I a i.toNatClampNeg x, L, Rf)) : bf_Go Γ R μ E Z k pc lv (.int x :: .int i :: .ref (ad a) :: st) (n, ad, I, L, Rf) := by
  intro p e s m args below meth c' H locs ls S hE hP hD hS hl
  have he := bf_wl_at (cy := Γ.2.2.1) (h := (n, ad, I, L, Rf)) (o := a) ha
  rw [bf_ce_int hk] at he
  refine va_iast S.1 S.2.1 S.2.2.2.2.2.2.2.2.1.1 hP hD hS a 1 he rfl (bf_ok_in hin) hd (fun H1 locs1 hP1 hD1 hS1 => ?_)
  rw [bf_wl_int ha hk] at hP1 hD1
  exact kk p e s m args below meth c' H1 locs1 ls S hE hP1 hD1 hS1 hl
theorem bf_xobj {idx a : Nat} {h : bf_Hs} (hd : decode μ.2.1 pc = .ok (.invokespecial idx, 3)) (hl1 : Cond.methodLink μ.1.cls idx objectInit ∈ bf_T) (hl2 : Cond.instanceMethod objectInit ∈ bf_T) (hl3 : Cond.code objectInit ⟨#[0xb1]⟩ 1 none ∈ bf_T) (hR1 : 1 ≤ R.frames) (hR2 : (st.map fun v => v.category).sum + 12 ≤ R.locals) (kk : bf_Go Γ R μ E Z k (pc + 3) lv st h) : bf_Go Γ R μ E Z k pc lv (.ref a :: st) h := by
  intro p e s m args below meth c' H locs ls S hE hP hD hS hl
  exact W.objInit S.1 S.2.1 S.2.2.2.2.1 (S.2.2.2.2.2.1 _ hl1) (S.2.2.2.2.2.1 _ hl2) (S.2.2.2.2.2.1 _ hl3) rfl (hl.1.trans S.2.2.2.1.symm) rfl hd hR1 (by show 2 * 0 + _ + 12 ≤ _; omega) (kk p e s m args below meth c' H locs ls S hE hP hD hS hl)
/-- a constructor's contract -/
def bf_Qx (n : Nat) (ad : Nat → Nat) (n2 : Nat) (I2 : Nat → Nat → Int32) (L2 : Nat → Nat → Int64) (R2 : Nat → Nat → Option Nat) : Option Value → bf_Hs → Prop := fun q h => q = none ∧ ∃ ad2 : Nat → Nat, (∀ i, i < n → ad2 i = ad i) ∧ h = (n2, ad2, I2, L2, R2) ∧ bf_Cl n2 R2
theorem bf_xcall {ν : bf_Mt} {d mc ms idx o n2 : Nat} {As : List Value} {I2 : Nat → Nat → Int32} {L2 : Nat → Nat → Int64} {R2 : Nat → Nat → Option Nat} (hd : decode μ.2.1 pc = .ok (.invokespecial idx, 3)) (hst : st = As.reverse ++ .ref (ad o) :: stf ad) (hr : ν.2.2.2 = none) (hl1 : Cond.methodLink μ.1.cls idx ν.1 ∈ bf_T) (hl2 : Cond.instanceMethod ν.1 ∈ bf_T) (hl4 : Cond.initialized ν.1.cls ∈ bf_T) (hl5 : Cond.code ν.1 ν.2.1 ν.2.2.1 none ∈ bf_T) (hnm0 : ν.1.name = "<init>")
    (hds : ν.1.cls ≠ "java/lang/invoke/MethodHandle" ∧ ν.1.cls ≠ "java/lang/invoke/VarHandle" ∧ (parseMethodDescriptor ν.1.desc).map (fun d => d.parameters.length) = some As.length) (hR : d + 1 ≤ R.frames ∧ 8 + (ν.2.2.1 + 11) + 64 * d ≤ R.locals) (hcs : k.1 + mc ≤ R.cells ∧ k.2 + ms ≤ R.slots) (hw : ((stf ad).map fun v => v.category).sum ≤ 8) (hf : ∀ ad2 : Nat → Nat, (∀ i, i < n → ad2 i = ad i) → lvf ad2 = lvf ad ∧ stf ad2 = stf ad)
    (hC : bf_Cn Γ d ν mc ms (.ref (ad o) :: As) (n, ad, I, L, Rf) (bf_Qx n ad n2 I2 L2 R2))
    (kk : ∀ ad2 : Nat → Nat, (∀ i, i < n → ad2 i = ad i) → bf_Cl n2 R2 → bf_Go Γ R μ E Z (k.1 + mc, k.2 + ms) (pc + 3) (lvf ad2) (stf ad2) (n2, ad2, I2, L2, R2)) : bf_Go Γ R μ E Z k pc (lvf ad) st (n, ad, I, L, Rf) := by
  intro p e s m args below meth c H locs ls S hE hP hD hS hl
  subst hst
  obtain ⟨hx, hb, hr0, hml, hown, hts, hlk, hnm, hK, hbs⟩ := S
  unfold bf_Cn at hC
  rw [hr] at hC
  have cw := cwI (R := R) (rm := bf_rm d mc ms) (mc := mc) (ms := ms) (own := μ.1.cls) (index := idx) As.length hts (bf_good (ws := .code ν.1 ν.2.1 ν.2.2.1 none :: bf_T) (fun w h9 => by
    rcases List.mem_cons.mp h9 with rfl | h9
    · exact hl5
    · exact h9)) rfl rfl rfl (hts _ hl4) (hts _ hl1) (hts _ hl2) hnm0 hds hR
  have hrun := va_runI (p := p) (l := Γ.1) (e := e) (R := R) (below := below) (meth := meth) (locs := locs) (cells := k.1) (slots := k.2) (b := ad o) (As := As) (rest := stf ad) (g := F0 m pc ls (As.reverse ++ .ref (ad o) :: stf ad)) ⟨hx, hb, hml, hown, hts⟩ hC cw ⟨bf_blind, fun U hU hW => ⟨rfl, hK.warm hW, by rw [hU]; exact Nat.le_trans hbs hS.1, by rw [hU]; exact ⟨hP, hD⟩⟩⟩ rfl rfl hl.1 rfl (lv_room hw) hd hcs
  intro T0 hT X
  obtain ⟨v, st₀, t, T', Lc, h0, X', hL, e1, e2, ⟨⟨r, h2, hv, hp, hP2, hD2⟩, hz, hkp⟩, stp⟩ := hrun T0 hT X
  cases hv
  obtain ⟨rfl, ad2, hA2, rfl, hCl2⟩ := hp
  rw [h0] at hz hkp
  obtain ⟨f1, f2⟩ := hf _ hA2
  have K := kk ad2 hA2 hCl2 p e s m args below meth c T'.heap (locs ++ Lc) ls ⟨hx, hb, hr0, hml, hown, hts, hlk, hnm, hK, hbs⟩ hE (by rw [e1]; exact hP2) hD2
    ⟨Nat.le_trans hS.1 (by rw [e1]; exact hz), fun q g1 g2 => by rw [e1, hkp q (Nat.lt_of_lt_of_le g1 hS.1) g2]; exact hS.2.1 q g1 g2, fun q hq => by
      rcases List.mem_append.mp hq with g | g
      · exact hS.2.2 q g
      · exact hL q g⟩ (by rw [f1]; exact hl)
  rw [f2] at K
  obtain ⟨t2, a1, b1⟩ := K T' rfl X'
  exact ⟨t2, stp t2 a1, b1⟩
end BFC
theorem bf_u_w {α : Type} {f : Nat → Nat → α} {o i : Nat} {r : Nat → α} {v : α} : bf_u (bf_w f o r) o i v = bf_w f o (va_up r i v) := by
  funext a
  by_cases h : a = o
  · subst h; rw [bf_u_o, bf_w_o, bf_w_o]
  · rw [bf_u_ne h, bf_w_ne h, bf_w_ne h]
theorem bf_u_w2 {α : Type} {f : Nat → Nat → α} {o p i : Nat} {r s : Nat → α} {v : α} (hop : o ≠ p) : bf_u (bf_w (bf_w f o r) p s) o i v = bf_w (bf_w f o (va_up r i v)) p s := by
  funext a
  by_cases h : a = o
  · subst h; rw [bf_u_o, bf_w_ne hop, bf_w_ne hop, bf_w_o, bf_w_o]
  · by_cases h2 : a = p
    · subst h2; rw [bf_u_ne h, bf_w_o, bf_w_o]
    · rw [bf_u_ne h, bf_w_ne h2, bf_w_ne h2, bf_w_ne h, bf_w_ne h]
theorem bf_w_self {α : Type} {f : Nat → Nat → α} {o : Nat} : bf_w f o (f o) = f := by
  funext a
  by_cases h : a = o
  · subst h; rw [bf_w_o]
  · rw [bf_w_ne h]
theorem bf_same {Γ : bf_Gm} {R : Room} {μ : bf_Mt} {E : Array Value → State → Prop} {Z : List Frame → Array Value → State → State → Prop} {k : Nat × Nat} {pc : Nat} {lv : List (Nat × Value)} {st : List Value} {n : Nat} {ad : Nat → Nat} {I I2 : Nat → Nat → Int32} {L L2 : Nat → Nat → Int64} {Rf R2 : Nat → Nat → Option Nat} (hI : ∀ o, o < n → I2 o = I o) (hL : ∀ o, o < n → L2 o = L o) (hR : ∀ o, o < n → R2 o = Rf o) (kk : bf_Go Γ R μ E Z k pc lv st (n, ad, I2, L2, R2)) : bf_Go Γ R μ E Z k pc lv st (n, ad, I, L, Rf) := by
  have hw : bf_wl Γ.2.2.1 (n, ad, I2, L2, R2) = bf_wl Γ.2.2.1 (n, ad, I, L, Rf) := by
    unfold bf_wl
    dsimp only
    apply List.map_congr_left
    intro o ho
    have ho := List.mem_range.mp ho
    unfold bf_ce bf_fs
    dsimp only
    rw [hI o ho, hL o ho, hR o ho]
  intro p e s m args below meth c H locs ls S hE hP hD hS hl
  exact kk p e s m args below meth c H locs ls S hE (by rw [hw]; exact hP) (by rw [hw]; exact hD) hS hl
def bf_I0 (p : Nat) : Nat → Int32 := if bf_kd p = 8 then va_up (va_up (fun _ => 0) 0 (-1)) 1 0 else if p = 170 then va_up (va_up (va_up (va_up (va_up (va_up (fun _ => 0) 0 (-1)) 1 (-1)) 2 (-1)) 3 (-1)) 4 (-1)) 5 (-1) else fun _ => 0
def bf_L0 (_ : Nat) : Nat → Int64 := fun _ => 0
/-- from o on, so many objects: the rows as they will be -/
def bf_Fu (o sz : Nat) (I : Nat → Nat → Int32) (L : Nat → Nat → Int64) (Rf : Nat → Nat → Option Nat) : Prop := ∀ p, o ≤ p → p < o + sz → I p = bf_I0 p ∧ L p = bf_L0 p ∧ Rf p = bf_R0 p
theorem bf_up0 (i : Nat) : va_up (fun _ => (0 : Int32)) i 0 = fun _ => 0 := by
  funext j
  unfold va_up
  split <;> rfl
theorem bf_wS {α : Type} {f : Nat → Nat → α} {o : Nat} {r : Nat → α} (h : r = f o) : bf_w f o r = f := by rw [h]; exact bf_w_self
theorem bf_widen {Γ : bf_Gm} {R : Room} {μ : bf_Mt} {E : Array Value → State → Prop} {Z : List Frame → Array Value → State → State → Prop} {k k2 : Nat × Nat} {pc : Nat} {lv : List (Nat × Value)} {st : List Value} {h : bf_Hs} (h1 : k.1 ≤ k2.1) (h2 : k.2 ≤ k2.2) (kk : bf_Go Γ R μ E Z k2 pc lv st h) : bf_Go Γ R μ E Z k pc lv st h := by
  intro p e s m args below meth c H locs ls S hE hP hD hS hl
  exact W.widen h1 h2 (kk p e s m args below meth c H locs ls S hE hP hD hS hl)
theorem bf_xmulti {Γ : bf_Gm} {R : Room} {μ : bf_Mt} {E : Array Value → State → Prop} {Z : List Frame → Array Value → State → State → Prop} {k : Nat × Nat} {pc : Nat} {n : Nat} {ad : Nat → Nat} {I : Nat → Nat → Int32} {L : Nat → Nat → Int64} {Rf : Nat → Nat → Option Nat} {lvf : (Nat → Nat) → List (Nat × Value)} {stf : (Nat → Nat) → List Value} {idx : Nat} (hd : decode μ.2.1 pc = .ok (.multianewarray idx 2, 4)) (hcl : Cond.classLink μ.1.cls idx "[[I" ∈ bf_T) (hw : Cond.arrayClass .int ∈ bf_T) (hkn : bf_kd n = 20) (hkj : ∀ j, j < 9 → bf_kd (n + 1 + j) = 14 ∧ bf_le (n + 1 + j) = 8) (hle : bf_le n = 9) (hz : ∀ j, j < 9 → I (n + 1 + j) = fun _ => 0) (hrn : Rf n = fun j => if j < 9 then some (n + 1 + j) else none) (hrj : ∀ j, j < 9 → ∀ q, Rf (n + 1 + j) q = none) (hk1 : k.1 + 10 ≤ R.cells) (hk2 : k.2 + 81 ≤ R.slots) (hCl : bf_Cl n Rf) (hf : ∀ ad2 : Nat → Nat, (∀ i, i < n → ad2 i = ad i) → lvf ad2 = lvf ad ∧ stf ad2 = stf ad)
    (kk : ∀ ad2 : Nat → Nat, (∀ i, i < n → ad2 i = ad i) → bf_Cl (n + 10) Rf → bf_Go Γ R μ E Z (k.1 + 10, k.2 + 81) (pc + 4) (lvf ad2) (.ref (ad2 n) :: stf ad2) (n + 10, ad2, I, L, Rf)) : bf_Go Γ R μ E Z k pc (lvf ad) (.int 8 :: .int 9 :: stf ad) (n, ad, I, L, Rf) := by
  intro p e s m args below meth c H locs ls S hE hP hD hS hl
  intro T hT X
  have hb : c.code = μ.2.1 := S.2.1
  obtain ⟨vm₁, cA, comp, fA, fC, X', step⟩ := mu_step X S.1 S.2.2.2.2.1 (S.2.2.2.2.2.1 _ hcl) S.2.2.2.2.2.2.2.2.1.2.2.2.2.2.2 (S.2.2.2.2.2.1 _ hw) (g := F0 m pc ls (.int 8 :: .int 9 :: stf ad)) rfl (by rw [hb]; exact hd) rfl hk1 hk2
  have hcA : cA = Γ.2.2.1 20 := by
    have h2 : s.vm.findClass ("[" ++ (FieldType.array .int).toString) = some (Γ.2.2.1 20) := (S.2.2.2.2.2.2.2.2.1.1.2 7 (Γ.2.2.1 20, .array .int) rfl).2
    exact Option.some.inj (fA.symm.trans h2)
  have hco : comp = Γ.2.2.1 14 := by
    have h2 : s.vm.findClass ("[" ++ FieldType.int.toString) = some (Γ.2.2.1 14) := (S.2.2.2.2.2.2.2.2.1.1.2 1 (Γ.2.2.1 14, .int) rfl).2
    exact Option.some.inj (fC.symm.trans h2)
  subst hcA hco
  have hTh : (T.setVm vm₁).heap = H := hT
  have f1 := mu_F_size (T.setVm vm₁) (Γ.2.2.1 20) (Γ.2.2.1 14) 9
  have f2 := mu_F_out (T.setVm vm₁) (Γ.2.2.1 20) (Γ.2.2.1 14) 9
  have hold : ∀ x : Nat, x < H.size → (mu_F (T.setVm vm₁) (Γ.2.2.1 20) (Γ.2.2.1 14) 9).heap[x]? = H[x]? := fun x hx => by
    rw [mu_F_old (T.setVm vm₁) (Γ.2.2.1 20) (Γ.2.2.1 14) (by rw [hTh]; exact hx) 9, hTh]
  have hrow : ∀ j : Nat, j < 9 → (mu_F (T.setVm vm₁) (Γ.2.2.1 20) (Γ.2.2.1 14) 9).heap[H.size + 1 + j]? = some (vp_cell (Γ.2.2.1 14) (8, .inl (fun _ => 0))) := fun j hj => by
    have := mu_F_in (T.setVm vm₁) (Γ.2.2.1 20) (Γ.2.2.1 14) 9 hj
    rw [hTh] at this
    rw [this, vp_cell_i, ← arrV_new]
    rfl
  rw [hTh] at f1 f2
  have hTs : T.heap.size = H.size := by rw [hT]
  rw [hTs] at X' step
  generalize mu_F (T.setVm vm₁) (Γ.2.2.1 20) (Γ.2.2.1 14) 9 = F at X' step f1 f2 hold hrow
  obtain ⟨ad2, had2⟩ : ∃ ad2 : Nat → Nat, ad2 = fun i => if i < n then ad i else H.size + (i - n) := ⟨_, rfl⟩
  have hA2 : ∀ i, i < n → ad2 i = ad i := fun i hi => by rw [had2]; exact if_pos hi
  have hA3 : ∀ i, n ≤ i → ad2 i = H.size + (i - n) := fun i hi => by rw [had2]; exact if_neg (by omega)
  have hCl2 : bf_Cl (n + 10) Rf := by
    intro o ho j t hj
    by_cases q : o < n
    · have := hCl o q j t hj
      omega
    · by_cases q2 : o = n
      · subst q2
        rw [hrn] at hj
        dsimp only at hj
        by_cases q3 : j < 9
        · rw [if_pos q3] at hj
          cases hj
          omega
        · rw [if_neg q3] at hj
          cases hj
      · obtain ⟨i, rfl⟩ : ∃ i, o = n + 1 + i := ⟨o - (n + 1), by omega⟩
        rw [hrj i (by omega) j] at hj
        cases hj
  have hlt : ∀ o, o < n → ad o < H.size := fun o ho => (hP o _ (bf_wl_at (cy := Γ.2.2.1) (h := (n, ad, I, L, Rf)) ho)).lt
  have hat : ∀ (o : Nat) (q : Nat × va_E), (bf_wl Γ.2.2.1 (n + 10, ad2, I, L, Rf))[o]? = some q → o < n + 10 ∧ q = (ad2 o, bf_ce Γ.2.2.1 (n + 10, ad2, I, L, Rf) o) := by
    intro o q hq
    have ho : o < n + 10 := by
      have h1 := (List.getElem?_eq_some_iff.mp hq).1
      unfold bf_wl at h1
      rw [List.length_map, List.length_range] at h1
      exact h1
    refine ⟨ho, ?_⟩
    rw [bf_wl_at (h := (n + 10, ad2, I, L, Rf)) ho] at hq
    exact (Option.some.inj hq).symm
  have hPn : va_P Γ.2.1 vwCl (bf_wl Γ.2.2.1 (n + 10, ad2, I, L, Rf)) F.heap := by
    intro o q hq
    obtain ⟨ho, rfl⟩ := hat o q hq
    by_cases h1 : o < n
    · rw [hA2 o h1, bf_ce_ad (m := n) hA2 rfl rfl rfl (hCl o h1)]
      exact (hP o _ (bf_wl_at (cy := Γ.2.2.1) (h := (n, ad, I, L, Rf)) h1)).kept (hold _ (hlt o h1))
    · by_cases h2 : o = n
      · subst h2
        rw [hA3 o (Nat.le_refl _), bf_ce_ref hkn (by decide), hle]
        show F.heap[H.size + (o - o)]? = some (vp_cell (Γ.2.2.1 20) _)
        rw [Nat.sub_self, Nat.add_zero, f2, vp_cell_q, mu_out]
        refine congrArg some (congrArg (arrV (Γ.2.2.1 20) 9) (funext fun j => ?_))
        show va_rf _ = va_rf ((Rf o j).map ad2)
        rw [hrn]
        dsimp only
        by_cases q3 : j < 9
        · rw [if_pos q3, if_pos q3]
          show va_rf (some (H.size + 1 + j)) = va_rf (some (ad2 (o + 1 + j)))
          rw [hA3 _ (by omega), show H.size + (o + 1 + j - o) = H.size + 1 + j by omega]
        · rw [if_neg q3, if_neg q3]
          rfl
      · obtain ⟨i, rfl⟩ : ∃ i, o = n + 1 + i := ⟨o - (n + 1), by omega⟩
        have hi : i < 9 := by omega
        rw [hA3 _ (by omega), bf_ce_int (hkj i hi).1, (hkj i hi).2]
        show F.heap[H.size + (n + 1 + i - n)]? = some (vp_cell (Γ.2.2.1 14) (8, .inl (I (n + 1 + i))))
        rw [show H.size + (n + 1 + i - n) = H.size + 1 + i by omega, hz i hi]
        exact hrow i hi
  have hDn : va_D (bf_A Γ) (bf_wl Γ.2.2.1 (n + 10, ad2, I, L, Rf)) := by
    refine ⟨fun i j x y hi hj hxy => ?_, fun o q hq => ?_⟩
    · obtain ⟨hi2, rfl⟩ := hat i x hi
      obtain ⟨hj2, rfl⟩ := hat j y hj
      have hxy : ad2 i = ad2 j := hxy
      by_cases h1 : i < n <;> by_cases h2 : j < n
      · rw [hA2 i h1, hA2 j h2] at hxy
        exact hD.1 i j _ _ (bf_wl_at (cy := Γ.2.2.1) (h := (n, ad, I, L, Rf)) h1) (bf_wl_at (cy := Γ.2.2.1) (h := (n, ad, I, L, Rf)) h2) hxy
      · rw [hA2 i h1, hA3 j (by omega)] at hxy
        have := hlt i h1
        omega
      · rw [hA3 i (by omega), hA2 j h2] at hxy
        have := hlt j h2
        omega
      · rw [hA3 i (by omega), hA3 j (by omega)] at hxy
        omega
    · obtain ⟨ho, rfl⟩ := hat o q hq
      by_cases h1 : o < n
      · show bf_A Γ (ad2 o)
        rw [hA2 o h1]
        exact hD.2 o _ (bf_wl_at (cy := Γ.2.2.1) (h := (n, ad, I, L, Rf)) h1)
      · show bf_A Γ (ad2 o)
        rw [hA3 o (by omega)]
        have h1 : Γ.2.2.2 ≤ s.heap.size := S.2.2.2.2.2.2.2.2.2
        have h2 := hS.1
        show Γ.2.2.2 ≤ _
        omega
  have hSn : va_S (bf_A Γ) s.heap F.heap (mu_L H.size locs 9) := ⟨by rw [f1]; have := hS.1; omega, fun x h1 h2 => (hold x (Nat.lt_of_lt_of_le h1 hS.1)).trans (hS.2.1 x h1 h2), mu_L_in hS.2.2 (Nat.le_trans S.2.2.2.2.2.2.2.2.2 hS.1) 9⟩
  obtain ⟨g1, g2⟩ := hf ad2 hA2
  have K := kk ad2 hA2 hCl2 p e s m args below meth c F.heap (mu_L H.size locs 9) ls S hE hPn hDn hSn (by rw [g1]; exact hl)
  rw [g2, hA3 n (Nat.le_refl _), Nat.sub_self, Nat.add_zero] at K
  obtain ⟨t, a1, b1⟩ := K F rfl X'
  exact ⟨t, step t a1, b1⟩
