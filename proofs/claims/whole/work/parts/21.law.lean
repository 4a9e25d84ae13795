theorem hk_flow : bf_kd 0 = 11 := by decide +kernel
theorem hk_model : bf_kd 156 = 12 := by decide +kernel
section BFL
variable {Γ : bf_Gm} {E : Array Value → State → Prop} {Z : List Frame → Array Value → State → State → Prop} {pc : Nat} {lv : List (Nat × Value)} {st : List Value} {ad : Nat → Nat} {I : Nat → Nat → Int32} {L : Nat → Nat → Int64} {nm : String}
theorem wdL_X11_box : yX11_box.cls ≠ "java/lang/invoke/MethodHandle" ∧ yX11_box.cls ≠ "java/lang/invoke/VarHandle" ∧ (parseMethodDescriptor yX11_box.desc).map (fun d => d.parameters.length) = some 2 := by decide +kernel
theorem cv_L_13 {σ2 : bf_St} {o : Nat} {a0 : Int32} {a1 : Int32} {x : Int32} (d : Nat) (hd : decode cL_law pc = .ok (.invokevirtual 13, 3)) (hm : RL = RL) (hR : d + 1 ≤ room_1.frames ∧ 8 + (3 + 11) + 64 * d ≤ room_1.locals) (hw : (st.map fun v => v.category).sum ≤ 8) (hk : bf_kd o = 11) (hC : bf_Cn Γ d mu_X11_box 0 0 [.ref (ad o), .int a0, .int a1] (bf_S ad I L) (fun q h => q = some (.int x) ∧ h = bf_S ad σ2.1 σ2.2)) (kk : bf_Go Γ room_1 (bf_mL nm) E Z (173, 9215) (pc + 3) lv (.int x :: st) (bf_S ad σ2.1 σ2.2)) : bf_Go Γ room_1 (bf_mL nm) E Z (173, 9215) pc lv (.int a1 :: .int a0 :: .ref (ad o) :: st) (bf_S ad I L) := bf_callV (μ := bf_mL nm) (k := (173, 9215)) (As := [.int a0, .int a1]) (rest := st) (mc := 0) (ms := 0) hd rfl wl_L_13 wm_X11_box wv_X11_box wi_X11 wc_X11_box ⟨rfl, wdL_X11_box⟩ hR ⟨Nat.le_of_ble_eq_true rfl, Nat.le_of_ble_eq_true rfl⟩ hw (bf_kd_lt hk (by decide)) hk (by decide) rfl hC (fun r h2 q => by obtain ⟨rfl, rfl⟩ := q; exact kk)
theorem wdL_X12_box : yX12_box.cls ≠ "java/lang/invoke/MethodHandle" ∧ yX12_box.cls ≠ "java/lang/invoke/VarHandle" ∧ (parseMethodDescriptor yX12_box.desc).map (fun d => d.parameters.length) = some 2 := by decide +kernel
theorem cv_L_17 {σ2 : bf_St} {o : Nat} {a0 : Int32} {a1 : Int32} {x : Int32} (d : Nat) (hd : decode cL_law pc = .ok (.invokevirtual 17, 3)) (hm : RL = RL) (hR : d + 1 ≤ room_1.frames ∧ 8 + (4 + 11) + 64 * d ≤ room_1.locals) (hw : (st.map fun v => v.category).sum ≤ 8) (hk : bf_kd o = 12) (hC : bf_Cn Γ d mu_X12_box 0 0 [.ref (ad o), .int a0, .int a1] (bf_S ad I L) (fun q h => q = some (.int x) ∧ h = bf_S ad σ2.1 σ2.2)) (kk : bf_Go Γ room_1 (bf_mL nm) E Z (173, 9215) (pc + 3) lv (.int x :: st) (bf_S ad σ2.1 σ2.2)) : bf_Go Γ room_1 (bf_mL nm) E Z (173, 9215) pc lv (.int a1 :: .int a0 :: .ref (ad o) :: st) (bf_S ad I L) := bf_callV (μ := bf_mL nm) (k := (173, 9215)) (As := [.int a0, .int a1]) (rest := st) (mc := 0) (ms := 0) hd rfl wl_L_17 wm_X12_box wv_X12_box wi_X12 wc_X12_box ⟨rfl, wdL_X12_box⟩ hR ⟨Nat.le_of_ble_eq_true rfl, Nat.le_of_ble_eq_true rfl⟩ hw (bf_kd_lt hk (by decide)) hk (by decide) rfl hC (fun r h2 q => by obtain ⟨rfl, rfl⟩ := q; exact kk)
theorem wdL_X11_wire : yX11_wire.cls ≠ "java/lang/invoke/MethodHandle" ∧ yX11_wire.cls ≠ "java/lang/invoke/VarHandle" ∧ (parseMethodDescriptor yX11_wire.desc).map (fun d => d.parameters.length) = some 4 := by decide +kernel
theorem cv_L_18 {σ2 : bf_St} {o : Nat} {a0 : Int32} {a1 : Int32} {a2 : Int32} {a3 : Int32} {x : Int32} (d : Nat) (hd : decode cL_law pc = .ok (.invokevirtual 18, 3)) (hm : RL = RL) (hR : d + 1 ≤ room_1.frames ∧ 8 + (5 + 11) + 64 * d ≤ room_1.locals) (hw : (st.map fun v => v.category).sum ≤ 8) (hk : bf_kd o = 11) (hC : bf_Cn Γ d mu_X11_wire 0 0 [.ref (ad o), .int a0, .int a1, .int a2, .int a3] (bf_S ad I L) (fun q h => q = some (.int x) ∧ h = bf_S ad σ2.1 σ2.2)) (kk : bf_Go Γ room_1 (bf_mL nm) E Z (173, 9215) (pc + 3) lv (.int x :: st) (bf_S ad σ2.1 σ2.2)) : bf_Go Γ room_1 (bf_mL nm) E Z (173, 9215) pc lv (.int a3 :: .int a2 :: .int a1 :: .int a0 :: .ref (ad o) :: st) (bf_S ad I L) := bf_callV (μ := bf_mL nm) (k := (173, 9215)) (As := [.int a0, .int a1, .int a2, .int a3]) (rest := st) (mc := 0) (ms := 0) hd rfl wl_L_18 wm_X11_wire wv_X11_wire wi_X11 wc_X11_wire ⟨rfl, wdL_X11_wire⟩ hR ⟨Nat.le_of_ble_eq_true rfl, Nat.le_of_ble_eq_true rfl⟩ hw (bf_kd_lt hk (by decide)) hk (by decide) rfl hC (fun r h2 q => by obtain ⟨rfl, rfl⟩ := q; exact kk)
theorem wdL_X12_wire : yX12_wire.cls ≠ "java/lang/invoke/MethodHandle" ∧ yX12_wire.cls ≠ "java/lang/invoke/VarHandle" ∧ (parseMethodDescriptor yX12_wire.desc).map (fun d => d.parameters.length) = some 4 := by decide +kernel
theorem cv_L_22 {σ2 : bf_St} {o : Nat} {a0 : Int32} {a1 : Int32} {a2 : Int32} {a3 : Int32} {x : Int32} (d : Nat) (hd : decode cL_law pc = .ok (.invokevirtual 22, 3)) (hm : RL = RL) (hR : d + 1 ≤ room_1.frames ∧ 8 + (7 + 11) + 64 * d ≤ room_1.locals) (hw : (st.map fun v => v.category).sum ≤ 8) (hk : bf_kd o = 12) (hC : bf_Cn Γ d mu_X12_wire 0 0 [.ref (ad o), .int a0, .int a1, .int a2, .int a3] (bf_S ad I L) (fun q h => q = some (.int x) ∧ h = bf_S ad σ2.1 σ2.2)) (kk : bf_Go Γ room_1 (bf_mL nm) E Z (173, 9215) (pc + 3) lv (.int x :: st) (bf_S ad σ2.1 σ2.2)) : bf_Go Γ room_1 (bf_mL nm) E Z (173, 9215) pc lv (.int a3 :: .int a2 :: .int a1 :: .int a0 :: .ref (ad o) :: st) (bf_S ad I L) := bf_callV (μ := bf_mL nm) (k := (173, 9215)) (As := [.int a0, .int a1, .int a2, .int a3]) (rest := st) (mc := 0) (ms := 0) hd rfl wl_L_22 wm_X12_wire wv_X12_wire wi_X12 wc_X12_wire ⟨rfl, wdL_X12_wire⟩ hR ⟨Nat.le_of_ble_eq_true rfl, Nat.le_of_ble_eq_true rfl⟩ hw (bf_kd_lt hk (by decide)) hk (by decide) rfl hC (fun r h2 q => by obtain ⟨rfl, rfl⟩ := q; exact kk)
theorem wdL_X11_token : yX11_token.cls ≠ "java/lang/invoke/MethodHandle" ∧ yX11_token.cls ≠ "java/lang/invoke/VarHandle" ∧ (parseMethodDescriptor yX11_token.desc).map (fun d => d.parameters.length) = some 2 := by decide +kernel
theorem cv_L_23 {σ2 : bf_St} {o : Nat} {a0 : Int32} {a1 : Int32} {x : Int32} (d : Nat) (hd : decode cL_law pc = .ok (.invokevirtual 23, 3)) (hm : RL = RL) (hR : d + 1 ≤ room_1.frames ∧ 8 + (4 + 11) + 64 * d ≤ room_1.locals) (hw : (st.map fun v => v.category).sum ≤ 8) (hk : bf_kd o = 11) (hC : bf_Cn Γ d mu_X11_token 0 0 [.ref (ad o), .int a0, .int a1] (bf_S ad I L) (fun q h => q = some (.int x) ∧ h = bf_S ad σ2.1 σ2.2)) (kk : bf_Go Γ room_1 (bf_mL nm) E Z (173, 9215) (pc + 3) lv (.int x :: st) (bf_S ad σ2.1 σ2.2)) : bf_Go Γ room_1 (bf_mL nm) E Z (173, 9215) pc lv (.int a1 :: .int a0 :: .ref (ad o) :: st) (bf_S ad I L) := bf_callV (μ := bf_mL nm) (k := (173, 9215)) (As := [.int a0, .int a1]) (rest := st) (mc := 0) (ms := 0) hd rfl wl_L_23 wm_X11_token wv_X11_token wi_X11 wc_X11_token ⟨rfl, wdL_X11_token⟩ hR ⟨Nat.le_of_ble_eq_true rfl, Nat.le_of_ble_eq_true rfl⟩ hw (bf_kd_lt hk (by decide)) hk (by decide) rfl hC (fun r h2 q => by obtain ⟨rfl, rfl⟩ := q; exact kk)
theorem wdL_X12_token : yX12_token.cls ≠ "java/lang/invoke/MethodHandle" ∧ yX12_token.cls ≠ "java/lang/invoke/VarHandle" ∧ (parseMethodDescriptor yX12_token.desc).map (fun d => d.parameters.length) = some 2 := by decide +kernel
theorem cv_L_26 {σ2 : bf_St} {o : Nat} {a0 : Int32} {a1 : Int32} {x : Int32} (d : Nat) (hd : decode cL_law pc = .ok (.invokevirtual 26, 3)) (hm : RL = RL) (hR : d + 1 ≤ room_1.frames ∧ 8 + (3 + 11) + 64 * d ≤ room_1.locals) (hw : (st.map fun v => v.category).sum ≤ 8) (hk : bf_kd o = 12) (hC : bf_Cn Γ d mu_X12_token 0 0 [.ref (ad o), .int a0, .int a1] (bf_S ad I L) (fun q h => q = some (.int x) ∧ h = bf_S ad σ2.1 σ2.2)) (kk : bf_Go Γ room_1 (bf_mL nm) E Z (173, 9215) (pc + 3) lv (.int x :: st) (bf_S ad σ2.1 σ2.2)) : bf_Go Γ room_1 (bf_mL nm) E Z (173, 9215) pc lv (.int a1 :: .int a0 :: .ref (ad o) :: st) (bf_S ad I L) := bf_callV (μ := bf_mL nm) (k := (173, 9215)) (As := [.int a0, .int a1]) (rest := st) (mc := 0) (ms := 0) hd rfl wl_L_26 wm_X12_token wv_X12_token wi_X12 wc_X12_token ⟨rfl, wdL_X12_token⟩ hR ⟨Nat.le_of_ble_eq_true rfl, Nat.le_of_ble_eq_true rfl⟩ hw (bf_kd_lt hk (by decide)) hk (by decide) rfl hC (fun r h2 q => by obtain ⟨rfl, rfl⟩ := q; exact kk)
theorem wdL_X11_cut : yX11_cut.cls ≠ "java/lang/invoke/MethodHandle" ∧ yX11_cut.cls ≠ "java/lang/invoke/VarHandle" ∧ (parseMethodDescriptor yX11_cut.desc).map (fun d => d.parameters.length) = some 1 := by decide +kernel
theorem cv_L_27 {σ2 : bf_St} {o : Nat} {a0 : Int32} {x : Int32} (d : Nat) (hd : decode cL_law pc = .ok (.invokevirtual 27, 3)) (hm : RL = RL) (hR : d + 1 ≤ room_1.frames ∧ 8 + (4 + 11) + 64 * d ≤ room_1.locals) (hw : (st.map fun v => v.category).sum ≤ 8) (hk : bf_kd o = 11) (hC : bf_Cn Γ d mu_X11_cut 0 0 [.ref (ad o), .int a0] (bf_S ad I L) (fun q h => q = some (.int x) ∧ h = bf_S ad σ2.1 σ2.2)) (kk : bf_Go Γ room_1 (bf_mL nm) E Z (173, 9215) (pc + 3) lv (.int x :: st) (bf_S ad σ2.1 σ2.2)) : bf_Go Γ room_1 (bf_mL nm) E Z (173, 9215) pc lv (.int a0 :: .ref (ad o) :: st) (bf_S ad I L) := bf_callV (μ := bf_mL nm) (k := (173, 9215)) (As := [.int a0]) (rest := st) (mc := 0) (ms := 0) hd rfl wl_L_27 wm_X11_cut wv_X11_cut wi_X11 wc_X11_cut ⟨rfl, wdL_X11_cut⟩ hR ⟨Nat.le_of_ble_eq_true rfl, Nat.le_of_ble_eq_true rfl⟩ hw (bf_kd_lt hk (by decide)) hk (by decide) rfl hC (fun r h2 q => by obtain ⟨rfl, rfl⟩ := q; exact kk)
theorem wdL_X12_cut : yX12_cut.cls ≠ "java/lang/invoke/MethodHandle" ∧ yX12_cut.cls ≠ "java/lang/invoke/VarHandle" ∧ (parseMethodDescriptor yX12_cut.desc).map (fun d => d.parameters.length) = some 1 := by decide +kernel
theorem cv_L_31 {σ2 : bf_St} {o : Nat} {a0 : Int32} {x : Int32} (d : Nat) (hd : decode cL_law pc = .ok (.invokevirtual 31, 3)) (hm : RL = RL) (hR : d + 1 ≤ room_1.frames ∧ 8 + (3 + 11) + 64 * d ≤ room_1.locals) (hw : (st.map fun v => v.category).sum ≤ 8) (hk : bf_kd o = 12) (hC : bf_Cn Γ d mu_X12_cut 0 0 [.ref (ad o), .int a0] (bf_S ad I L) (fun q h => q = some (.int x) ∧ h = bf_S ad σ2.1 σ2.2)) (kk : bf_Go Γ room_1 (bf_mL nm) E Z (173, 9215) (pc + 3) lv (.int x :: st) (bf_S ad σ2.1 σ2.2)) : bf_Go Γ room_1 (bf_mL nm) E Z (173, 9215) pc lv (.int a0 :: .ref (ad o) :: st) (bf_S ad I L) := bf_callV (μ := bf_mL nm) (k := (173, 9215)) (As := [.int a0]) (rest := st) (mc := 0) (ms := 0) hd rfl wl_L_31 wm_X12_cut wv_X12_cut wi_X12 wc_X12_cut ⟨rfl, wdL_X12_cut⟩ hR ⟨Nat.le_of_ble_eq_true rfl, Nat.le_of_ble_eq_true rfl⟩ hw (bf_kd_lt hk (by decide)) hk (by decide) rfl hC (fun r h2 q => by obtain ⟨rfl, rfl⟩ := q; exact kk)
theorem wdL_X11_feed : yX11_feed.cls ≠ "java/lang/invoke/MethodHandle" ∧ yX11_feed.cls ≠ "java/lang/invoke/VarHandle" ∧ (parseMethodDescriptor yX11_feed.desc).map (fun d => d.parameters.length) = some 1 := by decide +kernel
theorem cv_L_32 {σ2 : bf_St} {o : Nat} {a0 : Int32} {x : Int32} (d : Nat) (hd : decode cL_law pc = .ok (.invokevirtual 32, 3)) (hm : RL = RL) (hR : d + 1 ≤ room_1.frames ∧ 8 + (2 + 11) + 64 * d ≤ room_1.locals) (hw : (st.map fun v => v.category).sum ≤ 8) (hk : bf_kd o = 11) (hC : bf_Cn Γ d mu_X11_feed 0 0 [.ref (ad o), .int a0] (bf_S ad I L) (fun q h => q = some (.int x) ∧ h = bf_S ad σ2.1 σ2.2)) (kk : bf_Go Γ room_1 (bf_mL nm) E Z (173, 9215) (pc + 3) lv (.int x :: st) (bf_S ad σ2.1 σ2.2)) : bf_Go Γ room_1 (bf_mL nm) E Z (173, 9215) pc lv (.int a0 :: .ref (ad o) :: st) (bf_S ad I L) := bf_callV (μ := bf_mL nm) (k := (173, 9215)) (As := [.int a0]) (rest := st) (mc := 0) (ms := 0) hd rfl wl_L_32 wm_X11_feed wv_X11_feed wi_X11 wc_X11_feed ⟨rfl, wdL_X11_feed⟩ hR ⟨Nat.le_of_ble_eq_true rfl, Nat.le_of_ble_eq_true rfl⟩ hw (bf_kd_lt hk (by decide)) hk (by decide) rfl hC (fun r h2 q => by obtain ⟨rfl, rfl⟩ := q; exact kk)
theorem wdL_X12_feed : yX12_feed.cls ≠ "java/lang/invoke/MethodHandle" ∧ yX12_feed.cls ≠ "java/lang/invoke/VarHandle" ∧ (parseMethodDescriptor yX12_feed.desc).map (fun d => d.parameters.length) = some 1 := by decide +kernel
theorem cv_L_35 {σ2 : bf_St} {o : Nat} {a0 : Int32} {x : Int32} (d : Nat) (hd : decode cL_law pc = .ok (.invokevirtual 35, 3)) (hm : RL = RL) (hR : d + 1 ≤ room_1.frames ∧ 8 + (2 + 11) + 64 * d ≤ room_1.locals) (hw : (st.map fun v => v.category).sum ≤ 8) (hk : bf_kd o = 12) (hC : bf_Cn Γ d mu_X12_feed 0 0 [.ref (ad o), .int a0] (bf_S ad I L) (fun q h => q = some (.int x) ∧ h = bf_S ad σ2.1 σ2.2)) (kk : bf_Go Γ room_1 (bf_mL nm) E Z (173, 9215) (pc + 3) lv (.int x :: st) (bf_S ad σ2.1 σ2.2)) : bf_Go Γ room_1 (bf_mL nm) E Z (173, 9215) pc lv (.int a0 :: .ref (ad o) :: st) (bf_S ad I L) := bf_callV (μ := bf_mL nm) (k := (173, 9215)) (As := [.int a0]) (rest := st) (mc := 0) (ms := 0) hd rfl wl_L_35 wm_X12_feed wv_X12_feed wi_X12 wc_X12_feed ⟨rfl, wdL_X12_feed⟩ hR ⟨Nat.le_of_ble_eq_true rfl, Nat.le_of_ble_eq_true rfl⟩ hw (bf_kd_lt hk (by decide)) hk (by decide) rfl hC (fun r h2 q => by obtain ⟨rfl, rfl⟩ := q; exact kk)
theorem wdL_X11_graph : yX11_graph.cls ≠ "java/lang/invoke/MethodHandle" ∧ yX11_graph.cls ≠ "java/lang/invoke/VarHandle" ∧ (parseMethodDescriptor yX11_graph.desc).map (fun d => d.parameters.length) = some 0 := by decide +kernel
theorem cv_L_36 {σ2 : bf_St} {o : Nat} {x : Int32} (d : Nat) (hd : decode cL_law pc = .ok (.invokevirtual 36, 3)) (hm : RL = RL) (hR : d + 1 ≤ room_1.frames ∧ 8 + (4 + 11) + 64 * d ≤ room_1.locals) (hw : (st.map fun v => v.category).sum ≤ 8) (hk : bf_kd o = 11) (hC : bf_Cn Γ d mu_X11_graph 0 0 [.ref (ad o)] (bf_S ad I L) (fun q h => q = some (.int x) ∧ h = bf_S ad σ2.1 σ2.2)) (kk : bf_Go Γ room_1 (bf_mL nm) E Z (173, 9215) (pc + 3) lv (.int x :: st) (bf_S ad σ2.1 σ2.2)) : bf_Go Γ room_1 (bf_mL nm) E Z (173, 9215) pc lv (.ref (ad o) :: st) (bf_S ad I L) := bf_callV (μ := bf_mL nm) (k := (173, 9215)) (As := []) (rest := st) (mc := 0) (ms := 0) hd rfl wl_L_36 wm_X11_graph wv_X11_graph wi_X11 wc_X11_graph ⟨rfl, wdL_X11_graph⟩ hR ⟨Nat.le_of_ble_eq_true rfl, Nat.le_of_ble_eq_true rfl⟩ hw (bf_kd_lt hk (by decide)) hk (by decide) rfl hC (fun r h2 q => by obtain ⟨rfl, rfl⟩ := q; exact kk)
theorem wdL_X12_graph : yX12_graph.cls ≠ "java/lang/invoke/MethodHandle" ∧ yX12_graph.cls ≠ "java/lang/invoke/VarHandle" ∧ (parseMethodDescriptor yX12_graph.desc).map (fun d => d.parameters.length) = some 0 := by decide +kernel
theorem cv_L_40 {σ2 : bf_St} {o : Nat} {x : Int32} (d : Nat) (hd : decode cL_law pc = .ok (.invokevirtual 40, 3)) (hm : RL = RL) (hR : d + 1 ≤ room_1.frames ∧ 8 + (7 + 11) + 64 * d ≤ room_1.locals) (hw : (st.map fun v => v.category).sum ≤ 8) (hk : bf_kd o = 12) (hC : bf_Cn Γ d mu_X12_graph 0 0 [.ref (ad o)] (bf_S ad I L) (fun q h => q = some (.int x) ∧ h = bf_S ad σ2.1 σ2.2)) (kk : bf_Go Γ room_1 (bf_mL nm) E Z (173, 9215) (pc + 3) lv (.int x :: st) (bf_S ad σ2.1 σ2.2)) : bf_Go Γ room_1 (bf_mL nm) E Z (173, 9215) pc lv (.ref (ad o) :: st) (bf_S ad I L) := bf_callV (μ := bf_mL nm) (k := (173, 9215)) (As := []) (rest := st) (mc := 0) (ms := 0) hd rfl wl_L_40 wm_X12_graph wv_X12_graph wi_X12 wc_X12_graph ⟨rfl, wdL_X12_graph⟩ hR ⟨Nat.le_of_ble_eq_true rfl, Nat.le_of_ble_eq_true rfl⟩ hw (bf_kd_lt hk (by decide)) hk (by decide) rfl hC (fun r h2 q => by obtain ⟨rfl, rfl⟩ := q; exact kk)
theorem wdL_X11_of : yX11_of.cls ≠ "java/lang/invoke/MethodHandle" ∧ yX11_of.cls ≠ "java/lang/invoke/VarHandle" ∧ (parseMethodDescriptor yX11_of.desc).map (fun d => d.parameters.length) = some 2 := by decide +kernel
theorem cv_L_41 {σ2 : bf_St} {o : Nat} {a0 : Int32} {a1 : Int32} {x : Int32} (d : Nat) (hd : decode cL_law pc = .ok (.invokevirtual 41, 3)) (hm : RL = RL) (hR : d + 1 ≤ room_1.frames ∧ 8 + (3 + 11) + 64 * d ≤ room_1.locals) (hw : (st.map fun v => v.category).sum ≤ 8) (hk : bf_kd o = 11) (hC : bf_Cn Γ d mu_X11_of 0 0 [.ref (ad o), .int a0, .int a1] (bf_S ad I L) (fun q h => q = some (.int x) ∧ h = bf_S ad σ2.1 σ2.2)) (kk : bf_Go Γ room_1 (bf_mL nm) E Z (173, 9215) (pc + 3) lv (.int x :: st) (bf_S ad σ2.1 σ2.2)) : bf_Go Γ room_1 (bf_mL nm) E Z (173, 9215) pc lv (.int a1 :: .int a0 :: .ref (ad o) :: st) (bf_S ad I L) := bf_callV (μ := bf_mL nm) (k := (173, 9215)) (As := [.int a0, .int a1]) (rest := st) (mc := 0) (ms := 0) hd rfl wl_L_41 wm_X11_of wv_X11_of wi_X11 wc_X11_of ⟨rfl, wdL_X11_of⟩ hR ⟨Nat.le_of_ble_eq_true rfl, Nat.le_of_ble_eq_true rfl⟩ hw (bf_kd_lt hk (by decide)) hk (by decide) rfl hC (fun r h2 q => by obtain ⟨rfl, rfl⟩ := q; exact kk)
theorem wdL_X12_of : yX12_of.cls ≠ "java/lang/invoke/MethodHandle" ∧ yX12_of.cls ≠ "java/lang/invoke/VarHandle" ∧ (parseMethodDescriptor yX12_of.desc).map (fun d => d.parameters.length) = some 2 := by decide +kernel
theorem cv_L_44 {σ2 : bf_St} {o : Nat} {a0 : Int32} {a1 : Int32} {x : Int32} (d : Nat) (hd : decode cL_law pc = .ok (.invokevirtual 44, 3)) (hm : RL = RL) (hR : d + 1 ≤ room_1.frames ∧ 8 + (3 + 11) + 64 * d ≤ room_1.locals) (hw : (st.map fun v => v.category).sum ≤ 8) (hk : bf_kd o = 12) (hC : bf_Cn Γ d mu_X12_of 0 0 [.ref (ad o), .int a0, .int a1] (bf_S ad I L) (fun q h => q = some (.int x) ∧ h = bf_S ad σ2.1 σ2.2)) (kk : bf_Go Γ room_1 (bf_mL nm) E Z (173, 9215) (pc + 3) lv (.int x :: st) (bf_S ad σ2.1 σ2.2)) : bf_Go Γ room_1 (bf_mL nm) E Z (173, 9215) pc lv (.int a1 :: .int a0 :: .ref (ad o) :: st) (bf_S ad I L) := bf_callV (μ := bf_mL nm) (k := (173, 9215)) (As := [.int a0, .int a1]) (rest := st) (mc := 0) (ms := 0) hd rfl wl_L_44 wm_X12_of wv_X12_of wi_X12 wc_X12_of ⟨rfl, wdL_X12_of⟩ hR ⟨Nat.le_of_ble_eq_true rfl, Nat.le_of_ble_eq_true rfl⟩ hw (bf_kd_lt hk (by decide)) hk (by decide) rfl hC (fun r h2 q => by obtain ⟨rfl, rfl⟩ := q; exact kk)
theorem wdL_X11_about : yX11_about.cls ≠ "java/lang/invoke/MethodHandle" ∧ yX11_about.cls ≠ "java/lang/invoke/VarHandle" ∧ (parseMethodDescriptor yX11_about.desc).map (fun d => d.parameters.length) = some 2 := by decide +kernel
theorem cv_L_45 {σ2 : bf_St} {o : Nat} {a0 : Int32} {a1 : Int32} {x : Int32} (d : Nat) (hd : decode cL_law pc = .ok (.invokevirtual 45, 3)) (hm : RL = RL) (hR : d + 1 ≤ room_1.frames ∧ 8 + (4 + 11) + 64 * d ≤ room_1.locals) (hw : (st.map fun v => v.category).sum ≤ 8) (hk : bf_kd o = 11) (hC : bf_Cn Γ d mu_X11_about 0 0 [.ref (ad o), .int a0, .int a1] (bf_S ad I L) (fun q h => q = some (.int x) ∧ h = bf_S ad σ2.1 σ2.2)) (kk : bf_Go Γ room_1 (bf_mL nm) E Z (173, 9215) (pc + 3) lv (.int x :: st) (bf_S ad σ2.1 σ2.2)) : bf_Go Γ room_1 (bf_mL nm) E Z (173, 9215) pc lv (.int a1 :: .int a0 :: .ref (ad o) :: st) (bf_S ad I L) := bf_callV (μ := bf_mL nm) (k := (173, 9215)) (As := [.int a0, .int a1]) (rest := st) (mc := 0) (ms := 0) hd rfl wl_L_45 wm_X11_about wv_X11_about wi_X11 wc_X11_about ⟨rfl, wdL_X11_about⟩ hR ⟨Nat.le_of_ble_eq_true rfl, Nat.le_of_ble_eq_true rfl⟩ hw (bf_kd_lt hk (by decide)) hk (by decide) rfl hC (fun r h2 q => by obtain ⟨rfl, rfl⟩ := q; exact kk)
theorem wdL_X12_about : yX12_about.cls ≠ "java/lang/invoke/MethodHandle" ∧ yX12_about.cls ≠ "java/lang/invoke/VarHandle" ∧ (parseMethodDescriptor yX12_about.desc).map (fun d => d.parameters.length) = some 2 := by decide +kernel
theorem cv_L_48 {σ2 : bf_St} {o : Nat} {a0 : Int32} {a1 : Int32} {x : Int32} (d : Nat) (hd : decode cL_law pc = .ok (.invokevirtual 48, 3)) (hm : RL = RL) (hR : d + 1 ≤ room_1.frames ∧ 8 + (4 + 11) + 64 * d ≤ room_1.locals) (hw : (st.map fun v => v.category).sum ≤ 8) (hk : bf_kd o = 12) (hC : bf_Cn Γ d mu_X12_about 0 0 [.ref (ad o), .int a0, .int a1] (bf_S ad I L) (fun q h => q = some (.int x) ∧ h = bf_S ad σ2.1 σ2.2)) (kk : bf_Go Γ room_1 (bf_mL nm) E Z (173, 9215) (pc + 3) lv (.int x :: st) (bf_S ad σ2.1 σ2.2)) : bf_Go Γ room_1 (bf_mL nm) E Z (173, 9215) pc lv (.int a1 :: .int a0 :: .ref (ad o) :: st) (bf_S ad I L) := bf_callV (μ := bf_mL nm) (k := (173, 9215)) (As := [.int a0, .int a1]) (rest := st) (mc := 0) (ms := 0) hd rfl wl_L_48 wm_X12_about wv_X12_about wi_X12 wc_X12_about ⟨rfl, wdL_X12_about⟩ hR ⟨Nat.le_of_ble_eq_true rfl, Nat.le_of_ble_eq_true rfl⟩ hw (bf_kd_lt hk (by decide)) hk (by decide) rfl hC (fun r h2 q => by obtain ⟨rfl, rfl⟩ := q; exact kk)
theorem wdL_X11_read : yX11_read.cls ≠ "java/lang/invoke/MethodHandle" ∧ yX11_read.cls ≠ "java/lang/invoke/VarHandle" ∧ (parseMethodDescriptor yX11_read.desc).map (fun d => d.parameters.length) = some 2 := by decide +kernel
theorem cv_L_49 {σ2 : bf_St} {o : Nat} {a0 : Int32} {a1 : Int32} {x : Int64} (d : Nat) (hd : decode cL_law pc = .ok (.invokevirtual 49, 3)) (hm : RL = RL) (hR : d + 1 ≤ room_1.frames ∧ 8 + (3 + 11) + 64 * d ≤ room_1.locals) (hw : (st.map fun v => v.category).sum ≤ 8) (hk : bf_kd o = 11) (hC : bf_Cn Γ d mu_X11_read 0 0 [.ref (ad o), .int a0, .int a1] (bf_S ad I L) (fun q h => q = some (.long x) ∧ h = bf_S ad σ2.1 σ2.2)) (kk : bf_Go Γ room_1 (bf_mL nm) E Z (173, 9215) (pc + 3) lv (.long x :: st) (bf_S ad σ2.1 σ2.2)) : bf_Go Γ room_1 (bf_mL nm) E Z (173, 9215) pc lv (.int a1 :: .int a0 :: .ref (ad o) :: st) (bf_S ad I L) := bf_callV (μ := bf_mL nm) (k := (173, 9215)) (As := [.int a0, .int a1]) (rest := st) (mc := 0) (ms := 0) hd rfl wl_L_49 wm_X11_read wv_X11_read wi_X11 wc_X11_read ⟨rfl, wdL_X11_read⟩ hR ⟨Nat.le_of_ble_eq_true rfl, Nat.le_of_ble_eq_true rfl⟩ hw (bf_kd_lt hk (by decide)) hk (by decide) rfl hC (fun r h2 q => by obtain ⟨rfl, rfl⟩ := q; exact kk)
theorem wdL_X12_read : yX12_read.cls ≠ "java/lang/invoke/MethodHandle" ∧ yX12_read.cls ≠ "java/lang/invoke/VarHandle" ∧ (parseMethodDescriptor yX12_read.desc).map (fun d => d.parameters.length) = some 2 := by decide +kernel
theorem cv_L_53 {σ2 : bf_St} {o : Nat} {a0 : Int32} {a1 : Int32} {x : Int64} (d : Nat) (hd : decode cL_law pc = .ok (.invokevirtual 53, 3)) (hm : RL = RL) (hR : d + 1 ≤ room_1.frames ∧ 8 + (3 + 11) + 64 * d ≤ room_1.locals) (hw : (st.map fun v => v.category).sum ≤ 8) (hk : bf_kd o = 12) (hC : bf_Cn Γ d mu_X12_read 0 0 [.ref (ad o), .int a0, .int a1] (bf_S ad I L) (fun q h => q = some (.long x) ∧ h = bf_S ad σ2.1 σ2.2)) (kk : bf_Go Γ room_1 (bf_mL nm) E Z (173, 9215) (pc + 3) lv (.long x :: st) (bf_S ad σ2.1 σ2.2)) : bf_Go Γ room_1 (bf_mL nm) E Z (173, 9215) pc lv (.int a1 :: .int a0 :: .ref (ad o) :: st) (bf_S ad I L) := bf_callV (μ := bf_mL nm) (k := (173, 9215)) (As := [.int a0, .int a1]) (rest := st) (mc := 0) (ms := 0) hd rfl wl_L_53 wm_X12_read wv_X12_read wi_X12 wc_X12_read ⟨rfl, wdL_X12_read⟩ hR ⟨Nat.le_of_ble_eq_true rfl, Nat.le_of_ble_eq_true rfl⟩ hw (bf_kd_lt hk (by decide)) hk (by decide) rfl hC (fun r h2 q => by obtain ⟨rfl, rfl⟩ := q; exact kk)
theorem wdL_X11_fire : yX11_fire.cls ≠ "java/lang/invoke/MethodHandle" ∧ yX11_fire.cls ≠ "java/lang/invoke/VarHandle" ∧ (parseMethodDescriptor yX11_fire.desc).map (fun d => d.parameters.length) = some 1 := by decide +kernel
theorem cv_L_54 {σ2 : bf_St} {o : Nat} {a0 : Int32} {x : Int64} (d : Nat) (hd : decode cL_law pc = .ok (.invokevirtual 54, 3)) (hm : RL = RL) (hR : d + 1 ≤ room_1.frames ∧ 8 + (2 + 11) + 64 * d ≤ room_1.locals) (hw : (st.map fun v => v.category).sum ≤ 8) (hk : bf_kd o = 11) (hC : bf_Cn Γ d mu_X11_fire 0 0 [.ref (ad o), .int a0] (bf_S ad I L) (fun q h => q = some (.long x) ∧ h = bf_S ad σ2.1 σ2.2)) (kk : bf_Go Γ room_1 (bf_mL nm) E Z (173, 9215) (pc + 3) lv (.long x :: st) (bf_S ad σ2.1 σ2.2)) : bf_Go Γ room_1 (bf_mL nm) E Z (173, 9215) pc lv (.int a0 :: .ref (ad o) :: st) (bf_S ad I L) := bf_callV (μ := bf_mL nm) (k := (173, 9215)) (As := [.int a0]) (rest := st) (mc := 0) (ms := 0) hd rfl wl_L_54 wm_X11_fire wv_X11_fire wi_X11 wc_X11_fire ⟨rfl, wdL_X11_fire⟩ hR ⟨Nat.le_of_ble_eq_true rfl, Nat.le_of_ble_eq_true rfl⟩ hw (bf_kd_lt hk (by decide)) hk (by decide) rfl hC (fun r h2 q => by obtain ⟨rfl, rfl⟩ := q; exact kk)
theorem wdL_X12_fire : yX12_fire.cls ≠ "java/lang/invoke/MethodHandle" ∧ yX12_fire.cls ≠ "java/lang/invoke/VarHandle" ∧ (parseMethodDescriptor yX12_fire.desc).map (fun d => d.parameters.length) = some 1 := by decide +kernel
theorem cv_L_58 {σ2 : bf_St} {o : Nat} {a0 : Int32} {x : Int64} (d : Nat) (hd : decode cL_law pc = .ok (.invokevirtual 58, 3)) (hm : RL = RL) (hR : d + 1 ≤ room_1.frames ∧ 8 + (2 + 11) + 64 * d ≤ room_1.locals) (hw : (st.map fun v => v.category).sum ≤ 8) (hk : bf_kd o = 12) (hC : bf_Cn Γ d mu_X12_fire 0 0 [.ref (ad o), .int a0] (bf_S ad I L) (fun q h => q = some (.long x) ∧ h = bf_S ad σ2.1 σ2.2)) (kk : bf_Go Γ room_1 (bf_mL nm) E Z (173, 9215) (pc + 3) lv (.long x :: st) (bf_S ad σ2.1 σ2.2)) : bf_Go Γ room_1 (bf_mL nm) E Z (173, 9215) pc lv (.int a0 :: .ref (ad o) :: st) (bf_S ad I L) := bf_callV (μ := bf_mL nm) (k := (173, 9215)) (As := [.int a0]) (rest := st) (mc := 0) (ms := 0) hd rfl wl_L_58 wm_X12_fire wv_X12_fire wi_X12 wc_X12_fire ⟨rfl, wdL_X12_fire⟩ hR ⟨Nat.le_of_ble_eq_true rfl, Nat.le_of_ble_eq_true rfl⟩ hw (bf_kd_lt hk (by decide)) hk (by decide) rfl hC (fun r h2 q => by obtain ⟨rfl, rfl⟩ := q; exact kk)
theorem wdL_X11_period : yX11_period.cls ≠ "java/lang/invoke/MethodHandle" ∧ yX11_period.cls ≠ "java/lang/invoke/VarHandle" ∧ (parseMethodDescriptor yX11_period.desc).map (fun d => d.parameters.length) = some 1 := by decide +kernel
theorem cv_L_59 {σ2 : bf_St} {o : Nat} {a0 : Int32} {x : Int32} (d : Nat) (hd : decode cL_law pc = .ok (.invokevirtual 59, 3)) (hm : RL = RL) (hR : d + 1 ≤ room_1.frames ∧ 8 + (2 + 11) + 64 * d ≤ room_1.locals) (hw : (st.map fun v => v.category).sum ≤ 8) (hk : bf_kd o = 11) (hC : bf_Cn Γ d mu_X11_period 0 0 [.ref (ad o), .int a0] (bf_S ad I L) (fun q h => q = some (.int x) ∧ h = bf_S ad σ2.1 σ2.2)) (kk : bf_Go Γ room_1 (bf_mL nm) E Z (173, 9215) (pc + 3) lv (.int x :: st) (bf_S ad σ2.1 σ2.2)) : bf_Go Γ room_1 (bf_mL nm) E Z (173, 9215) pc lv (.int a0 :: .ref (ad o) :: st) (bf_S ad I L) := bf_callV (μ := bf_mL nm) (k := (173, 9215)) (As := [.int a0]) (rest := st) (mc := 0) (ms := 0) hd rfl wl_L_59 wm_X11_period wv_X11_period wi_X11 wc_X11_period ⟨rfl, wdL_X11_period⟩ hR ⟨Nat.le_of_ble_eq_true rfl, Nat.le_of_ble_eq_true rfl⟩ hw (bf_kd_lt hk (by decide)) hk (by decide) rfl hC (fun r h2 q => by obtain ⟨rfl, rfl⟩ := q; exact kk)
theorem wdL_X12_period : yX12_period.cls ≠ "java/lang/invoke/MethodHandle" ∧ yX12_period.cls ≠ "java/lang/invoke/VarHandle" ∧ (parseMethodDescriptor yX12_period.desc).map (fun d => d.parameters.length) = some 1 := by decide +kernel
theorem cv_L_62 {σ2 : bf_St} {o : Nat} {a0 : Int32} {x : Int32} (d : Nat) (hd : decode cL_law pc = .ok (.invokevirtual 62, 3)) (hm : RL = RL) (hR : d + 1 ≤ room_1.frames ∧ 8 + (2 + 11) + 64 * d ≤ room_1.locals) (hw : (st.map fun v => v.category).sum ≤ 8) (hk : bf_kd o = 12) (hC : bf_Cn Γ d mu_X12_period 0 0 [.ref (ad o), .int a0] (bf_S ad I L) (fun q h => q = some (.int x) ∧ h = bf_S ad σ2.1 σ2.2)) (kk : bf_Go Γ room_1 (bf_mL nm) E Z (173, 9215) (pc + 3) lv (.int x :: st) (bf_S ad σ2.1 σ2.2)) : bf_Go Γ room_1 (bf_mL nm) E Z (173, 9215) pc lv (.int a0 :: .ref (ad o) :: st) (bf_S ad I L) := bf_callV (μ := bf_mL nm) (k := (173, 9215)) (As := [.int a0]) (rest := st) (mc := 0) (ms := 0) hd rfl wl_L_62 wm_X12_period wv_X12_period wi_X12 wc_X12_period ⟨rfl, wdL_X12_period⟩ hR ⟨Nat.le_of_ble_eq_true rfl, Nat.le_of_ble_eq_true rfl⟩ hw (bf_kd_lt hk (by decide)) hk (by decide) rfl hC (fun r h2 q => by obtain ⟨rfl, rfl⟩ := q; exact kk)
theorem wdL_X11_told : yX11_told.cls ≠ "java/lang/invoke/MethodHandle" ∧ yX11_told.cls ≠ "java/lang/invoke/VarHandle" ∧ (parseMethodDescriptor yX11_told.desc).map (fun d => d.parameters.length) = some 1 := by decide +kernel
theorem cv_L_63 {σ2 : bf_St} {o : Nat} {a0 : Int32} {x : Int32} (d : Nat) (hd : decode cL_law pc = .ok (.invokevirtual 63, 3)) (hm : RL = RL) (hR : d + 1 ≤ room_1.frames ∧ 8 + (2 + 11) + 64 * d ≤ room_1.locals) (hw : (st.map fun v => v.category).sum ≤ 8) (hk : bf_kd o = 11) (hC : bf_Cn Γ d mu_X11_told 0 0 [.ref (ad o), .int a0] (bf_S ad I L) (fun q h => q = some (.int x) ∧ h = bf_S ad σ2.1 σ2.2)) (kk : bf_Go Γ room_1 (bf_mL nm) E Z (173, 9215) (pc + 3) lv (.int x :: st) (bf_S ad σ2.1 σ2.2)) : bf_Go Γ room_1 (bf_mL nm) E Z (173, 9215) pc lv (.int a0 :: .ref (ad o) :: st) (bf_S ad I L) := bf_callV (μ := bf_mL nm) (k := (173, 9215)) (As := [.int a0]) (rest := st) (mc := 0) (ms := 0) hd rfl wl_L_63 wm_X11_told wv_X11_told wi_X11 wc_X11_told ⟨rfl, wdL_X11_told⟩ hR ⟨Nat.le_of_ble_eq_true rfl, Nat.le_of_ble_eq_true rfl⟩ hw (bf_kd_lt hk (by decide)) hk (by decide) rfl hC (fun r h2 q => by obtain ⟨rfl, rfl⟩ := q; exact kk)
theorem wdL_X12_told : yX12_told.cls ≠ "java/lang/invoke/MethodHandle" ∧ yX12_told.cls ≠ "java/lang/invoke/VarHandle" ∧ (parseMethodDescriptor yX12_told.desc).map (fun d => d.parameters.length) = some 1 := by decide +kernel
theorem cv_L_66 {σ2 : bf_St} {o : Nat} {a0 : Int32} {x : Int32} (d : Nat) (hd : decode cL_law pc = .ok (.invokevirtual 66, 3)) (hm : RL = RL) (hR : d + 1 ≤ room_1.frames ∧ 8 + (3 + 11) + 64 * d ≤ room_1.locals) (hw : (st.map fun v => v.category).sum ≤ 8) (hk : bf_kd o = 12) (hC : bf_Cn Γ d mu_X12_told 0 0 [.ref (ad o), .int a0] (bf_S ad I L) (fun q h => q = some (.int x) ∧ h = bf_S ad σ2.1 σ2.2)) (kk : bf_Go Γ room_1 (bf_mL nm) E Z (173, 9215) (pc + 3) lv (.int x :: st) (bf_S ad σ2.1 σ2.2)) : bf_Go Γ room_1 (bf_mL nm) E Z (173, 9215) pc lv (.int a0 :: .ref (ad o) :: st) (bf_S ad I L) := bf_callV (μ := bf_mL nm) (k := (173, 9215)) (As := [.int a0]) (rest := st) (mc := 0) (ms := 0) hd rfl wl_L_66 wm_X12_told wv_X12_told wi_X12 wc_X12_told ⟨rfl, wdL_X12_told⟩ hR ⟨Nat.le_of_ble_eq_true rfl, Nat.le_of_ble_eq_true rfl⟩ hw (bf_kd_lt hk (by decide)) hk (by decide) rfl hC (fun r h2 q => by obtain ⟨rfl, rfl⟩ := q; exact kk)
theorem wdL_X11_when : yX11_when.cls ≠ "java/lang/invoke/MethodHandle" ∧ yX11_when.cls ≠ "java/lang/invoke/VarHandle" ∧ (parseMethodDescriptor yX11_when.desc).map (fun d => d.parameters.length) = some 1 := by decide +kernel
theorem cv_L_67 {σ2 : bf_St} {o : Nat} {a0 : Int32} {x : Int32} (d : Nat) (hd : decode cL_law pc = .ok (.invokevirtual 67, 3)) (hm : RL = RL) (hR : d + 1 ≤ room_1.frames ∧ 8 + (2 + 11) + 64 * d ≤ room_1.locals) (hw : (st.map fun v => v.category).sum ≤ 8) (hk : bf_kd o = 11) (hC : bf_Cn Γ d mu_X11_when 0 0 [.ref (ad o), .int a0] (bf_S ad I L) (fun q h => q = some (.int x) ∧ h = bf_S ad σ2.1 σ2.2)) (kk : bf_Go Γ room_1 (bf_mL nm) E Z (173, 9215) (pc + 3) lv (.int x :: st) (bf_S ad σ2.1 σ2.2)) : bf_Go Γ room_1 (bf_mL nm) E Z (173, 9215) pc lv (.int a0 :: .ref (ad o) :: st) (bf_S ad I L) := bf_callV (μ := bf_mL nm) (k := (173, 9215)) (As := [.int a0]) (rest := st) (mc := 0) (ms := 0) hd rfl wl_L_67 wm_X11_when wv_X11_when wi_X11 wc_X11_when ⟨rfl, wdL_X11_when⟩ hR ⟨Nat.le_of_ble_eq_true rfl, Nat.le_of_ble_eq_true rfl⟩ hw (bf_kd_lt hk (by decide)) hk (by decide) rfl hC (fun r h2 q => by obtain ⟨rfl, rfl⟩ := q; exact kk)
theorem wdL_X12_when : yX12_when.cls ≠ "java/lang/invoke/MethodHandle" ∧ yX12_when.cls ≠ "java/lang/invoke/VarHandle" ∧ (parseMethodDescriptor yX12_when.desc).map (fun d => d.parameters.length) = some 1 := by decide +kernel
theorem cv_L_70 {σ2 : bf_St} {o : Nat} {a0 : Int32} {x : Int32} (d : Nat) (hd : decode cL_law pc = .ok (.invokevirtual 70, 3)) (hm : RL = RL) (hR : d + 1 ≤ room_1.frames ∧ 8 + (3 + 11) + 64 * d ≤ room_1.locals) (hw : (st.map fun v => v.category).sum ≤ 8) (hk : bf_kd o = 12) (hC : bf_Cn Γ d mu_X12_when 0 0 [.ref (ad o), .int a0] (bf_S ad I L) (fun q h => q = some (.int x) ∧ h = bf_S ad σ2.1 σ2.2)) (kk : bf_Go Γ room_1 (bf_mL nm) E Z (173, 9215) (pc + 3) lv (.int x :: st) (bf_S ad σ2.1 σ2.2)) : bf_Go Γ room_1 (bf_mL nm) E Z (173, 9215) pc lv (.int a0 :: .ref (ad o) :: st) (bf_S ad I L) := bf_callV (μ := bf_mL nm) (k := (173, 9215)) (As := [.int a0]) (rest := st) (mc := 0) (ms := 0) hd rfl wl_L_70 wm_X12_when wv_X12_when wi_X12 wc_X12_when ⟨rfl, wdL_X12_when⟩ hR ⟨Nat.le_of_ble_eq_true rfl, Nat.le_of_ble_eq_true rfl⟩ hw (bf_kd_lt hk (by decide)) hk (by decide) rfl hC (fun r h2 q => by obtain ⟨rfl, rfl⟩ := q; exact kk)
theorem wdL_X11_on : yX11_on.cls ≠ "java/lang/invoke/MethodHandle" ∧ yX11_on.cls ≠ "java/lang/invoke/VarHandle" ∧ (parseMethodDescriptor yX11_on.desc).map (fun d => d.parameters.length) = some 2 := by decide +kernel
theorem cv_L_71 {σ2 : bf_St} {o : Nat} {a0 : Int32} {a1 : Int32} {x : Int32} (d : Nat) (hd : decode cL_law pc = .ok (.invokevirtual 71, 3)) (hm : RL = RL) (hR : d + 1 ≤ room_1.frames ∧ 8 + (3 + 11) + 64 * d ≤ room_1.locals) (hw : (st.map fun v => v.category).sum ≤ 8) (hk : bf_kd o = 11) (hC : bf_Cn Γ d mu_X11_on 0 0 [.ref (ad o), .int a0, .int a1] (bf_S ad I L) (fun q h => q = some (.int x) ∧ h = bf_S ad σ2.1 σ2.2)) (kk : bf_Go Γ room_1 (bf_mL nm) E Z (173, 9215) (pc + 3) lv (.int x :: st) (bf_S ad σ2.1 σ2.2)) : bf_Go Γ room_1 (bf_mL nm) E Z (173, 9215) pc lv (.int a1 :: .int a0 :: .ref (ad o) :: st) (bf_S ad I L) := bf_callV (μ := bf_mL nm) (k := (173, 9215)) (As := [.int a0, .int a1]) (rest := st) (mc := 0) (ms := 0) hd rfl wl_L_71 wm_X11_on wv_X11_on wi_X11 wc_X11_on ⟨rfl, wdL_X11_on⟩ hR ⟨Nat.le_of_ble_eq_true rfl, Nat.le_of_ble_eq_true rfl⟩ hw (bf_kd_lt hk (by decide)) hk (by decide) rfl hC (fun r h2 q => by obtain ⟨rfl, rfl⟩ := q; exact kk)
theorem wdL_X12_on : yX12_on.cls ≠ "java/lang/invoke/MethodHandle" ∧ yX12_on.cls ≠ "java/lang/invoke/VarHandle" ∧ (parseMethodDescriptor yX12_on.desc).map (fun d => d.parameters.length) = some 2 := by decide +kernel
theorem cv_L_74 {σ2 : bf_St} {o : Nat} {a0 : Int32} {a1 : Int32} {x : Int32} (d : Nat) (hd : decode cL_law pc = .ok (.invokevirtual 74, 3)) (hm : RL = RL) (hR : d + 1 ≤ room_1.frames ∧ 8 + (5 + 11) + 64 * d ≤ room_1.locals) (hw : (st.map fun v => v.category).sum ≤ 8) (hk : bf_kd o = 12) (hC : bf_Cn Γ d mu_X12_on 0 0 [.ref (ad o), .int a0, .int a1] (bf_S ad I L) (fun q h => q = some (.int x) ∧ h = bf_S ad σ2.1 σ2.2)) (kk : bf_Go Γ room_1 (bf_mL nm) E Z (173, 9215) (pc + 3) lv (.int x :: st) (bf_S ad σ2.1 σ2.2)) : bf_Go Γ room_1 (bf_mL nm) E Z (173, 9215) pc lv (.int a1 :: .int a0 :: .ref (ad o) :: st) (bf_S ad I L) := bf_callV (μ := bf_mL nm) (k := (173, 9215)) (As := [.int a0, .int a1]) (rest := st) (mc := 0) (ms := 0) hd rfl wl_L_74 wm_X12_on wv_X12_on wi_X12 wc_X12_on ⟨rfl, wdL_X12_on⟩ hR ⟨Nat.le_of_ble_eq_true rfl, Nat.le_of_ble_eq_true rfl⟩ hw (bf_kd_lt hk (by decide)) hk (by decide) rfl hC (fun r h2 q => by obtain ⟨rfl, rfl⟩ := q; exact kk)
theorem wdL_X11_then : yX11_then.cls ≠ "java/lang/invoke/MethodHandle" ∧ yX11_then.cls ≠ "java/lang/invoke/VarHandle" ∧ (parseMethodDescriptor yX11_then.desc).map (fun d => d.parameters.length) = some 3 := by decide +kernel
theorem cv_L_75 {σ2 : bf_St} {o : Nat} {a0 : Int32} {a1 : Int32} {a2 : Int32} {x : Int64} (d : Nat) (hd : decode cL_law pc = .ok (.invokevirtual 75, 3)) (hm : RL = RL) (hR : d + 1 ≤ room_1.frames ∧ 8 + (4 + 11) + 64 * d ≤ room_1.locals) (hw : (st.map fun v => v.category).sum ≤ 8) (hk : bf_kd o = 11) (hC : bf_Cn Γ d mu_X11_then 0 0 [.ref (ad o), .int a0, .int a1, .int a2] (bf_S ad I L) (fun q h => q = some (.long x) ∧ h = bf_S ad σ2.1 σ2.2)) (kk : bf_Go Γ room_1 (bf_mL nm) E Z (173, 9215) (pc + 3) lv (.long x :: st) (bf_S ad σ2.1 σ2.2)) : bf_Go Γ room_1 (bf_mL nm) E Z (173, 9215) pc lv (.int a2 :: .int a1 :: .int a0 :: .ref (ad o) :: st) (bf_S ad I L) := bf_callV (μ := bf_mL nm) (k := (173, 9215)) (As := [.int a0, .int a1, .int a2]) (rest := st) (mc := 0) (ms := 0) hd rfl wl_L_75 wm_X11_then wv_X11_then wi_X11 wc_X11_then ⟨rfl, wdL_X11_then⟩ hR ⟨Nat.le_of_ble_eq_true rfl, Nat.le_of_ble_eq_true rfl⟩ hw (bf_kd_lt hk (by decide)) hk (by decide) rfl hC (fun r h2 q => by obtain ⟨rfl, rfl⟩ := q; exact kk)
theorem wdL_X12_then : yX12_then.cls ≠ "java/lang/invoke/MethodHandle" ∧ yX12_then.cls ≠ "java/lang/invoke/VarHandle" ∧ (parseMethodDescriptor yX12_then.desc).map (fun d => d.parameters.length) = some 3 := by decide +kernel
theorem cv_L_79 {σ2 : bf_St} {o : Nat} {a0 : Int32} {a1 : Int32} {a2 : Int32} {x : Int64} (d : Nat) (hd : decode cL_law pc = .ok (.invokevirtual 79, 3)) (hm : RL = RL) (hR : d + 1 ≤ room_1.frames ∧ 8 + (7 + 11) + 64 * d ≤ room_1.locals) (hw : (st.map fun v => v.category).sum ≤ 8) (hk : bf_kd o = 12) (hC : bf_Cn Γ d mu_X12_then 0 0 [.ref (ad o), .int a0, .int a1, .int a2] (bf_S ad I L) (fun q h => q = some (.long x) ∧ h = bf_S ad σ2.1 σ2.2)) (kk : bf_Go Γ room_1 (bf_mL nm) E Z (173, 9215) (pc + 3) lv (.long x :: st) (bf_S ad σ2.1 σ2.2)) : bf_Go Γ room_1 (bf_mL nm) E Z (173, 9215) pc lv (.int a2 :: .int a1 :: .int a0 :: .ref (ad o) :: st) (bf_S ad I L) := bf_callV (μ := bf_mL nm) (k := (173, 9215)) (As := [.int a0, .int a1, .int a2]) (rest := st) (mc := 0) (ms := 0) hd rfl wl_L_79 wm_X12_then wv_X12_then wi_X12 wc_X12_then ⟨rfl, wdL_X12_then⟩ hR ⟨Nat.le_of_ble_eq_true rfl, Nat.le_of_ble_eq_true rfl⟩ hw (bf_kd_lt hk (by decide)) hk (by decide) rfl hC (fun r h2 q => by obtain ⟨rfl, rfl⟩ := q; exact kk)
theorem wdL_X11_see : yX11_see.cls ≠ "java/lang/invoke/MethodHandle" ∧ yX11_see.cls ≠ "java/lang/invoke/VarHandle" ∧ (parseMethodDescriptor yX11_see.desc).map (fun d => d.parameters.length) = some 3 := by decide +kernel
theorem cv_L_80 {σ2 : bf_St} {o : Nat} {a0 : Int32} {a1 : Int32} {a2 : Int32} {x : Int32} (d : Nat) (hd : decode cL_law pc = .ok (.invokevirtual 80, 3)) (hm : RL = RL) (hR : d + 1 ≤ room_1.frames ∧ 8 + (4 + 11) + 64 * d ≤ room_1.locals) (hw : (st.map fun v => v.category).sum ≤ 8) (hk : bf_kd o = 11) (hC : bf_Cn Γ d mu_X11_see 0 0 [.ref (ad o), .int a0, .int a1, .int a2] (bf_S ad I L) (fun q h => q = some (.int x) ∧ h = bf_S ad σ2.1 σ2.2)) (kk : bf_Go Γ room_1 (bf_mL nm) E Z (173, 9215) (pc + 3) lv (.int x :: st) (bf_S ad σ2.1 σ2.2)) : bf_Go Γ room_1 (bf_mL nm) E Z (173, 9215) pc lv (.int a2 :: .int a1 :: .int a0 :: .ref (ad o) :: st) (bf_S ad I L) := bf_callV (μ := bf_mL nm) (k := (173, 9215)) (As := [.int a0, .int a1, .int a2]) (rest := st) (mc := 0) (ms := 0) hd rfl wl_L_80 wm_X11_see wv_X11_see wi_X11 wc_X11_see ⟨rfl, wdL_X11_see⟩ hR ⟨Nat.le_of_ble_eq_true rfl, Nat.le_of_ble_eq_true rfl⟩ hw (bf_kd_lt hk (by decide)) hk (by decide) rfl hC (fun r h2 q => by obtain ⟨rfl, rfl⟩ := q; exact kk)
theorem wdL_X12_see : yX12_see.cls ≠ "java/lang/invoke/MethodHandle" ∧ yX12_see.cls ≠ "java/lang/invoke/VarHandle" ∧ (parseMethodDescriptor yX12_see.desc).map (fun d => d.parameters.length) = some 3 := by decide +kernel
theorem cv_L_84 {σ2 : bf_St} {o : Nat} {a0 : Int32} {a1 : Int32} {a2 : Int32} {x : Int32} (d : Nat) (hd : decode cL_law pc = .ok (.invokevirtual 84, 3)) (hm : RL = RL) (hR : d + 1 ≤ room_1.frames ∧ 8 + (5 + 11) + 64 * d ≤ room_1.locals) (hw : (st.map fun v => v.category).sum ≤ 8) (hk : bf_kd o = 12) (hC : bf_Cn Γ d mu_X12_see 0 0 [.ref (ad o), .int a0, .int a1, .int a2] (bf_S ad I L) (fun q h => q = some (.int x) ∧ h = bf_S ad σ2.1 σ2.2)) (kk : bf_Go Γ room_1 (bf_mL nm) E Z (173, 9215) (pc + 3) lv (.int x :: st) (bf_S ad σ2.1 σ2.2)) : bf_Go Γ room_1 (bf_mL nm) E Z (173, 9215) pc lv (.int a2 :: .int a1 :: .int a0 :: .ref (ad o) :: st) (bf_S ad I L) := bf_callV (μ := bf_mL nm) (k := (173, 9215)) (As := [.int a0, .int a1, .int a2]) (rest := st) (mc := 0) (ms := 0) hd rfl wl_L_84 wm_X12_see wv_X12_see wi_X12 wc_X12_see ⟨rfl, wdL_X12_see⟩ hR ⟨Nat.le_of_ble_eq_true rfl, Nat.le_of_ble_eq_true rfl⟩ hw (bf_kd_lt hk (by decide)) hk (by decide) rfl hC (fun r h2 q => by obtain ⟨rfl, rfl⟩ := q; exact kk)
theorem wdL_X11_fits : yX11_fits.cls ≠ "java/lang/invoke/MethodHandle" ∧ yX11_fits.cls ≠ "java/lang/invoke/VarHandle" ∧ (parseMethodDescriptor yX11_fits.desc).map (fun d => d.parameters.length) = some 2 := by decide +kernel
theorem cv_L_85 {σ2 : bf_St} {o : Nat} {a0 : Int32} {a1 : Int32} {x : Int32} (d : Nat) (hd : decode cL_law pc = .ok (.invokevirtual 85, 3)) (hm : RL = RL) (hR : d + 1 ≤ room_1.frames ∧ 8 + (6 + 11) + 64 * d ≤ room_1.locals) (hw : (st.map fun v => v.category).sum ≤ 8) (hk : bf_kd o = 11) (hC : bf_Cn Γ d mu_X11_fits 0 0 [.ref (ad o), .int a0, .int a1] (bf_S ad I L) (fun q h => q = some (.int x) ∧ h = bf_S ad σ2.1 σ2.2)) (kk : bf_Go Γ room_1 (bf_mL nm) E Z (173, 9215) (pc + 3) lv (.int x :: st) (bf_S ad σ2.1 σ2.2)) : bf_Go Γ room_1 (bf_mL nm) E Z (173, 9215) pc lv (.int a1 :: .int a0 :: .ref (ad o) :: st) (bf_S ad I L) := bf_callV (μ := bf_mL nm) (k := (173, 9215)) (As := [.int a0, .int a1]) (rest := st) (mc := 0) (ms := 0) hd rfl wl_L_85 wm_X11_fits wv_X11_fits wi_X11 wc_X11_fits ⟨rfl, wdL_X11_fits⟩ hR ⟨Nat.le_of_ble_eq_true rfl, Nat.le_of_ble_eq_true rfl⟩ hw (bf_kd_lt hk (by decide)) hk (by decide) rfl hC (fun r h2 q => by obtain ⟨rfl, rfl⟩ := q; exact kk)
theorem wdL_X12_fits : yX12_fits.cls ≠ "java/lang/invoke/MethodHandle" ∧ yX12_fits.cls ≠ "java/lang/invoke/VarHandle" ∧ (parseMethodDescriptor yX12_fits.desc).map (fun d => d.parameters.length) = some 2 := by decide +kernel
theorem cv_L_88 {σ2 : bf_St} {o : Nat} {a0 : Int32} {a1 : Int32} {x : Int32} (d : Nat) (hd : decode cL_law pc = .ok (.invokevirtual 88, 3)) (hm : RL = RL) (hR : d + 1 ≤ room_1.frames ∧ 8 + (9 + 11) + 64 * d ≤ room_1.locals) (hw : (st.map fun v => v.category).sum ≤ 8) (hk : bf_kd o = 12) (hC : bf_Cn Γ d mu_X12_fits 0 0 [.ref (ad o), .int a0, .int a1] (bf_S ad I L) (fun q h => q = some (.int x) ∧ h = bf_S ad σ2.1 σ2.2)) (kk : bf_Go Γ room_1 (bf_mL nm) E Z (173, 9215) (pc + 3) lv (.int x :: st) (bf_S ad σ2.1 σ2.2)) : bf_Go Γ room_1 (bf_mL nm) E Z (173, 9215) pc lv (.int a1 :: .int a0 :: .ref (ad o) :: st) (bf_S ad I L) := bf_callV (μ := bf_mL nm) (k := (173, 9215)) (As := [.int a0, .int a1]) (rest := st) (mc := 0) (ms := 0) hd rfl wl_L_88 wm_X12_fits wv_X12_fits wi_X12 wc_X12_fits ⟨rfl, wdL_X12_fits⟩ hR ⟨Nat.le_of_ble_eq_true rfl, Nat.le_of_ble_eq_true rfl⟩ hw (bf_kd_lt hk (by decide)) hk (by decide) rfl hC (fun r h2 q => by obtain ⟨rfl, rfl⟩ := q; exact kk)
theorem wdL_X11_odds : yX11_odds.cls ≠ "java/lang/invoke/MethodHandle" ∧ yX11_odds.cls ≠ "java/lang/invoke/VarHandle" ∧ (parseMethodDescriptor yX11_odds.desc).map (fun d => d.parameters.length) = some 2 := by decide +kernel
theorem cv_L_89 {σ2 : bf_St} {o : Nat} {a0 : Int32} {a1 : Int32} {x : Int64} (d : Nat) (hd : decode cL_law pc = .ok (.invokevirtual 89, 3)) (hm : RL = RL) (hR : d + 1 ≤ room_1.frames ∧ 8 + (5 + 11) + 64 * d ≤ room_1.locals) (hw : (st.map fun v => v.category).sum ≤ 8) (hk : bf_kd o = 11) (hC : bf_Cn Γ d mu_X11_odds 0 0 [.ref (ad o), .int a0, .int a1] (bf_S ad I L) (fun q h => q = some (.long x) ∧ h = bf_S ad σ2.1 σ2.2)) (kk : bf_Go Γ room_1 (bf_mL nm) E Z (173, 9215) (pc + 3) lv (.long x :: st) (bf_S ad σ2.1 σ2.2)) : bf_Go Γ room_1 (bf_mL nm) E Z (173, 9215) pc lv (.int a1 :: .int a0 :: .ref (ad o) :: st) (bf_S ad I L) := bf_callV (μ := bf_mL nm) (k := (173, 9215)) (As := [.int a0, .int a1]) (rest := st) (mc := 0) (ms := 0) hd rfl wl_L_89 wm_X11_odds wv_X11_odds wi_X11 wc_X11_odds ⟨rfl, wdL_X11_odds⟩ hR ⟨Nat.le_of_ble_eq_true rfl, Nat.le_of_ble_eq_true rfl⟩ hw (bf_kd_lt hk (by decide)) hk (by decide) rfl hC (fun r h2 q => by obtain ⟨rfl, rfl⟩ := q; exact kk)
theorem wdL_X12_odds : yX12_odds.cls ≠ "java/lang/invoke/MethodHandle" ∧ yX12_odds.cls ≠ "java/lang/invoke/VarHandle" ∧ (parseMethodDescriptor yX12_odds.desc).map (fun d => d.parameters.length) = some 2 := by decide +kernel
theorem cv_L_92 {σ2 : bf_St} {o : Nat} {a0 : Int32} {a1 : Int32} {x : Int64} (d : Nat) (hd : decode cL_law pc = .ok (.invokevirtual 92, 3)) (hm : RL = RL) (hR : d + 1 ≤ room_1.frames ∧ 8 + (7 + 11) + 64 * d ≤ room_1.locals) (hw : (st.map fun v => v.category).sum ≤ 8) (hk : bf_kd o = 12) (hC : bf_Cn Γ d mu_X12_odds 0 0 [.ref (ad o), .int a0, .int a1] (bf_S ad I L) (fun q h => q = some (.long x) ∧ h = bf_S ad σ2.1 σ2.2)) (kk : bf_Go Γ room_1 (bf_mL nm) E Z (173, 9215) (pc + 3) lv (.long x :: st) (bf_S ad σ2.1 σ2.2)) : bf_Go Γ room_1 (bf_mL nm) E Z (173, 9215) pc lv (.int a1 :: .int a0 :: .ref (ad o) :: st) (bf_S ad I L) := bf_callV (μ := bf_mL nm) (k := (173, 9215)) (As := [.int a0, .int a1]) (rest := st) (mc := 0) (ms := 0) hd rfl wl_L_92 wm_X12_odds wv_X12_odds wi_X12 wc_X12_odds ⟨rfl, wdL_X12_odds⟩ hR ⟨Nat.le_of_ble_eq_true rfl, Nat.le_of_ble_eq_true rfl⟩ hw (bf_kd_lt hk (by decide)) hk (by decide) rfl hC (fun r h2 q => by obtain ⟨rfl, rfl⟩ := q; exact kk)
theorem wdL_X11_mean : yX11_mean.cls ≠ "java/lang/invoke/MethodHandle" ∧ yX11_mean.cls ≠ "java/lang/invoke/VarHandle" ∧ (parseMethodDescriptor yX11_mean.desc).map (fun d => d.parameters.length) = some 1 := by decide +kernel
theorem cv_L_93 {σ2 : bf_St} {o : Nat} {a0 : Int32} {x : Int64} (d : Nat) (hd : decode cL_law pc = .ok (.invokevirtual 93, 3)) (hm : RL = RL) (hR : d + 1 ≤ room_1.frames ∧ 8 + (3 + 11) + 64 * d ≤ room_1.locals) (hw : (st.map fun v => v.category).sum ≤ 8) (hk : bf_kd o = 11) (hC : bf_Cn Γ d mu_X11_mean 0 0 [.ref (ad o), .int a0] (bf_S ad I L) (fun q h => q = some (.long x) ∧ h = bf_S ad σ2.1 σ2.2)) (kk : bf_Go Γ room_1 (bf_mL nm) E Z (173, 9215) (pc + 3) lv (.long x :: st) (bf_S ad σ2.1 σ2.2)) : bf_Go Γ room_1 (bf_mL nm) E Z (173, 9215) pc lv (.int a0 :: .ref (ad o) :: st) (bf_S ad I L) := bf_callV (μ := bf_mL nm) (k := (173, 9215)) (As := [.int a0]) (rest := st) (mc := 0) (ms := 0) hd rfl wl_L_93 wm_X11_mean wv_X11_mean wi_X11 wc_X11_mean ⟨rfl, wdL_X11_mean⟩ hR ⟨Nat.le_of_ble_eq_true rfl, Nat.le_of_ble_eq_true rfl⟩ hw (bf_kd_lt hk (by decide)) hk (by decide) rfl hC (fun r h2 q => by obtain ⟨rfl, rfl⟩ := q; exact kk)
theorem wdL_X12_mean : yX12_mean.cls ≠ "java/lang/invoke/MethodHandle" ∧ yX12_mean.cls ≠ "java/lang/invoke/VarHandle" ∧ (parseMethodDescriptor yX12_mean.desc).map (fun d => d.parameters.length) = some 1 := by decide +kernel
theorem cv_L_96 {σ2 : bf_St} {o : Nat} {a0 : Int32} {x : Int64} (d : Nat) (hd : decode cL_law pc = .ok (.invokevirtual 96, 3)) (hm : RL = RL) (hR : d + 1 ≤ room_1.frames ∧ 8 + (6 + 11) + 64 * d ≤ room_1.locals) (hw : (st.map fun v => v.category).sum ≤ 8) (hk : bf_kd o = 12) (hC : bf_Cn Γ d mu_X12_mean 0 0 [.ref (ad o), .int a0] (bf_S ad I L) (fun q h => q = some (.long x) ∧ h = bf_S ad σ2.1 σ2.2)) (kk : bf_Go Γ room_1 (bf_mL nm) E Z (173, 9215) (pc + 3) lv (.long x :: st) (bf_S ad σ2.1 σ2.2)) : bf_Go Γ room_1 (bf_mL nm) E Z (173, 9215) pc lv (.int a0 :: .ref (ad o) :: st) (bf_S ad I L) := bf_callV (μ := bf_mL nm) (k := (173, 9215)) (As := [.int a0]) (rest := st) (mc := 0) (ms := 0) hd rfl wl_L_96 wm_X12_mean wv_X12_mean wi_X12 wc_X12_mean ⟨rfl, wdL_X12_mean⟩ hR ⟨Nat.le_of_ble_eq_true rfl, Nat.le_of_ble_eq_true rfl⟩ hw (bf_kd_lt hk (by decide)) hk (by decide) rfl hC (fun r h2 q => by obtain ⟨rfl, rfl⟩ := q; exact kk)
theorem wdL_X11_plan : yX11_plan.cls ≠ "java/lang/invoke/MethodHandle" ∧ yX11_plan.cls ≠ "java/lang/invoke/VarHandle" ∧ (parseMethodDescriptor yX11_plan.desc).map (fun d => d.parameters.length) = some 2 := by decide +kernel
theorem cv_L_97 {σ2 : bf_St} {o : Nat} {a0 : Int32} {a1 : Int32} {x : Int32} (d : Nat) (hd : decode cL_law pc = .ok (.invokevirtual 97, 3)) (hm : RL = RL) (hR : d + 1 ≤ room_1.frames ∧ 8 + (3 + 11) + 64 * d ≤ room_1.locals) (hw : (st.map fun v => v.category).sum ≤ 8) (hk : bf_kd o = 11) (hC : bf_Cn Γ d mu_X11_plan 0 0 [.ref (ad o), .int a0, .int a1] (bf_S ad I L) (fun q h => q = some (.int x) ∧ h = bf_S ad σ2.1 σ2.2)) (kk : bf_Go Γ room_1 (bf_mL nm) E Z (173, 9215) (pc + 3) lv (.int x :: st) (bf_S ad σ2.1 σ2.2)) : bf_Go Γ room_1 (bf_mL nm) E Z (173, 9215) pc lv (.int a1 :: .int a0 :: .ref (ad o) :: st) (bf_S ad I L) := bf_callV (μ := bf_mL nm) (k := (173, 9215)) (As := [.int a0, .int a1]) (rest := st) (mc := 0) (ms := 0) hd rfl wl_L_97 wm_X11_plan wv_X11_plan wi_X11 wc_X11_plan ⟨rfl, wdL_X11_plan⟩ hR ⟨Nat.le_of_ble_eq_true rfl, Nat.le_of_ble_eq_true rfl⟩ hw (bf_kd_lt hk (by decide)) hk (by decide) rfl hC (fun r h2 q => by obtain ⟨rfl, rfl⟩ := q; exact kk)
theorem wdL_X12_plan : yX12_plan.cls ≠ "java/lang/invoke/MethodHandle" ∧ yX12_plan.cls ≠ "java/lang/invoke/VarHandle" ∧ (parseMethodDescriptor yX12_plan.desc).map (fun d => d.parameters.length) = some 2 := by decide +kernel
theorem cv_L_100 {σ2 : bf_St} {o : Nat} {a0 : Int32} {a1 : Int32} {x : Int32} (d : Nat) (hd : decode cL_law pc = .ok (.invokevirtual 100, 3)) (hm : RL = RL) (hR : d + 1 ≤ room_1.frames ∧ 8 + (5 + 11) + 64 * d ≤ room_1.locals) (hw : (st.map fun v => v.category).sum ≤ 8) (hk : bf_kd o = 12) (hC : bf_Cn Γ d mu_X12_plan 0 0 [.ref (ad o), .int a0, .int a1] (bf_S ad I L) (fun q h => q = some (.int x) ∧ h = bf_S ad σ2.1 σ2.2)) (kk : bf_Go Γ room_1 (bf_mL nm) E Z (173, 9215) (pc + 3) lv (.int x :: st) (bf_S ad σ2.1 σ2.2)) : bf_Go Γ room_1 (bf_mL nm) E Z (173, 9215) pc lv (.int a1 :: .int a0 :: .ref (ad o) :: st) (bf_S ad I L) := bf_callV (μ := bf_mL nm) (k := (173, 9215)) (As := [.int a0, .int a1]) (rest := st) (mc := 0) (ms := 0) hd rfl wl_L_100 wm_X12_plan wv_X12_plan wi_X12 wc_X12_plan ⟨rfl, wdL_X12_plan⟩ hR ⟨Nat.le_of_ble_eq_true rfl, Nat.le_of_ble_eq_true rfl⟩ hw (bf_kd_lt hk (by decide)) hk (by decide) rfl hC (fun r h2 q => by obtain ⟨rfl, rfl⟩ := q; exact kk)
theorem wdL_X11_ends : yX11_ends.cls ≠ "java/lang/invoke/MethodHandle" ∧ yX11_ends.cls ≠ "java/lang/invoke/VarHandle" ∧ (parseMethodDescriptor yX11_ends.desc).map (fun d => d.parameters.length) = some 1 := by decide +kernel
theorem cv_L_101 {σ2 : bf_St} {o : Nat} {a0 : Int32} {x : Int32} (d : Nat) (hd : decode cL_law pc = .ok (.invokevirtual 101, 3)) (hm : RL = RL) (hR : d + 1 ≤ room_1.frames ∧ 8 + (3 + 11) + 64 * d ≤ room_1.locals) (hw : (st.map fun v => v.category).sum ≤ 8) (hk : bf_kd o = 11) (hC : bf_Cn Γ d mu_X11_ends 0 0 [.ref (ad o), .int a0] (bf_S ad I L) (fun q h => q = some (.int x) ∧ h = bf_S ad σ2.1 σ2.2)) (kk : bf_Go Γ room_1 (bf_mL nm) E Z (173, 9215) (pc + 3) lv (.int x :: st) (bf_S ad σ2.1 σ2.2)) : bf_Go Γ room_1 (bf_mL nm) E Z (173, 9215) pc lv (.int a0 :: .ref (ad o) :: st) (bf_S ad I L) := bf_callV (μ := bf_mL nm) (k := (173, 9215)) (As := [.int a0]) (rest := st) (mc := 0) (ms := 0) hd rfl wl_L_101 wm_X11_ends wv_X11_ends wi_X11 wc_X11_ends ⟨rfl, wdL_X11_ends⟩ hR ⟨Nat.le_of_ble_eq_true rfl, Nat.le_of_ble_eq_true rfl⟩ hw (bf_kd_lt hk (by decide)) hk (by decide) rfl hC (fun r h2 q => by obtain ⟨rfl, rfl⟩ := q; exact kk)
theorem wdL_X12_ends : yX12_ends.cls ≠ "java/lang/invoke/MethodHandle" ∧ yX12_ends.cls ≠ "java/lang/invoke/VarHandle" ∧ (parseMethodDescriptor yX12_ends.desc).map (fun d => d.parameters.length) = some 1 := by decide +kernel
theorem cv_L_104 {σ2 : bf_St} {o : Nat} {a0 : Int32} {x : Int32} (d : Nat) (hd : decode cL_law pc = .ok (.invokevirtual 104, 3)) (hm : RL = RL) (hR : d + 1 ≤ room_1.frames ∧ 8 + (5 + 11) + 64 * d ≤ room_1.locals) (hw : (st.map fun v => v.category).sum ≤ 8) (hk : bf_kd o = 12) (hC : bf_Cn Γ d mu_X12_ends 0 0 [.ref (ad o), .int a0] (bf_S ad I L) (fun q h => q = some (.int x) ∧ h = bf_S ad σ2.1 σ2.2)) (kk : bf_Go Γ room_1 (bf_mL nm) E Z (173, 9215) (pc + 3) lv (.int x :: st) (bf_S ad σ2.1 σ2.2)) : bf_Go Γ room_1 (bf_mL nm) E Z (173, 9215) pc lv (.int a0 :: .ref (ad o) :: st) (bf_S ad I L) := bf_callV (μ := bf_mL nm) (k := (173, 9215)) (As := [.int a0]) (rest := st) (mc := 0) (ms := 0) hd rfl wl_L_104 wm_X12_ends wv_X12_ends wi_X12 wc_X12_ends ⟨rfl, wdL_X12_ends⟩ hR ⟨Nat.le_of_ble_eq_true rfl, Nat.le_of_ble_eq_true rfl⟩ hw (bf_kd_lt hk (by decide)) hk (by decide) rfl hC (fun r h2 q => by obtain ⟨rfl, rfl⟩ := q; exact kk)
theorem wdL_X11_book : yX11_book.cls ≠ "java/lang/invoke/MethodHandle" ∧ yX11_book.cls ≠ "java/lang/invoke/VarHandle" ∧ (parseMethodDescriptor yX11_book.desc).map (fun d => d.parameters.length) = some 2 := by decide +kernel
theorem cv_L_105 {σ2 : bf_St} {o : Nat} {a0 : Int32} {a1 : Int32} {x : Int32} (d : Nat) (hd : decode cL_law pc = .ok (.invokevirtual 105, 3)) (hm : RL = RL) (hR : d + 1 ≤ room_1.frames ∧ 8 + (3 + 11) + 64 * d ≤ room_1.locals) (hw : (st.map fun v => v.category).sum ≤ 8) (hk : bf_kd o = 11) (hC : bf_Cn Γ d mu_X11_book 0 0 [.ref (ad o), .int a0, .int a1] (bf_S ad I L) (fun q h => q = some (.int x) ∧ h = bf_S ad σ2.1 σ2.2)) (kk : bf_Go Γ room_1 (bf_mL nm) E Z (173, 9215) (pc + 3) lv (.int x :: st) (bf_S ad σ2.1 σ2.2)) : bf_Go Γ room_1 (bf_mL nm) E Z (173, 9215) pc lv (.int a1 :: .int a0 :: .ref (ad o) :: st) (bf_S ad I L) := bf_callV (μ := bf_mL nm) (k := (173, 9215)) (As := [.int a0, .int a1]) (rest := st) (mc := 0) (ms := 0) hd rfl wl_L_105 wm_X11_book wv_X11_book wi_X11 wc_X11_book ⟨rfl, wdL_X11_book⟩ hR ⟨Nat.le_of_ble_eq_true rfl, Nat.le_of_ble_eq_true rfl⟩ hw (bf_kd_lt hk (by decide)) hk (by decide) rfl hC (fun r h2 q => by obtain ⟨rfl, rfl⟩ := q; exact kk)
theorem wdL_X12_book : yX12_book.cls ≠ "java/lang/invoke/MethodHandle" ∧ yX12_book.cls ≠ "java/lang/invoke/VarHandle" ∧ (parseMethodDescriptor yX12_book.desc).map (fun d => d.parameters.length) = some 2 := by decide +kernel
theorem cv_L_108 {σ2 : bf_St} {o : Nat} {a0 : Int32} {a1 : Int32} {x : Int32} (d : Nat) (hd : decode cL_law pc = .ok (.invokevirtual 108, 3)) (hm : RL = RL) (hR : d + 1 ≤ room_1.frames ∧ 8 + (4 + 11) + 64 * d ≤ room_1.locals) (hw : (st.map fun v => v.category).sum ≤ 8) (hk : bf_kd o = 12) (hC : bf_Cn Γ d mu_X12_book 0 0 [.ref (ad o), .int a0, .int a1] (bf_S ad I L) (fun q h => q = some (.int x) ∧ h = bf_S ad σ2.1 σ2.2)) (kk : bf_Go Γ room_1 (bf_mL nm) E Z (173, 9215) (pc + 3) lv (.int x :: st) (bf_S ad σ2.1 σ2.2)) : bf_Go Γ room_1 (bf_mL nm) E Z (173, 9215) pc lv (.int a1 :: .int a0 :: .ref (ad o) :: st) (bf_S ad I L) := bf_callV (μ := bf_mL nm) (k := (173, 9215)) (As := [.int a0, .int a1]) (rest := st) (mc := 0) (ms := 0) hd rfl wl_L_108 wm_X12_book wv_X12_book wi_X12 wc_X12_book ⟨rfl, wdL_X12_book⟩ hR ⟨Nat.le_of_ble_eq_true rfl, Nat.le_of_ble_eq_true rfl⟩ hw (bf_kd_lt hk (by decide)) hk (by decide) rfl hC (fun r h2 q => by obtain ⟨rfl, rfl⟩ := q; exact kk)
theorem wdL_X11_looked : yX11_looked.cls ≠ "java/lang/invoke/MethodHandle" ∧ yX11_looked.cls ≠ "java/lang/invoke/VarHandle" ∧ (parseMethodDescriptor yX11_looked.desc).map (fun d => d.parameters.length) = some 0 := by decide +kernel
theorem cv_L_109 {σ2 : bf_St} {o : Nat} {x : Int32} (d : Nat) (hd : decode cL_law pc = .ok (.invokevirtual 109, 3)) (hm : RL = RL) (hR : d + 1 ≤ room_1.frames ∧ 8 + (4 + 11) + 64 * d ≤ room_1.locals) (hw : (st.map fun v => v.category).sum ≤ 8) (hk : bf_kd o = 11) (hC : bf_Cn Γ d mu_X11_looked 0 0 [.ref (ad o)] (bf_S ad I L) (fun q h => q = some (.int x) ∧ h = bf_S ad σ2.1 σ2.2)) (kk : bf_Go Γ room_1 (bf_mL nm) E Z (173, 9215) (pc + 3) lv (.int x :: st) (bf_S ad σ2.1 σ2.2)) : bf_Go Γ room_1 (bf_mL nm) E Z (173, 9215) pc lv (.ref (ad o) :: st) (bf_S ad I L) := bf_callV (μ := bf_mL nm) (k := (173, 9215)) (As := []) (rest := st) (mc := 0) (ms := 0) hd rfl wl_L_109 wm_X11_looked wv_X11_looked wi_X11 wc_X11_looked ⟨rfl, wdL_X11_looked⟩ hR ⟨Nat.le_of_ble_eq_true rfl, Nat.le_of_ble_eq_true rfl⟩ hw (bf_kd_lt hk (by decide)) hk (by decide) rfl hC (fun r h2 q => by obtain ⟨rfl, rfl⟩ := q; exact kk)
theorem wdL_X12_looked : yX12_looked.cls ≠ "java/lang/invoke/MethodHandle" ∧ yX12_looked.cls ≠ "java/lang/invoke/VarHandle" ∧ (parseMethodDescriptor yX12_looked.desc).map (fun d => d.parameters.length) = some 0 := by decide +kernel
theorem cv_L_112 {σ2 : bf_St} {o : Nat} {x : Int32} (d : Nat) (hd : decode cL_law pc = .ok (.invokevirtual 112, 3)) (hm : RL = RL) (hR : d + 1 ≤ room_1.frames ∧ 8 + (3 + 11) + 64 * d ≤ room_1.locals) (hw : (st.map fun v => v.category).sum ≤ 8) (hk : bf_kd o = 12) (hC : bf_Cn Γ d mu_X12_looked 0 0 [.ref (ad o)] (bf_S ad I L) (fun q h => q = some (.int x) ∧ h = bf_S ad σ2.1 σ2.2)) (kk : bf_Go Γ room_1 (bf_mL nm) E Z (173, 9215) (pc + 3) lv (.int x :: st) (bf_S ad σ2.1 σ2.2)) : bf_Go Γ room_1 (bf_mL nm) E Z (173, 9215) pc lv (.ref (ad o) :: st) (bf_S ad I L) := bf_callV (μ := bf_mL nm) (k := (173, 9215)) (As := []) (rest := st) (mc := 0) (ms := 0) hd rfl wl_L_112 wm_X12_looked wv_X12_looked wi_X12 wc_X12_looked ⟨rfl, wdL_X12_looked⟩ hR ⟨Nat.le_of_ble_eq_true rfl, Nat.le_of_ble_eq_true rfl⟩ hw (bf_kd_lt hk (by decide)) hk (by decide) rfl hC (fun r h2 q => by obtain ⟨rfl, rfl⟩ := q; exact kk)
theorem wdL_X11_judge : yX11_judge.cls ≠ "java/lang/invoke/MethodHandle" ∧ yX11_judge.cls ≠ "java/lang/invoke/VarHandle" ∧ (parseMethodDescriptor yX11_judge.desc).map (fun d => d.parameters.length) = some 3 := by decide +kernel
theorem cv_L_113 {σ2 : bf_St} {o : Nat} {a0 : Int32} {a1 : Int32} {a2 : Int32} {x : Int32} (d : Nat) (hd : decode cL_law pc = .ok (.invokevirtual 113, 3)) (hm : RL = RL) (hR : d + 1 ≤ room_1.frames ∧ 8 + (7 + 11) + 64 * d ≤ room_1.locals) (hw : (st.map fun v => v.category).sum ≤ 8) (hk : bf_kd o = 11) (hC : bf_Cn Γ d mu_X11_judge 0 0 [.ref (ad o), .int a0, .int a1, .int a2] (bf_S ad I L) (fun q h => q = some (.int x) ∧ h = bf_S ad σ2.1 σ2.2)) (kk : bf_Go Γ room_1 (bf_mL nm) E Z (173, 9215) (pc + 3) lv (.int x :: st) (bf_S ad σ2.1 σ2.2)) : bf_Go Γ room_1 (bf_mL nm) E Z (173, 9215) pc lv (.int a2 :: .int a1 :: .int a0 :: .ref (ad o) :: st) (bf_S ad I L) := bf_callV (μ := bf_mL nm) (k := (173, 9215)) (As := [.int a0, .int a1, .int a2]) (rest := st) (mc := 0) (ms := 0) hd rfl wl_L_113 wm_X11_judge wv_X11_judge wi_X11 wc_X11_judge ⟨rfl, wdL_X11_judge⟩ hR ⟨Nat.le_of_ble_eq_true rfl, Nat.le_of_ble_eq_true rfl⟩ hw (bf_kd_lt hk (by decide)) hk (by decide) rfl hC (fun r h2 q => by obtain ⟨rfl, rfl⟩ := q; exact kk)
theorem wdL_X12_judge : yX12_judge.cls ≠ "java/lang/invoke/MethodHandle" ∧ yX12_judge.cls ≠ "java/lang/invoke/VarHandle" ∧ (parseMethodDescriptor yX12_judge.desc).map (fun d => d.parameters.length) = some 3 := by decide +kernel
theorem cv_L_116 {σ2 : bf_St} {o : Nat} {a0 : Int32} {a1 : Int32} {a2 : Int32} {x : Int32} (d : Nat) (hd : decode cL_law pc = .ok (.invokevirtual 116, 3)) (hm : RL = RL) (hR : d + 1 ≤ room_1.frames ∧ 8 + (5 + 11) + 64 * d ≤ room_1.locals) (hw : (st.map fun v => v.category).sum ≤ 8) (hk : bf_kd o = 12) (hC : bf_Cn Γ d mu_X12_judge 0 0 [.ref (ad o), .int a0, .int a1, .int a2] (bf_S ad I L) (fun q h => q = some (.int x) ∧ h = bf_S ad σ2.1 σ2.2)) (kk : bf_Go Γ room_1 (bf_mL nm) E Z (173, 9215) (pc + 3) lv (.int x :: st) (bf_S ad σ2.1 σ2.2)) : bf_Go Γ room_1 (bf_mL nm) E Z (173, 9215) pc lv (.int a2 :: .int a1 :: .int a0 :: .ref (ad o) :: st) (bf_S ad I L) := bf_callV (μ := bf_mL nm) (k := (173, 9215)) (As := [.int a0, .int a1, .int a2]) (rest := st) (mc := 0) (ms := 0) hd rfl wl_L_116 wm_X12_judge wv_X12_judge wi_X12 wc_X12_judge ⟨rfl, wdL_X12_judge⟩ hR ⟨Nat.le_of_ble_eq_true rfl, Nat.le_of_ble_eq_true rfl⟩ hw (bf_kd_lt hk (by decide)) hk (by decide) rfl hC (fun r h2 q => by obtain ⟨rfl, rfl⟩ := q; exact kk)
theorem wdL_X11_image : yX11_image.cls ≠ "java/lang/invoke/MethodHandle" ∧ yX11_image.cls ≠ "java/lang/invoke/VarHandle" ∧ (parseMethodDescriptor yX11_image.desc).map (fun d => d.parameters.length) = some 0 := by decide +kernel
theorem cv_L_117 {σ2 : bf_St} {o : Nat} {x : Int32} (d : Nat) (hd : decode cL_law pc = .ok (.invokevirtual 117, 3)) (hm : RL = RL) (hR : d + 1 ≤ room_1.frames ∧ 8 + (1 + 11) + 64 * d ≤ room_1.locals) (hw : (st.map fun v => v.category).sum ≤ 8) (hk : bf_kd o = 11) (hC : bf_Cn Γ d mu_X11_image 0 0 [.ref (ad o)] (bf_S ad I L) (fun q h => q = some (.int x) ∧ h = bf_S ad σ2.1 σ2.2)) (kk : bf_Go Γ room_1 (bf_mL nm) E Z (173, 9215) (pc + 3) lv (.int x :: st) (bf_S ad σ2.1 σ2.2)) : bf_Go Γ room_1 (bf_mL nm) E Z (173, 9215) pc lv (.ref (ad o) :: st) (bf_S ad I L) := bf_callV (μ := bf_mL nm) (k := (173, 9215)) (As := []) (rest := st) (mc := 0) (ms := 0) hd rfl wl_L_117 wm_X11_image wv_X11_image wi_X11 wc_X11_image ⟨rfl, wdL_X11_image⟩ hR ⟨Nat.le_of_ble_eq_true rfl, Nat.le_of_ble_eq_true rfl⟩ hw (bf_kd_lt hk (by decide)) hk (by decide) rfl hC (fun r h2 q => by obtain ⟨rfl, rfl⟩ := q; exact kk)
theorem wdL_X12_image : yX12_image.cls ≠ "java/lang/invoke/MethodHandle" ∧ yX12_image.cls ≠ "java/lang/invoke/VarHandle" ∧ (parseMethodDescriptor yX12_image.desc).map (fun d => d.parameters.length) = some 0 := by decide +kernel
theorem cv_L_120 {σ2 : bf_St} {o : Nat} {x : Int32} (d : Nat) (hd : decode cL_law pc = .ok (.invokevirtual 120, 3)) (hm : RL = RL) (hR : d + 1 ≤ room_1.frames ∧ 8 + (1 + 11) + 64 * d ≤ room_1.locals) (hw : (st.map fun v => v.category).sum ≤ 8) (hk : bf_kd o = 12) (hC : bf_Cn Γ d mu_X12_image 0 0 [.ref (ad o)] (bf_S ad I L) (fun q h => q = some (.int x) ∧ h = bf_S ad σ2.1 σ2.2)) (kk : bf_Go Γ room_1 (bf_mL nm) E Z (173, 9215) (pc + 3) lv (.int x :: st) (bf_S ad σ2.1 σ2.2)) : bf_Go Γ room_1 (bf_mL nm) E Z (173, 9215) pc lv (.ref (ad o) :: st) (bf_S ad I L) := bf_callV (μ := bf_mL nm) (k := (173, 9215)) (As := []) (rest := st) (mc := 0) (ms := 0) hd rfl wl_L_120 wm_X12_image wv_X12_image wi_X12 wc_X12_image ⟨rfl, wdL_X12_image⟩ hR ⟨Nat.le_of_ble_eq_true rfl, Nat.le_of_ble_eq_true rfl⟩ hw (bf_kd_lt hk (by decide)) hk (by decide) rfl hC (fun r h2 q => by obtain ⟨rfl, rfl⟩ := q; exact kk)
theorem wdL_X11_undo : yX11_undo.cls ≠ "java/lang/invoke/MethodHandle" ∧ yX11_undo.cls ≠ "java/lang/invoke/VarHandle" ∧ (parseMethodDescriptor yX11_undo.desc).map (fun d => d.parameters.length) = some 0 := by decide +kernel
theorem cv_L_121 {σ2 : bf_St} {o : Nat} {x : Int32} (d : Nat) (hd : decode cL_law pc = .ok (.invokevirtual 121, 3)) (hm : RL = RL) (hR : d + 1 ≤ room_1.frames ∧ 8 + (1 + 11) + 64 * d ≤ room_1.locals) (hw : (st.map fun v => v.category).sum ≤ 8) (hk : bf_kd o = 11) (hC : bf_Cn Γ d mu_X11_undo 0 0 [.ref (ad o)] (bf_S ad I L) (fun q h => q = some (.int x) ∧ h = bf_S ad σ2.1 σ2.2)) (kk : bf_Go Γ room_1 (bf_mL nm) E Z (173, 9215) (pc + 3) lv (.int x :: st) (bf_S ad σ2.1 σ2.2)) : bf_Go Γ room_1 (bf_mL nm) E Z (173, 9215) pc lv (.ref (ad o) :: st) (bf_S ad I L) := bf_callV (μ := bf_mL nm) (k := (173, 9215)) (As := []) (rest := st) (mc := 0) (ms := 0) hd rfl wl_L_121 wm_X11_undo wv_X11_undo wi_X11 wc_X11_undo ⟨rfl, wdL_X11_undo⟩ hR ⟨Nat.le_of_ble_eq_true rfl, Nat.le_of_ble_eq_true rfl⟩ hw (bf_kd_lt hk (by decide)) hk (by decide) rfl hC (fun r h2 q => by obtain ⟨rfl, rfl⟩ := q; exact kk)
theorem wdL_X12_undo : yX12_undo.cls ≠ "java/lang/invoke/MethodHandle" ∧ yX12_undo.cls ≠ "java/lang/invoke/VarHandle" ∧ (parseMethodDescriptor yX12_undo.desc).map (fun d => d.parameters.length) = some 0 := by decide +kernel
theorem cv_L_124 {σ2 : bf_St} {o : Nat} {x : Int32} (d : Nat) (hd : decode cL_law pc = .ok (.invokevirtual 124, 3)) (hm : RL = RL) (hR : d + 1 ≤ room_1.frames ∧ 8 + (1 + 11) + 64 * d ≤ room_1.locals) (hw : (st.map fun v => v.category).sum ≤ 8) (hk : bf_kd o = 12) (hC : bf_Cn Γ d mu_X12_undo 0 0 [.ref (ad o)] (bf_S ad I L) (fun q h => q = some (.int x) ∧ h = bf_S ad σ2.1 σ2.2)) (kk : bf_Go Γ room_1 (bf_mL nm) E Z (173, 9215) (pc + 3) lv (.int x :: st) (bf_S ad σ2.1 σ2.2)) : bf_Go Γ room_1 (bf_mL nm) E Z (173, 9215) pc lv (.ref (ad o) :: st) (bf_S ad I L) := bf_callV (μ := bf_mL nm) (k := (173, 9215)) (As := []) (rest := st) (mc := 0) (ms := 0) hd rfl wl_L_124 wm_X12_undo wv_X12_undo wi_X12 wc_X12_undo ⟨rfl, wdL_X12_undo⟩ hR ⟨Nat.le_of_ble_eq_true rfl, Nat.le_of_ble_eq_true rfl⟩ hw (bf_kd_lt hk (by decide)) hk (by decide) rfl hC (fun r h2 q => by obtain ⟨rfl, rfl⟩ := q; exact kk)
theorem wdL_X11_count : yX11_count.cls ≠ "java/lang/invoke/MethodHandle" ∧ yX11_count.cls ≠ "java/lang/invoke/VarHandle" ∧ (parseMethodDescriptor yX11_count.desc).map (fun d => d.parameters.length) = some 1 := by decide +kernel
theorem cv_L_125 {σ2 : bf_St} {o : Nat} {a0 : Int32} {x : Int32} (d : Nat) (hd : decode cL_law pc = .ok (.invokevirtual 125, 3)) (hm : RL = RL) (hR : d + 1 ≤ room_1.frames ∧ 8 + (2 + 11) + 64 * d ≤ room_1.locals) (hw : (st.map fun v => v.category).sum ≤ 8) (hk : bf_kd o = 11) (hC : bf_Cn Γ d mu_X11_count 0 0 [.ref (ad o), .int a0] (bf_S ad I L) (fun q h => q = some (.int x) ∧ h = bf_S ad σ2.1 σ2.2)) (kk : bf_Go Γ room_1 (bf_mL nm) E Z (173, 9215) (pc + 3) lv (.int x :: st) (bf_S ad σ2.1 σ2.2)) : bf_Go Γ room_1 (bf_mL nm) E Z (173, 9215) pc lv (.int a0 :: .ref (ad o) :: st) (bf_S ad I L) := bf_callV (μ := bf_mL nm) (k := (173, 9215)) (As := [.int a0]) (rest := st) (mc := 0) (ms := 0) hd rfl wl_L_125 wm_X11_count wv_X11_count wi_X11 wc_X11_count ⟨rfl, wdL_X11_count⟩ hR ⟨Nat.le_of_ble_eq_true rfl, Nat.le_of_ble_eq_true rfl⟩ hw (bf_kd_lt hk (by decide)) hk (by decide) rfl hC (fun r h2 q => by obtain ⟨rfl, rfl⟩ := q; exact kk)
theorem wdL_X12_count : yX12_count.cls ≠ "java/lang/invoke/MethodHandle" ∧ yX12_count.cls ≠ "java/lang/invoke/VarHandle" ∧ (parseMethodDescriptor yX12_count.desc).map (fun d => d.parameters.length) = some 1 := by decide +kernel
theorem cv_L_128 {σ2 : bf_St} {o : Nat} {a0 : Int32} {x : Int32} (d : Nat) (hd : decode cL_law pc = .ok (.invokevirtual 128, 3)) (hm : RL = RL) (hR : d + 1 ≤ room_1.frames ∧ 8 + (2 + 11) + 64 * d ≤ room_1.locals) (hw : (st.map fun v => v.category).sum ≤ 8) (hk : bf_kd o = 12) (hC : bf_Cn Γ d mu_X12_count 0 0 [.ref (ad o), .int a0] (bf_S ad I L) (fun q h => q = some (.int x) ∧ h = bf_S ad σ2.1 σ2.2)) (kk : bf_Go Γ room_1 (bf_mL nm) E Z (173, 9215) (pc + 3) lv (.int x :: st) (bf_S ad σ2.1 σ2.2)) : bf_Go Γ room_1 (bf_mL nm) E Z (173, 9215) pc lv (.int a0 :: .ref (ad o) :: st) (bf_S ad I L) := bf_callV (μ := bf_mL nm) (k := (173, 9215)) (As := [.int a0]) (rest := st) (mc := 0) (ms := 0) hd rfl wl_L_128 wm_X12_count wv_X12_count wi_X12 wc_X12_count ⟨rfl, wdL_X12_count⟩ hR ⟨Nat.le_of_ble_eq_true rfl, Nat.le_of_ble_eq_true rfl⟩ hw (bf_kd_lt hk (by decide)) hk (by decide) rfl hC (fun r h2 q => by obtain ⟨rfl, rfl⟩ := q; exact kk)
theorem wdL_X11_tape : yX11_tape.cls ≠ "java/lang/invoke/MethodHandle" ∧ yX11_tape.cls ≠ "java/lang/invoke/VarHandle" ∧ (parseMethodDescriptor yX11_tape.desc).map (fun d => d.parameters.length) = some 3 := by decide +kernel
theorem cv_L_129 {σ2 : bf_St} {o : Nat} {a0 : Int32} {a1 : Int32} {a2 : Int32} {x : Int32} (d : Nat) (hd : decode cL_law pc = .ok (.invokevirtual 129, 3)) (hm : RL = RL) (hR : d + 1 ≤ room_1.frames ∧ 8 + (4 + 11) + 64 * d ≤ room_1.locals) (hw : (st.map fun v => v.category).sum ≤ 8) (hk : bf_kd o = 11) (hC : bf_Cn Γ d mu_X11_tape 0 0 [.ref (ad o), .int a0, .int a1, .int a2] (bf_S ad I L) (fun q h => q = some (.int x) ∧ h = bf_S ad σ2.1 σ2.2)) (kk : bf_Go Γ room_1 (bf_mL nm) E Z (173, 9215) (pc + 3) lv (.int x :: st) (bf_S ad σ2.1 σ2.2)) : bf_Go Γ room_1 (bf_mL nm) E Z (173, 9215) pc lv (.int a2 :: .int a1 :: .int a0 :: .ref (ad o) :: st) (bf_S ad I L) := bf_callV (μ := bf_mL nm) (k := (173, 9215)) (As := [.int a0, .int a1, .int a2]) (rest := st) (mc := 0) (ms := 0) hd rfl wl_L_129 wm_X11_tape wv_X11_tape wi_X11 wc_X11_tape ⟨rfl, wdL_X11_tape⟩ hR ⟨Nat.le_of_ble_eq_true rfl, Nat.le_of_ble_eq_true rfl⟩ hw (bf_kd_lt hk (by decide)) hk (by decide) rfl hC (fun r h2 q => by obtain ⟨rfl, rfl⟩ := q; exact kk)
theorem wdL_X12_tape : yX12_tape.cls ≠ "java/lang/invoke/MethodHandle" ∧ yX12_tape.cls ≠ "java/lang/invoke/VarHandle" ∧ (parseMethodDescriptor yX12_tape.desc).map (fun d => d.parameters.length) = some 3 := by decide +kernel
theorem cv_L_132 {σ2 : bf_St} {o : Nat} {a0 : Int32} {a1 : Int32} {a2 : Int32} {x : Int32} (d : Nat) (hd : decode cL_law pc = .ok (.invokevirtual 132, 3)) (hm : RL = RL) (hR : d + 1 ≤ room_1.frames ∧ 8 + (5 + 11) + 64 * d ≤ room_1.locals) (hw : (st.map fun v => v.category).sum ≤ 8) (hk : bf_kd o = 12) (hC : bf_Cn Γ d mu_X12_tape 0 0 [.ref (ad o), .int a0, .int a1, .int a2] (bf_S ad I L) (fun q h => q = some (.int x) ∧ h = bf_S ad σ2.1 σ2.2)) (kk : bf_Go Γ room_1 (bf_mL nm) E Z (173, 9215) (pc + 3) lv (.int x :: st) (bf_S ad σ2.1 σ2.2)) : bf_Go Γ room_1 (bf_mL nm) E Z (173, 9215) pc lv (.int a2 :: .int a1 :: .int a0 :: .ref (ad o) :: st) (bf_S ad I L) := bf_callV (μ := bf_mL nm) (k := (173, 9215)) (As := [.int a0, .int a1, .int a2]) (rest := st) (mc := 0) (ms := 0) hd rfl wl_L_132 wm_X12_tape wv_X12_tape wi_X12 wc_X12_tape ⟨rfl, wdL_X12_tape⟩ hR ⟨Nat.le_of_ble_eq_true rfl, Nat.le_of_ble_eq_true rfl⟩ hw (bf_kd_lt hk (by decide)) hk (by decide) rfl hC (fun r h2 q => by obtain ⟨rfl, rfl⟩ := q; exact kk)
theorem wdL_X11_item : yX11_item.cls ≠ "java/lang/invoke/MethodHandle" ∧ yX11_item.cls ≠ "java/lang/invoke/VarHandle" ∧ (parseMethodDescriptor yX11_item.desc).map (fun d => d.parameters.length) = some 3 := by decide +kernel
theorem cv_L_135 {σ2 : bf_St} {o : Nat} {a0 : Int32} {a1 : Int32} {a2 : Int64} {x : Int32} (d : Nat) (hd : decode cL_law pc = .ok (.invokevirtual 135, 3)) (hm : RL = RL) (hR : d + 1 ≤ room_1.frames ∧ 8 + (5 + 11) + 64 * d ≤ room_1.locals) (hw : (st.map fun v => v.category).sum ≤ 8) (hk : bf_kd o = 11) (hC : bf_Cn Γ d mu_X11_item 0 0 [.ref (ad o), .int a0, .int a1, .long a2] (bf_S ad I L) (fun q h => q = some (.int x) ∧ h = bf_S ad σ2.1 σ2.2)) (kk : bf_Go Γ room_1 (bf_mL nm) E Z (173, 9215) (pc + 3) lv (.int x :: st) (bf_S ad σ2.1 σ2.2)) : bf_Go Γ room_1 (bf_mL nm) E Z (173, 9215) pc lv (.long a2 :: .int a1 :: .int a0 :: .ref (ad o) :: st) (bf_S ad I L) := bf_callV (μ := bf_mL nm) (k := (173, 9215)) (As := [.int a0, .int a1, .long a2]) (rest := st) (mc := 0) (ms := 0) hd rfl wl_L_135 wm_X11_item wv_X11_item wi_X11 wc_X11_item ⟨rfl, wdL_X11_item⟩ hR ⟨Nat.le_of_ble_eq_true rfl, Nat.le_of_ble_eq_true rfl⟩ hw (bf_kd_lt hk (by decide)) hk (by decide) rfl hC (fun r h2 q => by obtain ⟨rfl, rfl⟩ := q; exact kk)
theorem wdL_X12_item : yX12_item.cls ≠ "java/lang/invoke/MethodHandle" ∧ yX12_item.cls ≠ "java/lang/invoke/VarHandle" ∧ (parseMethodDescriptor yX12_item.desc).map (fun d => d.parameters.length) = some 3 := by decide +kernel
theorem cv_L_139 {σ2 : bf_St} {o : Nat} {a0 : Int32} {a1 : Int32} {a2 : Int64} {x : Int32} (d : Nat) (hd : decode cL_law pc = .ok (.invokevirtual 139, 3)) (hm : RL = RL) (hR : d + 1 ≤ room_1.frames ∧ 8 + (5 + 11) + 64 * d ≤ room_1.locals) (hw : (st.map fun v => v.category).sum ≤ 8) (hk : bf_kd o = 12) (hC : bf_Cn Γ d mu_X12_item 0 0 [.ref (ad o), .int a0, .int a1, .long a2] (bf_S ad I L) (fun q h => q = some (.int x) ∧ h = bf_S ad σ2.1 σ2.2)) (kk : bf_Go Γ room_1 (bf_mL nm) E Z (173, 9215) (pc + 3) lv (.int x :: st) (bf_S ad σ2.1 σ2.2)) : bf_Go Γ room_1 (bf_mL nm) E Z (173, 9215) pc lv (.long a2 :: .int a1 :: .int a0 :: .ref (ad o) :: st) (bf_S ad I L) := bf_callV (μ := bf_mL nm) (k := (173, 9215)) (As := [.int a0, .int a1, .long a2]) (rest := st) (mc := 0) (ms := 0) hd rfl wl_L_139 wm_X12_item wv_X12_item wi_X12 wc_X12_item ⟨rfl, wdL_X12_item⟩ hR ⟨Nat.le_of_ble_eq_true rfl, Nat.le_of_ble_eq_true rfl⟩ hw (bf_kd_lt hk (by decide)) hk (by decide) rfl hC (fun r h2 q => by obtain ⟨rfl, rfl⟩ := q; exact kk)
theorem wdL_X11_peek : yX11_peek.cls ≠ "java/lang/invoke/MethodHandle" ∧ yX11_peek.cls ≠ "java/lang/invoke/VarHandle" ∧ (parseMethodDescriptor yX11_peek.desc).map (fun d => d.parameters.length) = some 2 := by decide +kernel
theorem cv_L_140 {σ2 : bf_St} {o : Nat} {a0 : Int32} {a1 : Int32} {x : Int64} (d : Nat) (hd : decode cL_law pc = .ok (.invokevirtual 140, 3)) (hm : RL = RL) (hR : d + 1 ≤ room_1.frames ∧ 8 + (3 + 11) + 64 * d ≤ room_1.locals) (hw : (st.map fun v => v.category).sum ≤ 8) (hk : bf_kd o = 11) (hC : bf_Cn Γ d mu_X11_peek 0 0 [.ref (ad o), .int a0, .int a1] (bf_S ad I L) (fun q h => q = some (.long x) ∧ h = bf_S ad σ2.1 σ2.2)) (kk : bf_Go Γ room_1 (bf_mL nm) E Z (173, 9215) (pc + 3) lv (.long x :: st) (bf_S ad σ2.1 σ2.2)) : bf_Go Γ room_1 (bf_mL nm) E Z (173, 9215) pc lv (.int a1 :: .int a0 :: .ref (ad o) :: st) (bf_S ad I L) := bf_callV (μ := bf_mL nm) (k := (173, 9215)) (As := [.int a0, .int a1]) (rest := st) (mc := 0) (ms := 0) hd rfl wl_L_140 wm_X11_peek wv_X11_peek wi_X11 wc_X11_peek ⟨rfl, wdL_X11_peek⟩ hR ⟨Nat.le_of_ble_eq_true rfl, Nat.le_of_ble_eq_true rfl⟩ hw (bf_kd_lt hk (by decide)) hk (by decide) rfl hC (fun r h2 q => by obtain ⟨rfl, rfl⟩ := q; exact kk)
theorem wdL_X12_peek : yX12_peek.cls ≠ "java/lang/invoke/MethodHandle" ∧ yX12_peek.cls ≠ "java/lang/invoke/VarHandle" ∧ (parseMethodDescriptor yX12_peek.desc).map (fun d => d.parameters.length) = some 2 := by decide +kernel
theorem cv_L_143 {σ2 : bf_St} {o : Nat} {a0 : Int32} {a1 : Int32} {x : Int64} (d : Nat) (hd : decode cL_law pc = .ok (.invokevirtual 143, 3)) (hm : RL = RL) (hR : d + 1 ≤ room_1.frames ∧ 8 + (3 + 11) + 64 * d ≤ room_1.locals) (hw : (st.map fun v => v.category).sum ≤ 8) (hk : bf_kd o = 12) (hC : bf_Cn Γ d mu_X12_peek 0 0 [.ref (ad o), .int a0, .int a1] (bf_S ad I L) (fun q h => q = some (.long x) ∧ h = bf_S ad σ2.1 σ2.2)) (kk : bf_Go Γ room_1 (bf_mL nm) E Z (173, 9215) (pc + 3) lv (.long x :: st) (bf_S ad σ2.1 σ2.2)) : bf_Go Γ room_1 (bf_mL nm) E Z (173, 9215) pc lv (.int a1 :: .int a0 :: .ref (ad o) :: st) (bf_S ad I L) := bf_callV (μ := bf_mL nm) (k := (173, 9215)) (As := [.int a0, .int a1]) (rest := st) (mc := 0) (ms := 0) hd rfl wl_L_143 wm_X12_peek wv_X12_peek wi_X12 wc_X12_peek ⟨rfl, wdL_X12_peek⟩ hR ⟨Nat.le_of_ble_eq_true rfl, Nat.le_of_ble_eq_true rfl⟩ hw (bf_kd_lt hk (by decide)) hk (by decide) rfl hC (fun r h2 q => by obtain ⟨rfl, rfl⟩ := q; exact kk)
theorem wdL_X11_shift : yX11_shift.cls ≠ "java/lang/invoke/MethodHandle" ∧ yX11_shift.cls ≠ "java/lang/invoke/VarHandle" ∧ (parseMethodDescriptor yX11_shift.desc).map (fun d => d.parameters.length) = some 5 := by decide +kernel
theorem cv_L_144 {σ2 : bf_St} {o : Nat} {a0 : Int32} {a1 : Int32} {a2 : Int32} {a3 : Int32} {a4 : Int32} {x : Int32} (d : Nat) (hd : decode cL_law pc = .ok (.invokevirtual 144, 3)) (hm : RL = RL) (hR : d + 1 ≤ room_1.frames ∧ 8 + (8 + 11) + 64 * d ≤ room_1.locals) (hw : (st.map fun v => v.category).sum ≤ 8) (hk : bf_kd o = 11) (hC : bf_Cn Γ d mu_X11_shift 0 0 [.ref (ad o), .int a0, .int a1, .int a2, .int a3, .int a4] (bf_S ad I L) (fun q h => q = some (.int x) ∧ h = bf_S ad σ2.1 σ2.2)) (kk : bf_Go Γ room_1 (bf_mL nm) E Z (173, 9215) (pc + 3) lv (.int x :: st) (bf_S ad σ2.1 σ2.2)) : bf_Go Γ room_1 (bf_mL nm) E Z (173, 9215) pc lv (.int a4 :: .int a3 :: .int a2 :: .int a1 :: .int a0 :: .ref (ad o) :: st) (bf_S ad I L) := bf_callV (μ := bf_mL nm) (k := (173, 9215)) (As := [.int a0, .int a1, .int a2, .int a3, .int a4]) (rest := st) (mc := 0) (ms := 0) hd rfl wl_L_144 wm_X11_shift wv_X11_shift wi_X11 wc_X11_shift ⟨rfl, wdL_X11_shift⟩ hR ⟨Nat.le_of_ble_eq_true rfl, Nat.le_of_ble_eq_true rfl⟩ hw (bf_kd_lt hk (by decide)) hk (by decide) rfl hC (fun r h2 q => by obtain ⟨rfl, rfl⟩ := q; exact kk)
theorem wdL_X12_shift : yX12_shift.cls ≠ "java/lang/invoke/MethodHandle" ∧ yX12_shift.cls ≠ "java/lang/invoke/VarHandle" ∧ (parseMethodDescriptor yX12_shift.desc).map (fun d => d.parameters.length) = some 5 := by decide +kernel
theorem cv_L_148 {σ2 : bf_St} {o : Nat} {a0 : Int32} {a1 : Int32} {a2 : Int32} {a3 : Int32} {a4 : Int32} {x : Int32} (d : Nat) (hd : decode cL_law pc = .ok (.invokevirtual 148, 3)) (hm : RL = RL) (hR : d + 1 ≤ room_1.frames ∧ 8 + (8 + 11) + 64 * d ≤ room_1.locals) (hw : (st.map fun v => v.category).sum ≤ 8) (hk : bf_kd o = 12) (hC : bf_Cn Γ d mu_X12_shift 0 0 [.ref (ad o), .int a0, .int a1, .int a2, .int a3, .int a4] (bf_S ad I L) (fun q h => q = some (.int x) ∧ h = bf_S ad σ2.1 σ2.2)) (kk : bf_Go Γ room_1 (bf_mL nm) E Z (173, 9215) (pc + 3) lv (.int x :: st) (bf_S ad σ2.1 σ2.2)) : bf_Go Γ room_1 (bf_mL nm) E Z (173, 9215) pc lv (.int a4 :: .int a3 :: .int a2 :: .int a1 :: .int a0 :: .ref (ad o) :: st) (bf_S ad I L) := bf_callV (μ := bf_mL nm) (k := (173, 9215)) (As := [.int a0, .int a1, .int a2, .int a3, .int a4]) (rest := st) (mc := 0) (ms := 0) hd rfl wl_L_148 wm_X12_shift wv_X12_shift wi_X12 wc_X12_shift ⟨rfl, wdL_X12_shift⟩ hR ⟨Nat.le_of_ble_eq_true rfl, Nat.le_of_ble_eq_true rfl⟩ hw (bf_kd_lt hk (by decide)) hk (by decide) rfl hC (fun r h2 q => by obtain ⟨rfl, rfl⟩ := q; exact kk)
end BFL
def f_law (xs : Nat → Int32) (N : Nat) : Nat → Int32 → (Nat → Nat → Int32) → (Nat → Nat → Int64) → Option bf_St
  | 0, _, _, _ => none
  | n + 1, v3, I, L =>
    (if ((Int32.ofNat N) - (6 : Int32)) < v3 then (some (I, L)) else (if bf_ok v3 N then (if ((xs v3.toNatClampNeg) &&& (31 : Int32)) = 0 then (if bf_ok (v3 + (1 : Int32)) N then (if bf_ok (v3 + (2 : Int32)) N then ((f_X11_box 0 (xs (v3 + (1 : Int32)).toNatClampNeg) (xs (v3 + (2 : Int32)).toNatClampNeg) I L).bind (fun r7 => (if bf_ok (v3 + (1 : Int32)) N then (if bf_ok (v3 + (2 : Int32)) N then ((f_X12_box 156 (xs (v3 + (1 : Int32)).toNatClampNeg) (xs (v3 + (2 : Int32)).toNatClampNeg) r7.2.1 r7.2.2).bind (fun r11 => (if r7.1 = r11.1 then (f_law xs N n (v3 + (6 : Int32)) r11.2.1 r11.2.2) else none))) else none) else none))) else none) else none) else (if ((xs v3.toNatClampNeg) &&& (31 : Int32)) = 1 then (if bf_ok (v3 + (1 : Int32)) N then (if bf_ok (v3 + (2 : Int32)) N then (if bf_ok (v3 + (3 : Int32)) N then (if bf_ok (v3 + (4 : Int32)) N then ((f_X11_wire 0 (xs (v3 + (1 : Int32)).toNatClampNeg) (xs (v3 + (2 : Int32)).toNatClampNeg) (xs (v3 + (3 : Int32)).toNatClampNeg) (xs (v3 + (4 : Int32)).toNatClampNeg) I L).bind (fun r19 => (if bf_ok (v3 + (1 : Int32)) N then (if bf_ok (v3 + (2 : Int32)) N then (if bf_ok (v3 + (3 : Int32)) N then (if bf_ok (v3 + (4 : Int32)) N then ((f_X12_wire 156 (xs (v3 + (1 : Int32)).toNatClampNeg) (xs (v3 + (2 : Int32)).toNatClampNeg) (xs (v3 + (3 : Int32)).toNatClampNeg) (xs (v3 + (4 : Int32)).toNatClampNeg) r19.2.1 r19.2.2).bind (fun r25 => (if r19.1 = r25.1 then (f_law xs N n (v3 + (6 : Int32)) r25.2.1 r25.2.2) else none))) else none) else none) else none) else none))) else none) else none) else none) else none) else (if ((xs v3.toNatClampNeg) &&& (31 : Int32)) = 2 then (if bf_ok (v3 + (1 : Int32)) N then (if bf_ok (v3 + (2 : Int32)) N then ((f_X11_token 0 (xs (v3 + (1 : Int32)).toNatClampNeg) (xs (v3 + (2 : Int32)).toNatClampNeg) I L).bind (fun r31 => (if bf_ok (v3 + (1 : Int32)) N then (if bf_ok (v3 + (2 : Int32)) N then ((f_X12_token 156 (xs (v3 + (1 : Int32)).toNatClampNeg) (xs (v3 + (2 : Int32)).toNatClampNeg) r31.2.1 r31.2.2).bind (fun r35 => (if r31.1 = r35.1 then (f_law xs N n (v3 + (6 : Int32)) r35.2.1 r35.2.2) else none))) else none) else none))) else none) else none) else (if ((xs v3.toNatClampNeg) &&& (31 : Int32)) = 3 then (if bf_ok (v3 + (1 : Int32)) N then ((f_X11_cut 0 (xs (v3 + (1 : Int32)).toNatClampNeg) I L).bind (fun r40 => (if bf_ok (v3 + (1 : Int32)) N then ((f_X12_cut 156 (xs (v3 + (1 : Int32)).toNatClampNeg) r40.2.1 r40.2.2).bind (fun r43 => (if r40.1 = r43.1 then (f_law xs N n (v3 + (6 : Int32)) r43.2.1 r43.2.2) else none))) else none))) else none) else (if ((xs v3.toNatClampNeg) &&& (31 : Int32)) = 4 then (if bf_ok (v3 + (1 : Int32)) N then ((f_X11_feed 0 (xs (v3 + (1 : Int32)).toNatClampNeg) I L).bind (fun r48 => (if bf_ok (v3 + (1 : Int32)) N then ((f_X12_feed 156 (xs (v3 + (1 : Int32)).toNatClampNeg) r48.2.1 r48.2.2).bind (fun r51 => (if r48.1 = r51.1 then (f_law xs N n (v3 + (6 : Int32)) r51.2.1 r51.2.2) else none))) else none))) else none) else (if ((xs v3.toNatClampNeg) &&& (31 : Int32)) = 5 then ((f_X11_graph 0 I L).bind (fun r55 => ((f_X12_graph 156 r55.2.1 r55.2.2).bind (fun r57 => (if r55.1 = r57.1 then (f_law xs N n (v3 + (6 : Int32)) r57.2.1 r57.2.2) else none))))) else (if ((xs v3.toNatClampNeg) &&& (31 : Int32)) = 6 then (if bf_ok (v3 + (1 : Int32)) N then (if bf_ok (v3 + (2 : Int32)) N then ((f_X11_of 0 (xs (v3 + (1 : Int32)).toNatClampNeg) (xs (v3 + (2 : Int32)).toNatClampNeg) I L).bind (fun r63 => (if bf_ok (v3 + (1 : Int32)) N then (if bf_ok (v3 + (2 : Int32)) N then ((f_X12_of 156 (xs (v3 + (1 : Int32)).toNatClampNeg) (xs (v3 + (2 : Int32)).toNatClampNeg) r63.2.1 r63.2.2).bind (fun r67 => (if r63.1 = r67.1 then (f_law xs N n (v3 + (6 : Int32)) r67.2.1 r67.2.2) else none))) else none) else none))) else none) else none) else (if ((xs v3.toNatClampNeg) &&& (31 : Int32)) = 7 then (if bf_ok (v3 + (1 : Int32)) N then (if bf_ok (v3 + (2 : Int32)) N then ((f_X11_about 0 (xs (v3 + (1 : Int32)).toNatClampNeg) (xs (v3 + (2 : Int32)).toNatClampNeg) I L).bind (fun r73 => (if bf_ok (v3 + (1 : Int32)) N then (if bf_ok (v3 + (2 : Int32)) N then ((f_X12_about 156 (xs (v3 + (1 : Int32)).toNatClampNeg) (xs (v3 + (2 : Int32)).toNatClampNeg) r73.2.1 r73.2.2).bind (fun r77 => (if r73.1 = r77.1 then (f_law xs N n (v3 + (6 : Int32)) r77.2.1 r77.2.2) else none))) else none) else none))) else none) else none) else (if ((xs v3.toNatClampNeg) &&& (31 : Int32)) = 8 then (if bf_ok (v3 + (1 : Int32)) N then (if bf_ok (v3 + (2 : Int32)) N then ((f_X11_read 0 (xs (v3 + (1 : Int32)).toNatClampNeg) (xs (v3 + (2 : Int32)).toNatClampNeg) I L).bind (fun r83 => (if bf_ok (v3 + (1 : Int32)) N then (if bf_ok (v3 + (2 : Int32)) N then ((f_X12_read 156 (xs (v3 + (1 : Int32)).toNatClampNeg) (xs (v3 + (2 : Int32)).toNatClampNeg) r83.2.1 r83.2.2).bind (fun r87 => (if (lg_cmp r83.1 r87.1) = 0 then (f_law xs N n (v3 + (6 : Int32)) r87.2.1 r87.2.2) else none))) else none) else none))) else none) else none) else (if ((xs v3.toNatClampNeg) &&& (31 : Int32)) = 9 then (if bf_ok (v3 + (1 : Int32)) N then ((f_X11_fire 0 (xs (v3 + (1 : Int32)).toNatClampNeg) I L).bind (fun r92 => (if bf_ok (v3 + (1 : Int32)) N then ((f_X12_fire 156 (xs (v3 + (1 : Int32)).toNatClampNeg) r92.2.1 r92.2.2).bind (fun r95 => (if (lg_cmp r92.1 r95.1) = 0 then (f_law xs N n (v3 + (6 : Int32)) r95.2.1 r95.2.2) else none))) else none))) else none) else (if ((xs v3.toNatClampNeg) &&& (31 : Int32)) = 10 then (if bf_ok (v3 + (1 : Int32)) N then ((f_X11_period 0 (xs (v3 + (1 : Int32)).toNatClampNeg) I L).bind (fun r100 => (if bf_ok (v3 + (1 : Int32)) N then ((f_X12_period 156 (xs (v3 + (1 : Int32)).toNatClampNeg) r100.2.1 r100.2.2).bind (fun r103 => (if r100.1 = r103.1 then (f_law xs N n (v3 + (6 : Int32)) r103.2.1 r103.2.2) else none))) else none))) else none) else (if ((xs v3.toNatClampNeg) &&& (31 : Int32)) = 11 then (if bf_ok (v3 + (1 : Int32)) N then ((f_X11_told 0 (xs (v3 + (1 : Int32)).toNatClampNeg) I L).bind (fun r108 => (if bf_ok (v3 + (1 : Int32)) N then ((f_X12_told 156 (xs (v3 + (1 : Int32)).toNatClampNeg) r108.2.1 r108.2.2).bind (fun r111 => (if r108.1 = r111.1 then (f_law xs N n (v3 + (6 : Int32)) r111.2.1 r111.2.2) else none))) else none))) else none) else (if ((xs v3.toNatClampNeg) &&& (31 : Int32)) = 12 then (if bf_ok (v3 + (1 : Int32)) N then ((f_X11_when 0 (xs (v3 + (1 : Int32)).toNatClampNeg) I L).bind (fun r116 => (if bf_ok (v3 + (1 : Int32)) N then ((f_X12_when 156 (xs (v3 + (1 : Int32)).toNatClampNeg) r116.2.1 r116.2.2).bind (fun r119 => (if r116.1 = r119.1 then (f_law xs N n (v3 + (6 : Int32)) r119.2.1 r119.2.2) else none))) else none))) else none) else (if ((xs v3.toNatClampNeg) &&& (31 : Int32)) = 13 then (if bf_ok (v3 + (1 : Int32)) N then (if bf_ok (v3 + (2 : Int32)) N then ((f_X11_on 0 (xs (v3 + (1 : Int32)).toNatClampNeg) (xs (v3 + (2 : Int32)).toNatClampNeg) I L).bind (fun r125 => (if bf_ok (v3 + (1 : Int32)) N then (if bf_ok (v3 + (2 : Int32)) N then ((f_X12_on 156 (xs (v3 + (1 : Int32)).toNatClampNeg) (xs (v3 + (2 : Int32)).toNatClampNeg) r125.2.1 r125.2.2).bind (fun r129 => (if r125.1 = r129.1 then (f_law xs N n (v3 + (6 : Int32)) r129.2.1 r129.2.2) else none))) else none) else none))) else none) else none) else (if ((xs v3.toNatClampNeg) &&& (31 : Int32)) = 14 then (if bf_ok (v3 + (1 : Int32)) N then (if bf_ok (v3 + (2 : Int32)) N then (if bf_ok (v3 + (3 : Int32)) N then ((f_X11_then 0 (xs (v3 + (1 : Int32)).toNatClampNeg) (xs (v3 + (2 : Int32)).toNatClampNeg) (xs (v3 + (3 : Int32)).toNatClampNeg) I L).bind (fun r136 => (if bf_ok (v3 + (1 : Int32)) N then (if bf_ok (v3 + (2 : Int32)) N then (if bf_ok (v3 + (3 : Int32)) N then ((f_X12_then 156 (xs (v3 + (1 : Int32)).toNatClampNeg) (xs (v3 + (2 : Int32)).toNatClampNeg) (xs (v3 + (3 : Int32)).toNatClampNeg) r136.2.1 r136.2.2).bind (fun r141 => (if (lg_cmp r136.1 r141.1) = 0 then (f_law xs N n (v3 + (6 : Int32)) r141.2.1 r141.2.2) else none))) else none) else none) else none))) else none) else none) else none) else (if ((xs v3.toNatClampNeg) &&& (31 : Int32)) = 15 then (if bf_ok (v3 + (1 : Int32)) N then (if bf_ok (v3 + (2 : Int32)) N then (if bf_ok (v3 + (3 : Int32)) N then ((f_X11_see 0 (xs (v3 + (1 : Int32)).toNatClampNeg) (xs (v3 + (2 : Int32)).toNatClampNeg) (xs (v3 + (3 : Int32)).toNatClampNeg) I L).bind (fun r148 => (if bf_ok (v3 + (1 : Int32)) N then (if bf_ok (v3 + (2 : Int32)) N then (if bf_ok (v3 + (3 : Int32)) N then ((f_X12_see 156 (xs (v3 + (1 : Int32)).toNatClampNeg) (xs (v3 + (2 : Int32)).toNatClampNeg) (xs (v3 + (3 : Int32)).toNatClampNeg) r148.2.1 r148.2.2).bind (fun r153 => (if r148.1 = r153.1 then (f_law xs N n (v3 + (6 : Int32)) r153.2.1 r153.2.2) else none))) else none) else none) else none))) else none) else none) else none) else (if ((xs v3.toNatClampNeg) &&& (31 : Int32)) = 16 then (if bf_ok (v3 + (1 : Int32)) N then (if bf_ok (v3 + (2 : Int32)) N then ((f_X11_fits 0 (xs (v3 + (1 : Int32)).toNatClampNeg) (xs (v3 + (2 : Int32)).toNatClampNeg) I L).bind (fun r159 => (if bf_ok (v3 + (1 : Int32)) N then (if bf_ok (v3 + (2 : Int32)) N then ((f_X12_fits 156 (xs (v3 + (1 : Int32)).toNatClampNeg) (xs (v3 + (2 : Int32)).toNatClampNeg) r159.2.1 r159.2.2).bind (fun r163 => (if r159.1 = r163.1 then (f_law xs N n (v3 + (6 : Int32)) r163.2.1 r163.2.2) else none))) else none) else none))) else none) else none) else (if ((xs v3.toNatClampNeg) &&& (31 : Int32)) = 17 then (if bf_ok (v3 + (1 : Int32)) N then (if bf_ok (v3 + (2 : Int32)) N then ((f_X11_odds 0 (xs (v3 + (1 : Int32)).toNatClampNeg) (xs (v3 + (2 : Int32)).toNatClampNeg) I L).bind (fun r169 => (if bf_ok (v3 + (1 : Int32)) N then (if bf_ok (v3 + (2 : Int32)) N then ((f_X12_odds 156 (xs (v3 + (1 : Int32)).toNatClampNeg) (xs (v3 + (2 : Int32)).toNatClampNeg) r169.2.1 r169.2.2).bind (fun r173 => (if (lg_cmp r169.1 r173.1) = 0 then (f_law xs N n (v3 + (6 : Int32)) r173.2.1 r173.2.2) else none))) else none) else none))) else none) else none) else (if ((xs v3.toNatClampNeg) &&& (31 : Int32)) = 18 then (if bf_ok (v3 + (1 : Int32)) N then ((f_X11_mean 0 (xs (v3 + (1 : Int32)).toNatClampNeg) I L).bind (fun r178 => (if bf_ok (v3 + (1 : Int32)) N then ((f_X12_mean 156 (xs (v3 + (1 : Int32)).toNatClampNeg) r178.2.1 r178.2.2).bind (fun r181 => (if (lg_cmp r178.1 r181.1) = 0 then (f_law xs N n (v3 + (6 : Int32)) r181.2.1 r181.2.2) else none))) else none))) else none) else (if ((xs v3.toNatClampNeg) &&& (31 : Int32)) = 19 then (if bf_ok (v3 + (1 : Int32)) N then (if bf_ok (v3 + (2 : Int32)) N then ((f_X11_plan 0 (xs (v3 + (1 : Int32)).toNatClampNeg) (xs (v3 + (2 : Int32)).toNatClampNeg) I L).bind (fun r187 => (if bf_ok (v3 + (1 : Int32)) N then (if bf_ok (v3 + (2 : Int32)) N then ((f_X12_plan 156 (xs (v3 + (1 : Int32)).toNatClampNeg) (xs (v3 + (2 : Int32)).toNatClampNeg) r187.2.1 r187.2.2).bind (fun r191 => (if r187.1 = r191.1 then (f_law xs N n (v3 + (6 : Int32)) r191.2.1 r191.2.2) else none))) else none) else none))) else none) else none) else (if ((xs v3.toNatClampNeg) &&& (31 : Int32)) = 20 then (if bf_ok (v3 + (1 : Int32)) N then ((f_X11_ends 0 (xs (v3 + (1 : Int32)).toNatClampNeg) I L).bind (fun r196 => (if bf_ok (v3 + (1 : Int32)) N then ((f_X12_ends 156 (xs (v3 + (1 : Int32)).toNatClampNeg) r196.2.1 r196.2.2).bind (fun r199 => (if r196.1 = r199.1 then (f_law xs N n (v3 + (6 : Int32)) r199.2.1 r199.2.2) else none))) else none))) else none) else (if ((xs v3.toNatClampNeg) &&& (31 : Int32)) = 21 then (if bf_ok (v3 + (1 : Int32)) N then (if bf_ok (v3 + (2 : Int32)) N then ((f_X11_book 0 (xs (v3 + (1 : Int32)).toNatClampNeg) (xs (v3 + (2 : Int32)).toNatClampNeg) I L).bind (fun r205 => (if bf_ok (v3 + (1 : Int32)) N then (if bf_ok (v3 + (2 : Int32)) N then ((f_X12_book 156 (xs (v3 + (1 : Int32)).toNatClampNeg) (xs (v3 + (2 : Int32)).toNatClampNeg) r205.2.1 r205.2.2).bind (fun r209 => (if r205.1 = r209.1 then (f_law xs N n (v3 + (6 : Int32)) r209.2.1 r209.2.2) else none))) else none) else none))) else none) else none) else (if ((xs v3.toNatClampNeg) &&& (31 : Int32)) = 22 then ((f_X11_looked 0 I L).bind (fun r213 => ((f_X12_looked 156 r213.2.1 r213.2.2).bind (fun r215 => (if r213.1 = r215.1 then (f_law xs N n (v3 + (6 : Int32)) r215.2.1 r215.2.2) else none))))) else (if ((xs v3.toNatClampNeg) &&& (31 : Int32)) = 23 then (if bf_ok (v3 + (1 : Int32)) N then (if bf_ok (v3 + (2 : Int32)) N then (if bf_ok (v3 + (3 : Int32)) N then ((f_X11_judge 0 (xs (v3 + (1 : Int32)).toNatClampNeg) (xs (v3 + (2 : Int32)).toNatClampNeg) (xs (v3 + (3 : Int32)).toNatClampNeg) I L).bind (fun r222 => (if bf_ok (v3 + (1 : Int32)) N then (if bf_ok (v3 + (2 : Int32)) N then (if bf_ok (v3 + (3 : Int32)) N then ((f_X12_judge 156 (xs (v3 + (1 : Int32)).toNatClampNeg) (xs (v3 + (2 : Int32)).toNatClampNeg) (xs (v3 + (3 : Int32)).toNatClampNeg) r222.2.1 r222.2.2).bind (fun r227 => (if r222.1 = r227.1 then (f_law xs N n (v3 + (6 : Int32)) r227.2.1 r227.2.2) else none))) else none) else none) else none))) else none) else none) else none) else (if ((xs v3.toNatClampNeg) &&& (31 : Int32)) = 24 then ((f_X11_image 0 I L).bind (fun r231 => ((f_X12_image 156 r231.2.1 r231.2.2).bind (fun r233 => (if r231.1 = r233.1 then (f_law xs N n (v3 + (6 : Int32)) r233.2.1 r233.2.2) else none))))) else (if ((xs v3.toNatClampNeg) &&& (31 : Int32)) = 25 then ((f_X11_undo 0 I L).bind (fun r237 => ((f_X12_undo 156 r237.2.1 r237.2.2).bind (fun r239 => (if r237.1 = r239.1 then (f_law xs N n (v3 + (6 : Int32)) r239.2.1 r239.2.2) else none))))) else (if ((xs v3.toNatClampNeg) &&& (31 : Int32)) = 26 then (if bf_ok (v3 + (1 : Int32)) N then ((f_X11_count 0 (xs (v3 + (1 : Int32)).toNatClampNeg) I L).bind (fun r244 => (if bf_ok (v3 + (1 : Int32)) N then ((f_X12_count 156 (xs (v3 + (1 : Int32)).toNatClampNeg) r244.2.1 r244.2.2).bind (fun r247 => (if r244.1 = r247.1 then (f_law xs N n (v3 + (6 : Int32)) r247.2.1 r247.2.2) else none))) else none))) else none) else (if ((xs v3.toNatClampNeg) &&& (31 : Int32)) = 27 then (if bf_ok (v3 + (1 : Int32)) N then (if bf_ok (v3 + (2 : Int32)) N then (if bf_ok (v3 + (3 : Int32)) N then ((f_X11_tape 0 (xs (v3 + (1 : Int32)).toNatClampNeg) (xs (v3 + (2 : Int32)).toNatClampNeg) (xs (v3 + (3 : Int32)).toNatClampNeg) I L).bind (fun r254 => (if bf_ok (v3 + (1 : Int32)) N then (if bf_ok (v3 + (2 : Int32)) N then (if bf_ok (v3 + (3 : Int32)) N then ((f_X12_tape 156 (xs (v3 + (1 : Int32)).toNatClampNeg) (xs (v3 + (2 : Int32)).toNatClampNeg) (xs (v3 + (3 : Int32)).toNatClampNeg) r254.2.1 r254.2.2).bind (fun r259 => (if r254.1 = r259.1 then (f_law xs N n (v3 + (6 : Int32)) r259.2.1 r259.2.2) else none))) else none) else none) else none))) else none) else none) else none) else (if ((xs v3.toNatClampNeg) &&& (31 : Int32)) = 28 then (if bf_ok (v3 + (1 : Int32)) N then (if bf_ok (v3 + (2 : Int32)) N then (if bf_ok (v3 + (3 : Int32)) N then (if bf_ok (v3 + (4 : Int32)) N then ((f_X11_item 0 (xs (v3 + (1 : Int32)).toNatClampNeg) (xs (v3 + (2 : Int32)).toNatClampNeg) ((((xs (v3 + (3 : Int32)).toNatClampNeg)).toInt64 <<< (((32 : Int32)).toInt64 &&& 63)) ||| (((xs (v3 + (4 : Int32)).toNatClampNeg)).toInt64 &&& (4294967295 : Int64))) I L).bind (fun r267 => (if bf_ok (v3 + (1 : Int32)) N then (if bf_ok (v3 + (2 : Int32)) N then (if bf_ok (v3 + (3 : Int32)) N then (if bf_ok (v3 + (4 : Int32)) N then ((f_X12_item 156 (xs (v3 + (1 : Int32)).toNatClampNeg) (xs (v3 + (2 : Int32)).toNatClampNeg) ((((xs (v3 + (3 : Int32)).toNatClampNeg)).toInt64 <<< (((32 : Int32)).toInt64 &&& 63)) ||| (((xs (v3 + (4 : Int32)).toNatClampNeg)).toInt64 &&& (4294967295 : Int64))) r267.2.1 r267.2.2).bind (fun r273 => (if r267.1 = r273.1 then (f_law xs N n (v3 + (6 : Int32)) r273.2.1 r273.2.2) else none))) else none) else none) else none) else none))) else none) else none) else none) else none) else (if ((xs v3.toNatClampNeg) &&& (31 : Int32)) = 29 then (if bf_ok (v3 + (1 : Int32)) N then (if bf_ok (v3 + (2 : Int32)) N then ((f_X11_peek 0 (xs (v3 + (1 : Int32)).toNatClampNeg) (xs (v3 + (2 : Int32)).toNatClampNeg) I L).bind (fun r279 => (if bf_ok (v3 + (1 : Int32)) N then (if bf_ok (v3 + (2 : Int32)) N then ((f_X12_peek 156 (xs (v3 + (1 : Int32)).toNatClampNeg) (xs (v3 + (2 : Int32)).toNatClampNeg) r279.2.1 r279.2.2).bind (fun r283 => (if (lg_cmp r279.1 r283.1) = 0 then (f_law xs N n (v3 + (6 : Int32)) r283.2.1 r283.2.2) else none))) else none) else none))) else none) else none) else (if ((xs v3.toNatClampNeg) &&& (31 : Int32)) = 30 then (if bf_ok (v3 + (1 : Int32)) N then (if bf_ok (v3 + (2 : Int32)) N then (if bf_ok (v3 + (3 : Int32)) N then (if bf_ok (v3 + (4 : Int32)) N then (if bf_ok (v3 + (5 : Int32)) N then ((f_X11_shift 0 (xs (v3 + (1 : Int32)).toNatClampNeg) (xs (v3 + (2 : Int32)).toNatClampNeg) (xs (v3 + (3 : Int32)).toNatClampNeg) (xs (v3 + (4 : Int32)).toNatClampNeg) (xs (v3 + (5 : Int32)).toNatClampNeg) I L).bind (fun r292 => (if bf_ok (v3 + (1 : Int32)) N then (if bf_ok (v3 + (2 : Int32)) N then (if bf_ok (v3 + (3 : Int32)) N then (if bf_ok (v3 + (4 : Int32)) N then (if bf_ok (v3 + (5 : Int32)) N then ((f_X12_shift 156 (xs (v3 + (1 : Int32)).toNatClampNeg) (xs (v3 + (2 : Int32)).toNatClampNeg) (xs (v3 + (3 : Int32)).toNatClampNeg) (xs (v3 + (4 : Int32)).toNatClampNeg) (xs (v3 + (5 : Int32)).toNatClampNeg) r292.2.1 r292.2.2).bind (fun r299 => (if r292.1 = r299.1 then (f_law xs N n (v3 + (6 : Int32)) r299.2.1 r299.2.2) else none))) else none) else none) else none) else none) else none))) else none) else none) else none) else none) else none) else (f_law xs N n (v3 + (6 : Int32)) I L)))))))))))))))))))))))))))))))) else none))
set_option maxRecDepth 100000 in
set_option maxHeartbeats 40000000 in
theorem ok_law {Γ : bf_Gm} {ad : Nat → Nat} {b N : Nat} {xs : Nat → Int32} {nm : String} {r : bf_St} : ∀ (n : Nat) (v3 : Int32) (I : Nat → Nat → Int32) (L : Nat → Nat → Int64), f_law xs N n v3 I L = some r → bf_Go Γ room_1 (bf_mL nm) (bf_E1 Γ b N xs) (bf_ZL b) (173, 9215) 18 [(0, .ref b), (1, .ref (ad 0)), (2, .ref (ad 156)), (3, .int v3)] [] (bf_S ad I L) := by
  intro n
  induction n with
  | zero => intro v3 I L hf; exact absurd (show none = some r from hf) (by simp)
  | succ n ih =>
    intro v3 I L hf
    rw [f_law] at hf
    refine bf_iload_n 3 dL_law_18 rfl rfl ?_
    refine bf_aload_n 0 dL_law_19 rfl rfl ?_
    refine bf_slen dL_law_20 ?_
    refine bf_bipush (v := 6) dL_law_21 (by decide) ?_
    refine bf_isub dL_law_23 ?_
    refine bf_icmp_gt 1167 dL_law_24 (by decide) (fun c1 => ?_) (fun c1 => ?_)
    · have hf := (if_pos c1).symm.trans hf
      refine bf_iconst (v := 1) dL_law_1167 (by decide) ?_
      exact bf_lend dL_law_1168
    · have hf := (if_neg c1).symm.trans hf
      refine bf_aload_n 0 dL_law_27 rfl rfl ?_
      refine bf_iload_n 3 dL_law_28 rfl rfl ?_
      rcases Decidable.em (bf_ok v3 N) with c2 | c2
      · have hf := (if_pos c2).symm.trans hf
        refine bf_sld dL_law_29 c2 ?_
        refine bf_bipush (v := 31) dL_law_30 (by decide) ?_
        refine bf_iand dL_law_32 ?_
        rcases Decidable.em (((xs v3.toNatClampNeg) &&& (31 : Int32)) = 0) with c3 | c3
        · have hf := (if_pos c3).symm.trans hf
          refine bf_swIn 172 dL_law_33 (by rw [c3]; decide) (by rw [c3]; decide) (by rw [c3]; rfl) (by decide) ?_
          refine bf_aload_n 1 dL_law_172 rfl rfl ?_
          refine bf_aload_n 0 dL_law_173 rfl rfl ?_
          refine bf_iload_n 3 dL_law_174 rfl rfl ?_
          refine bf_iconst (v := 1) dL_law_175 (by decide) ?_
          refine bf_iadd dL_law_176 ?_
          rcases Decidable.em (bf_ok (v3 + (1 : Int32)) N) with c4 | c4
          · have hf := (if_pos c4).symm.trans hf
            refine bf_sld dL_law_177 c4 ?_
            refine bf_aload_n 0 dL_law_178 rfl rfl ?_
            refine bf_iload_n 3 dL_law_179 rfl rfl ?_
            refine bf_iconst (v := 2) dL_law_180 (by decide) ?_
            refine bf_iadd dL_law_181 ?_
            rcases Decidable.em (bf_ok (v3 + (2 : Int32)) N) with c5 | c5
            · have hf := (if_pos c5).symm.trans hf
              refine bf_sld dL_law_182 c5 ?_
              obtain ⟨r7, e6, hf⟩ := bf_bind hf
              have hCe6 := ok_X11_box (Γ := Γ) (ad := ad) hk_flow e6
              refine cv_L_13 2 dL_law_183 rfl ⟨Nat.le_of_ble_eq_true rfl, Nat.le_of_ble_eq_true rfl⟩ (Nat.le_of_ble_eq_true rfl) hk_flow hCe6 ?_
              refine bf_aload_n 2 dL_law_186 rfl rfl ?_
              refine bf_aload_n 0 dL_law_187 rfl rfl ?_
              refine bf_iload_n 3 dL_law_188 rfl rfl ?_
              refine bf_iconst (v := 1) dL_law_189 (by decide) ?_
              refine bf_iadd dL_law_190 ?_
              rcases Decidable.em (bf_ok (v3 + (1 : Int32)) N) with c8 | c8
              · have hf := (if_pos c8).symm.trans hf
                refine bf_sld dL_law_191 c8 ?_
                refine bf_aload_n 0 dL_law_192 rfl rfl ?_
                refine bf_iload_n 3 dL_law_193 rfl rfl ?_
                refine bf_iconst (v := 2) dL_law_194 (by decide) ?_
                refine bf_iadd dL_law_195 ?_
                rcases Decidable.em (bf_ok (v3 + (2 : Int32)) N) with c9 | c9
                · have hf := (if_pos c9).symm.trans hf
                  refine bf_sld dL_law_196 c9 ?_
                  obtain ⟨r11, e10, hf⟩ := bf_bind hf
                  have hCe10 := ok_X12_box (Γ := Γ) (ad := ad) hk_model e10
                  refine cv_L_17 1 dL_law_197 rfl ⟨Nat.le_of_ble_eq_true rfl, Nat.le_of_ble_eq_true rfl⟩ (Nat.le_of_ble_eq_true rfl) hk_model hCe10 ?_
                  refine bf_icmp_eq 1161 dL_law_200 (by decide) (fun c12 => ?_) (fun c12 => ?_)
                  · have hf := (if_pos c12).symm.trans hf
                    refine bf_iinc 3 (v := _ + (6 : Int32)) (lv2 := [(3, .int _), (0, .ref _), (1, .ref _), (2, .ref _)]) dL_law_1161 rfl (by rfl) (Nat.le_of_ble_eq_true rfl) rfl ?_
                    refine bf_goto 18 dL_law_1164 (by decide) ?_
                    refine bf_perm [1, 2, 3, 0] rfl ?_
                    exact ih _ _ _ hf
                  · have hf := (if_neg c12).symm.trans hf
                    refine bf_iconst (v := 0) dL_law_203 (by decide) ?_
                    exact absurd hf (by simp)
                · exact absurd ((if_neg c9).symm.trans hf) (by simp)
              · exact absurd ((if_neg c8).symm.trans hf) (by simp)
            · exact absurd ((if_neg c5).symm.trans hf) (by simp)
          · exact absurd ((if_neg c4).symm.trans hf) (by simp)
        · have hf := (if_neg c3).symm.trans hf
          rcases Decidable.em (((xs v3.toNatClampNeg) &&& (31 : Int32)) = 1) with c13 | c13
          · have hf := (if_pos c13).symm.trans hf
            refine bf_swIn 205 dL_law_33 (by rw [c13]; decide) (by rw [c13]; decide) (by rw [c13]; rfl) (by decide) ?_
            refine bf_aload_n 1 dL_law_205 rfl rfl ?_
            refine bf_aload_n 0 dL_law_206 rfl rfl ?_
            refine bf_iload_n 3 dL_law_207 rfl rfl ?_
            refine bf_iconst (v := 1) dL_law_208 (by decide) ?_
            refine bf_iadd dL_law_209 ?_
            rcases Decidable.em (bf_ok (v3 + (1 : Int32)) N) with c14 | c14
            · have hf := (if_pos c14).symm.trans hf
              refine bf_sld dL_law_210 c14 ?_
              refine bf_aload_n 0 dL_law_211 rfl rfl ?_
              refine bf_iload_n 3 dL_law_212 rfl rfl ?_
              refine bf_iconst (v := 2) dL_law_213 (by decide) ?_
              refine bf_iadd dL_law_214 ?_
              rcases Decidable.em (bf_ok (v3 + (2 : Int32)) N) with c15 | c15
              · have hf := (if_pos c15).symm.trans hf
                refine bf_sld dL_law_215 c15 ?_
                refine bf_aload_n 0 dL_law_216 rfl rfl ?_
                refine bf_iload_n 3 dL_law_217 rfl rfl ?_
                refine bf_iconst (v := 3) dL_law_218 (by decide) ?_
                refine bf_iadd dL_law_219 ?_
                rcases Decidable.em (bf_ok (v3 + (3 : Int32)) N) with c16 | c16
                · have hf := (if_pos c16).symm.trans hf
                  refine bf_sld dL_law_220 c16 ?_
                  refine bf_aload_n 0 dL_law_221 rfl rfl ?_
                  refine bf_iload_n 3 dL_law_222 rfl rfl ?_
                  refine bf_iconst (v := 4) dL_law_223 (by decide) ?_
                  refine bf_iadd dL_law_224 ?_
                  rcases Decidable.em (bf_ok (v3 + (4 : Int32)) N) with c17 | c17
                  · have hf := (if_pos c17).symm.trans hf
                    refine bf_sld dL_law_225 c17 ?_
                    obtain ⟨r19, e18, hf⟩ := bf_bind hf
                    have hCe18 := ok_X11_wire (Γ := Γ) (ad := ad) hk_flow e18
                    refine cv_L_18 3 dL_law_226 rfl ⟨Nat.le_of_ble_eq_true rfl, Nat.le_of_ble_eq_true rfl⟩ (Nat.le_of_ble_eq_true rfl) hk_flow hCe18 ?_
                    refine bf_aload_n 2 dL_law_229 rfl rfl ?_
                    refine bf_aload_n 0 dL_law_230 rfl rfl ?_
                    refine bf_iload_n 3 dL_law_231 rfl rfl ?_
                    refine bf_iconst (v := 1) dL_law_232 (by decide) ?_
                    refine bf_iadd dL_law_233 ?_
                    rcases Decidable.em (bf_ok (v3 + (1 : Int32)) N) with c20 | c20
                    · have hf := (if_pos c20).symm.trans hf
                      refine bf_sld dL_law_234 c20 ?_
                      refine bf_aload_n 0 dL_law_235 rfl rfl ?_
                      refine bf_iload_n 3 dL_law_236 rfl rfl ?_
                      refine bf_iconst (v := 2) dL_law_237 (by decide) ?_
                      refine bf_iadd dL_law_238 ?_
                      rcases Decidable.em (bf_ok (v3 + (2 : Int32)) N) with c21 | c21
                      · have hf := (if_pos c21).symm.trans hf
                        refine bf_sld dL_law_239 c21 ?_
                        refine bf_aload_n 0 dL_law_240 rfl rfl ?_
                        refine bf_iload_n 3 dL_law_241 rfl rfl ?_
                        refine bf_iconst (v := 3) dL_law_242 (by decide) ?_
                        refine bf_iadd dL_law_243 ?_
                        rcases Decidable.em (bf_ok (v3 + (3 : Int32)) N) with c22 | c22
                        · have hf := (if_pos c22).symm.trans hf
                          refine bf_sld dL_law_244 c22 ?_
                          refine bf_aload_n 0 dL_law_245 rfl rfl ?_
                          refine bf_iload_n 3 dL_law_246 rfl rfl ?_
                          refine bf_iconst (v := 4) dL_law_247 (by decide) ?_
                          refine bf_iadd dL_law_248 ?_
                          rcases Decidable.em (bf_ok (v3 + (4 : Int32)) N) with c23 | c23
                          · have hf := (if_pos c23).symm.trans hf
                            refine bf_sld dL_law_249 c23 ?_
                            obtain ⟨r25, e24, hf⟩ := bf_bind hf
                            have hCe24 := ok_X12_wire (Γ := Γ) (ad := ad) hk_model e24
                            refine cv_L_22 2 dL_law_250 rfl ⟨Nat.le_of_ble_eq_true rfl, Nat.le_of_ble_eq_true rfl⟩ (Nat.le_of_ble_eq_true rfl) hk_model hCe24 ?_
                            refine bf_icmp_eq 1161 dL_law_253 (by decide) (fun c26 => ?_) (fun c26 => ?_)
                            · have hf := (if_pos c26).symm.trans hf
                              refine bf_iinc 3 (v := _ + (6 : Int32)) (lv2 := [(3, .int _), (0, .ref _), (1, .ref _), (2, .ref _)]) dL_law_1161 rfl (by rfl) (Nat.le_of_ble_eq_true rfl) rfl ?_
                              refine bf_goto 18 dL_law_1164 (by decide) ?_
                              refine bf_perm [1, 2, 3, 0] rfl ?_
                              exact ih _ _ _ hf
                            · have hf := (if_neg c26).symm.trans hf
                              refine bf_iconst (v := 0) dL_law_256 (by decide) ?_
                              exact absurd hf (by simp)
                          · exact absurd ((if_neg c23).symm.trans hf) (by simp)
                        · exact absurd ((if_neg c22).symm.trans hf) (by simp)
                      · exact absurd ((if_neg c21).symm.trans hf) (by simp)
                    · exact absurd ((if_neg c20).symm.trans hf) (by simp)
                  · exact absurd ((if_neg c17).symm.trans hf) (by simp)
                · exact absurd ((if_neg c16).symm.trans hf) (by simp)
              · exact absurd ((if_neg c15).symm.trans hf) (by simp)
            · exact absurd ((if_neg c14).symm.trans hf) (by simp)
          · have hf := (if_neg c13).symm.trans hf
            rcases Decidable.em (((xs v3.toNatClampNeg) &&& (31 : Int32)) = 2) with c27 | c27
            · have hf := (if_pos c27).symm.trans hf
              refine bf_swIn 258 dL_law_33 (by rw [c27]; decide) (by rw [c27]; decide) (by rw [c27]; rfl) (by decide) ?_
              refine bf_aload_n 1 dL_law_258 rfl rfl ?_
              refine bf_aload_n 0 dL_law_259 rfl rfl ?_
              refine bf_iload_n 3 dL_law_260 rfl rfl ?_
              refine bf_iconst (v := 1) dL_law_261 (by decide) ?_
              refine bf_iadd dL_law_262 ?_
              rcases Decidable.em (bf_ok (v3 + (1 : Int32)) N) with c28 | c28
              · have hf := (if_pos c28).symm.trans hf
                refine bf_sld dL_law_263 c28 ?_
                refine bf_aload_n 0 dL_law_264 rfl rfl ?_
                refine bf_iload_n 3 dL_law_265 rfl rfl ?_
                refine bf_iconst (v := 2) dL_law_266 (by decide) ?_
                refine bf_iadd dL_law_267 ?_
                rcases Decidable.em (bf_ok (v3 + (2 : Int32)) N) with c29 | c29
                · have hf := (if_pos c29).symm.trans hf
                  refine bf_sld dL_law_268 c29 ?_
                  obtain ⟨r31, e30, hf⟩ := bf_bind hf
                  have hCe30 := ok_X11_token (Γ := Γ) (ad := ad) hk_flow e30
                  refine cv_L_23 2 dL_law_269 rfl ⟨Nat.le_of_ble_eq_true rfl, Nat.le_of_ble_eq_true rfl⟩ (Nat.le_of_ble_eq_true rfl) hk_flow hCe30 ?_
                  refine bf_aload_n 2 dL_law_272 rfl rfl ?_
                  refine bf_aload_n 0 dL_law_273 rfl rfl ?_
                  refine bf_iload_n 3 dL_law_274 rfl rfl ?_
                  refine bf_iconst (v := 1) dL_law_275 (by decide) ?_
                  refine bf_iadd dL_law_276 ?_
                  rcases Decidable.em (bf_ok (v3 + (1 : Int32)) N) with c32 | c32
                  · have hf := (if_pos c32).symm.trans hf
                    refine bf_sld dL_law_277 c32 ?_
                    refine bf_aload_n 0 dL_law_278 rfl rfl ?_
                    refine bf_iload_n 3 dL_law_279 rfl rfl ?_
                    refine bf_iconst (v := 2) dL_law_280 (by decide) ?_
                    refine bf_iadd dL_law_281 ?_
                    rcases Decidable.em (bf_ok (v3 + (2 : Int32)) N) with c33 | c33
                    · have hf := (if_pos c33).symm.trans hf
                      refine bf_sld dL_law_282 c33 ?_
                      obtain ⟨r35, e34, hf⟩ := bf_bind hf
                      have hCe34 := ok_X12_token (Γ := Γ) (ad := ad) hk_model e34
                      refine cv_L_26 2 dL_law_283 rfl ⟨Nat.le_of_ble_eq_true rfl, Nat.le_of_ble_eq_true rfl⟩ (Nat.le_of_ble_eq_true rfl) hk_model hCe34 ?_
                      refine bf_icmp_eq 1161 dL_law_286 (by decide) (fun c36 => ?_) (fun c36 => ?_)
                      · have hf := (if_pos c36).symm.trans hf
                        refine bf_iinc 3 (v := _ + (6 : Int32)) (lv2 := [(3, .int _), (0, .ref _), (1, .ref _), (2, .ref _)]) dL_law_1161 rfl (by rfl) (Nat.le_of_ble_eq_true rfl) rfl ?_
                        refine bf_goto 18 dL_law_1164 (by decide) ?_
                        refine bf_perm [1, 2, 3, 0] rfl ?_
                        exact ih _ _ _ hf
                      · have hf := (if_neg c36).symm.trans hf
                        refine bf_iconst (v := 0) dL_law_289 (by decide) ?_
                        exact absurd hf (by simp)
                    · exact absurd ((if_neg c33).symm.trans hf) (by simp)
                  · exact absurd ((if_neg c32).symm.trans hf) (by simp)
                · exact absurd ((if_neg c29).symm.trans hf) (by simp)
              · exact absurd ((if_neg c28).symm.trans hf) (by simp)
            · have hf := (if_neg c27).symm.trans hf
              rcases Decidable.em (((xs v3.toNatClampNeg) &&& (31 : Int32)) = 3) with c37 | c37
              · have hf := (if_pos c37).symm.trans hf
                refine bf_swIn 291 dL_law_33 (by rw [c37]; decide) (by rw [c37]; decide) (by rw [c37]; rfl) (by decide) ?_
                refine bf_aload_n 1 dL_law_291 rfl rfl ?_
                refine bf_aload_n 0 dL_law_292 rfl rfl ?_
                refine bf_iload_n 3 dL_law_293 rfl rfl ?_
                refine bf_iconst (v := 1) dL_law_294 (by decide) ?_
                refine bf_iadd dL_law_295 ?_
                rcases Decidable.em (bf_ok (v3 + (1 : Int32)) N) with c38 | c38
                · have hf := (if_pos c38).symm.trans hf
                  refine bf_sld dL_law_296 c38 ?_
                  obtain ⟨r40, e39, hf⟩ := bf_bind hf
                  have hCe39 := ok_X11_cut (Γ := Γ) (ad := ad) hk_flow e39
                  refine cv_L_27 1 dL_law_297 rfl ⟨Nat.le_of_ble_eq_true rfl, Nat.le_of_ble_eq_true rfl⟩ (Nat.le_of_ble_eq_true rfl) hk_flow hCe39 ?_
                  refine bf_aload_n 2 dL_law_300 rfl rfl ?_
                  refine bf_aload_n 0 dL_law_301 rfl rfl ?_
                  refine bf_iload_n 3 dL_law_302 rfl rfl ?_
                  refine bf_iconst (v := 1) dL_law_303 (by decide) ?_
                  refine bf_iadd dL_law_304 ?_
                  rcases Decidable.em (bf_ok (v3 + (1 : Int32)) N) with c41 | c41
                  · have hf := (if_pos c41).symm.trans hf
                    refine bf_sld dL_law_305 c41 ?_
                    obtain ⟨r43, e42, hf⟩ := bf_bind hf
                    have hCe42 := ok_X12_cut (Γ := Γ) (ad := ad) hk_model e42
                    refine cv_L_31 2 dL_law_306 rfl ⟨Nat.le_of_ble_eq_true rfl, Nat.le_of_ble_eq_true rfl⟩ (Nat.le_of_ble_eq_true rfl) hk_model hCe42 ?_
                    refine bf_icmp_eq 1161 dL_law_309 (by decide) (fun c44 => ?_) (fun c44 => ?_)
                    · have hf := (if_pos c44).symm.trans hf
                      refine bf_iinc 3 (v := _ + (6 : Int32)) (lv2 := [(3, .int _), (0, .ref _), (1, .ref _), (2, .ref _)]) dL_law_1161 rfl (by rfl) (Nat.le_of_ble_eq_true rfl) rfl ?_
                      refine bf_goto 18 dL_law_1164 (by decide) ?_
                      refine bf_perm [1, 2, 3, 0] rfl ?_
                      exact ih _ _ _ hf
                    · have hf := (if_neg c44).symm.trans hf
                      refine bf_iconst (v := 0) dL_law_312 (by decide) ?_
                      exact absurd hf (by simp)
                  · exact absurd ((if_neg c41).symm.trans hf) (by simp)
                · exact absurd ((if_neg c38).symm.trans hf) (by simp)
              · have hf := (if_neg c37).symm.trans hf
                rcases Decidable.em (((xs v3.toNatClampNeg) &&& (31 : Int32)) = 4) with c45 | c45
                · have hf := (if_pos c45).symm.trans hf
                  refine bf_swIn 314 dL_law_33 (by rw [c45]; decide) (by rw [c45]; decide) (by rw [c45]; rfl) (by decide) ?_
                  refine bf_aload_n 1 dL_law_314 rfl rfl ?_
                  refine bf_aload_n 0 dL_law_315 rfl rfl ?_
                  refine bf_iload_n 3 dL_law_316 rfl rfl ?_
                  refine bf_iconst (v := 1) dL_law_317 (by decide) ?_
                  refine bf_iadd dL_law_318 ?_
                  rcases Decidable.em (bf_ok (v3 + (1 : Int32)) N) with c46 | c46
                  · have hf := (if_pos c46).symm.trans hf
                    refine bf_sld dL_law_319 c46 ?_
                    obtain ⟨r48, e47, hf⟩ := bf_bind hf
                    have hCe47 := ok_X11_feed (Γ := Γ) (ad := ad) hk_flow e47
                    refine cv_L_32 1 dL_law_320 rfl ⟨Nat.le_of_ble_eq_true rfl, Nat.le_of_ble_eq_true rfl⟩ (Nat.le_of_ble_eq_true rfl) hk_flow hCe47 ?_
                    refine bf_aload_n 2 dL_law_323 rfl rfl ?_
                    refine bf_aload_n 0 dL_law_324 rfl rfl ?_
                    refine bf_iload_n 3 dL_law_325 rfl rfl ?_
                    refine bf_iconst (v := 1) dL_law_326 (by decide) ?_
                    refine bf_iadd dL_law_327 ?_
                    rcases Decidable.em (bf_ok (v3 + (1 : Int32)) N) with c49 | c49
                    · have hf := (if_pos c49).symm.trans hf
                      refine bf_sld dL_law_328 c49 ?_
                      obtain ⟨r51, e50, hf⟩ := bf_bind hf
                      have hCe50 := ok_X12_feed (Γ := Γ) (ad := ad) hk_model e50
                      refine cv_L_35 1 dL_law_329 rfl ⟨Nat.le_of_ble_eq_true rfl, Nat.le_of_ble_eq_true rfl⟩ (Nat.le_of_ble_eq_true rfl) hk_model hCe50 ?_
                      refine bf_icmp_eq 1161 dL_law_332 (by decide) (fun c52 => ?_) (fun c52 => ?_)
                      · have hf := (if_pos c52).symm.trans hf
                        refine bf_iinc 3 (v := _ + (6 : Int32)) (lv2 := [(3, .int _), (0, .ref _), (1, .ref _), (2, .ref _)]) dL_law_1161 rfl (by rfl) (Nat.le_of_ble_eq_true rfl) rfl ?_
                        refine bf_goto 18 dL_law_1164 (by decide) ?_
                        refine bf_perm [1, 2, 3, 0] rfl ?_
                        exact ih _ _ _ hf
                      · have hf := (if_neg c52).symm.trans hf
                        refine bf_iconst (v := 0) dL_law_335 (by decide) ?_
                        exact absurd hf (by simp)
                    · exact absurd ((if_neg c49).symm.trans hf) (by simp)
                  · exact absurd ((if_neg c46).symm.trans hf) (by simp)
                · have hf := (if_neg c45).symm.trans hf
                  rcases Decidable.em (((xs v3.toNatClampNeg) &&& (31 : Int32)) = 5) with c53 | c53
                  · have hf := (if_pos c53).symm.trans hf
                    refine bf_swIn 337 dL_law_33 (by rw [c53]; decide) (by rw [c53]; decide) (by rw [c53]; rfl) (by decide) ?_
                    refine bf_aload_n 1 dL_law_337 rfl rfl ?_
                    obtain ⟨r55, e54, hf⟩ := bf_bind hf
                    have hCe54 := ok_X11_graph (Γ := Γ) (ad := ad) hk_flow e54
                    refine cv_L_36 5 dL_law_338 rfl ⟨Nat.le_of_ble_eq_true rfl, Nat.le_of_ble_eq_true rfl⟩ (Nat.le_of_ble_eq_true rfl) hk_flow hCe54 ?_
                    refine bf_aload_n 2 dL_law_341 rfl rfl ?_
                    obtain ⟨r57, e56, hf⟩ := bf_bind hf
                    have hCe56 := ok_X12_graph (Γ := Γ) (ad := ad) hk_model e56
                    refine cv_L_40 3 dL_law_342 rfl ⟨Nat.le_of_ble_eq_true rfl, Nat.le_of_ble_eq_true rfl⟩ (Nat.le_of_ble_eq_true rfl) hk_model hCe56 ?_
                    refine bf_icmp_eq 1161 dL_law_345 (by decide) (fun c58 => ?_) (fun c58 => ?_)
                    · have hf := (if_pos c58).symm.trans hf
                      refine bf_iinc 3 (v := _ + (6 : Int32)) (lv2 := [(3, .int _), (0, .ref _), (1, .ref _), (2, .ref _)]) dL_law_1161 rfl (by rfl) (Nat.le_of_ble_eq_true rfl) rfl ?_
                      refine bf_goto 18 dL_law_1164 (by decide) ?_
                      refine bf_perm [1, 2, 3, 0] rfl ?_
                      exact ih _ _ _ hf
                    · have hf := (if_neg c58).symm.trans hf
                      refine bf_iconst (v := 0) dL_law_348 (by decide) ?_
                      exact absurd hf (by simp)
                  · have hf := (if_neg c53).symm.trans hf
                    rcases Decidable.em (((xs v3.toNatClampNeg) &&& (31 : Int32)) = 6) with c59 | c59
                    · have hf := (if_pos c59).symm.trans hf
                      refine bf_swIn 350 dL_law_33 (by rw [c59]; decide) (by rw [c59]; decide) (by rw [c59]; rfl) (by decide) ?_
                      refine bf_aload_n 1 dL_law_350 rfl rfl ?_
                      refine bf_aload_n 0 dL_law_351 rfl rfl ?_
                      refine bf_iload_n 3 dL_law_352 rfl rfl ?_
                      refine bf_iconst (v := 1) dL_law_353 (by decide) ?_
                      refine bf_iadd dL_law_354 ?_
                      rcases Decidable.em (bf_ok (v3 + (1 : Int32)) N) with c60 | c60
                      · have hf := (if_pos c60).symm.trans hf
                        refine bf_sld dL_law_355 c60 ?_
                        refine bf_aload_n 0 dL_law_356 rfl rfl ?_
                        refine bf_iload_n 3 dL_law_357 rfl rfl ?_
                        refine bf_iconst (v := 2) dL_law_358 (by decide) ?_
                        refine bf_iadd dL_law_359 ?_
                        rcases Decidable.em (bf_ok (v3 + (2 : Int32)) N) with c61 | c61
                        · have hf := (if_pos c61).symm.trans hf
                          refine bf_sld dL_law_360 c61 ?_
                          obtain ⟨r63, e62, hf⟩ := bf_bind hf
                          have hCe62 := ok_X11_of (Γ := Γ) (ad := ad) hk_flow e62
                          refine cv_L_41 7 dL_law_361 rfl ⟨Nat.le_of_ble_eq_true rfl, Nat.le_of_ble_eq_true rfl⟩ (Nat.le_of_ble_eq_true rfl) hk_flow hCe62 ?_
                          refine bf_aload_n 2 dL_law_364 rfl rfl ?_
                          refine bf_aload_n 0 dL_law_365 rfl rfl ?_
                          refine bf_iload_n 3 dL_law_366 rfl rfl ?_
                          refine bf_iconst (v := 1) dL_law_367 (by decide) ?_
                          refine bf_iadd dL_law_368 ?_
                          rcases Decidable.em (bf_ok (v3 + (1 : Int32)) N) with c64 | c64
                          · have hf := (if_pos c64).symm.trans hf
                            refine bf_sld dL_law_369 c64 ?_
                            refine bf_aload_n 0 dL_law_370 rfl rfl ?_
                            refine bf_iload_n 3 dL_law_371 rfl rfl ?_
                            refine bf_iconst (v := 2) dL_law_372 (by decide) ?_
                            refine bf_iadd dL_law_373 ?_
                            rcases Decidable.em (bf_ok (v3 + (2 : Int32)) N) with c65 | c65
                            · have hf := (if_pos c65).symm.trans hf
                              refine bf_sld dL_law_374 c65 ?_
                              obtain ⟨r67, e66, hf⟩ := bf_bind hf
                              have hCe66 := ok_X12_of (Γ := Γ) (ad := ad) hk_model e66
                              refine cv_L_44 4 dL_law_375 rfl ⟨Nat.le_of_ble_eq_true rfl, Nat.le_of_ble_eq_true rfl⟩ (Nat.le_of_ble_eq_true rfl) hk_model hCe66 ?_
                              refine bf_icmp_eq 1161 dL_law_378 (by decide) (fun c68 => ?_) (fun c68 => ?_)
                              · have hf := (if_pos c68).symm.trans hf
                                refine bf_iinc 3 (v := _ + (6 : Int32)) (lv2 := [(3, .int _), (0, .ref _), (1, .ref _), (2, .ref _)]) dL_law_1161 rfl (by rfl) (Nat.le_of_ble_eq_true rfl) rfl ?_
                                refine bf_goto 18 dL_law_1164 (by decide) ?_
                                refine bf_perm [1, 2, 3, 0] rfl ?_
                                exact ih _ _ _ hf
                              · have hf := (if_neg c68).symm.trans hf
                                refine bf_iconst (v := 0) dL_law_381 (by decide) ?_
                                exact absurd hf (by simp)
                            · exact absurd ((if_neg c65).symm.trans hf) (by simp)
                          · exact absurd ((if_neg c64).symm.trans hf) (by simp)
                        · exact absurd ((if_neg c61).symm.trans hf) (by simp)
                      · exact absurd ((if_neg c60).symm.trans hf) (by simp)
                    · have hf := (if_neg c59).symm.trans hf
                      rcases Decidable.em (((xs v3.toNatClampNeg) &&& (31 : Int32)) = 7) with c69 | c69
                      · have hf := (if_pos c69).symm.trans hf
                        refine bf_swIn 383 dL_law_33 (by rw [c69]; decide) (by rw [c69]; decide) (by rw [c69]; rfl) (by decide) ?_
                        refine bf_aload_n 1 dL_law_383 rfl rfl ?_
                        refine bf_aload_n 0 dL_law_384 rfl rfl ?_
                        refine bf_iload_n 3 dL_law_385 rfl rfl ?_
                        refine bf_iconst (v := 1) dL_law_386 (by decide) ?_
                        refine bf_iadd dL_law_387 ?_
                        rcases Decidable.em (bf_ok (v3 + (1 : Int32)) N) with c70 | c70
                        · have hf := (if_pos c70).symm.trans hf
                          refine bf_sld dL_law_388 c70 ?_
                          refine bf_aload_n 0 dL_law_389 rfl rfl ?_
                          refine bf_iload_n 3 dL_law_390 rfl rfl ?_
                          refine bf_iconst (v := 2) dL_law_391 (by decide) ?_
                          refine bf_iadd dL_law_392 ?_
                          rcases Decidable.em (bf_ok (v3 + (2 : Int32)) N) with c71 | c71
                          · have hf := (if_pos c71).symm.trans hf
                            refine bf_sld dL_law_393 c71 ?_
                            obtain ⟨r73, e72, hf⟩ := bf_bind hf
                            have hCe72 := ok_X11_about (Γ := Γ) (ad := ad) hk_flow e72
                            refine cv_L_45 7 dL_law_394 rfl ⟨Nat.le_of_ble_eq_true rfl, Nat.le_of_ble_eq_true rfl⟩ (Nat.le_of_ble_eq_true rfl) hk_flow hCe72 ?_
                            refine bf_aload_n 2 dL_law_397 rfl rfl ?_
                            refine bf_aload_n 0 dL_law_398 rfl rfl ?_
                            refine bf_iload_n 3 dL_law_399 rfl rfl ?_
                            refine bf_iconst (v := 1) dL_law_400 (by decide) ?_
                            refine bf_iadd dL_law_401 ?_
                            rcases Decidable.em (bf_ok (v3 + (1 : Int32)) N) with c74 | c74
                            · have hf := (if_pos c74).symm.trans hf
                              refine bf_sld dL_law_402 c74 ?_
                              refine bf_aload_n 0 dL_law_403 rfl rfl ?_
                              refine bf_iload_n 3 dL_law_404 rfl rfl ?_
                              refine bf_iconst (v := 2) dL_law_405 (by decide) ?_
                              refine bf_iadd dL_law_406 ?_
                              rcases Decidable.em (bf_ok (v3 + (2 : Int32)) N) with c75 | c75
                              · have hf := (if_pos c75).symm.trans hf
                                refine bf_sld dL_law_407 c75 ?_
                                obtain ⟨r77, e76, hf⟩ := bf_bind hf
                                have hCe76 := ok_X12_about (Γ := Γ) (ad := ad) hk_model e76
                                refine cv_L_48 7 dL_law_408 rfl ⟨Nat.le_of_ble_eq_true rfl, Nat.le_of_ble_eq_true rfl⟩ (Nat.le_of_ble_eq_true rfl) hk_model hCe76 ?_
                                refine bf_icmp_eq 1161 dL_law_411 (by decide) (fun c78 => ?_) (fun c78 => ?_)
                                · have hf := (if_pos c78).symm.trans hf
                                  refine bf_iinc 3 (v := _ + (6 : Int32)) (lv2 := [(3, .int _), (0, .ref _), (1, .ref _), (2, .ref _)]) dL_law_1161 rfl (by rfl) (Nat.le_of_ble_eq_true rfl) rfl ?_
                                  refine bf_goto 18 dL_law_1164 (by decide) ?_
                                  refine bf_perm [1, 2, 3, 0] rfl ?_
                                  exact ih _ _ _ hf
                                · have hf := (if_neg c78).symm.trans hf
                                  refine bf_iconst (v := 0) dL_law_414 (by decide) ?_
                                  exact absurd hf (by simp)
                              · exact absurd ((if_neg c75).symm.trans hf) (by simp)
                            · exact absurd ((if_neg c74).symm.trans hf) (by simp)
                          · exact absurd ((if_neg c71).symm.trans hf) (by simp)
                        · exact absurd ((if_neg c70).symm.trans hf) (by simp)
                      · have hf := (if_neg c69).symm.trans hf
                        rcases Decidable.em (((xs v3.toNatClampNeg) &&& (31 : Int32)) = 8) with c79 | c79
                        · have hf := (if_pos c79).symm.trans hf
                          refine bf_swIn 416 dL_law_33 (by rw [c79]; decide) (by rw [c79]; decide) (by rw [c79]; rfl) (by decide) ?_
                          refine bf_aload_n 1 dL_law_416 rfl rfl ?_
                          refine bf_aload_n 0 dL_law_417 rfl rfl ?_
                          refine bf_iload_n 3 dL_law_418 rfl rfl ?_
                          refine bf_iconst (v := 1) dL_law_419 (by decide) ?_
                          refine bf_iadd dL_law_420 ?_
                          rcases Decidable.em (bf_ok (v3 + (1 : Int32)) N) with c80 | c80
                          · have hf := (if_pos c80).symm.trans hf
                            refine bf_sld dL_law_421 c80 ?_
                            refine bf_aload_n 0 dL_law_422 rfl rfl ?_
                            refine bf_iload_n 3 dL_law_423 rfl rfl ?_
                            refine bf_iconst (v := 2) dL_law_424 (by decide) ?_
                            refine bf_iadd dL_law_425 ?_
                            rcases Decidable.em (bf_ok (v3 + (2 : Int32)) N) with c81 | c81
                            · have hf := (if_pos c81).symm.trans hf
                              refine bf_sld dL_law_426 c81 ?_
                              obtain ⟨r83, e82, hf⟩ := bf_bind hf
                              have hCe82 := ok_X11_read (Γ := Γ) (ad := ad) hk_flow e82
                              refine cv_L_49 3 dL_law_427 rfl ⟨Nat.le_of_ble_eq_true rfl, Nat.le_of_ble_eq_true rfl⟩ (Nat.le_of_ble_eq_true rfl) hk_flow hCe82 ?_
                              refine bf_aload_n 2 dL_law_430 rfl rfl ?_
                              refine bf_aload_n 0 dL_law_431 rfl rfl ?_
                              refine bf_iload_n 3 dL_law_432 rfl rfl ?_
                              refine bf_iconst (v := 1) dL_law_433 (by decide) ?_
                              refine bf_iadd dL_law_434 ?_
                              rcases Decidable.em (bf_ok (v3 + (1 : Int32)) N) with c84 | c84
                              · have hf := (if_pos c84).symm.trans hf
                                refine bf_sld dL_law_435 c84 ?_
                                refine bf_aload_n 0 dL_law_436 rfl rfl ?_
                                refine bf_iload_n 3 dL_law_437 rfl rfl ?_
                                refine bf_iconst (v := 2) dL_law_438 (by decide) ?_
                                refine bf_iadd dL_law_439 ?_
                                rcases Decidable.em (bf_ok (v3 + (2 : Int32)) N) with c85 | c85
                                · have hf := (if_pos c85).symm.trans hf
                                  refine bf_sld dL_law_440 c85 ?_
                                  obtain ⟨r87, e86, hf⟩ := bf_bind hf
                                  have hCe86 := ok_X12_read (Γ := Γ) (ad := ad) hk_model e86
                                  refine cv_L_53 2 dL_law_441 rfl ⟨Nat.le_of_ble_eq_true rfl, Nat.le_of_ble_eq_true rfl⟩ (Nat.le_of_ble_eq_true rfl) hk_model hCe86 ?_
                                  refine bf_lcmp dL_law_444 ?_
                                  refine bf_if_eq 1161 dL_law_445 (by decide) (fun c88 => ?_) (fun c88 => ?_)
                                  · have hf := (if_pos c88).symm.trans hf
                                    refine bf_iinc 3 (v := _ + (6 : Int32)) (lv2 := [(3, .int _), (0, .ref _), (1, .ref _), (2, .ref _)]) dL_law_1161 rfl (by rfl) (Nat.le_of_ble_eq_true rfl) rfl ?_
                                    refine bf_goto 18 dL_law_1164 (by decide) ?_
                                    refine bf_perm [1, 2, 3, 0] rfl ?_
                                    exact ih _ _ _ hf
                                  · have hf := (if_neg c88).symm.trans hf
                                    refine bf_iconst (v := 0) dL_law_448 (by decide) ?_
                                    exact absurd hf (by simp)
                                · exact absurd ((if_neg c85).symm.trans hf) (by simp)
                              · exact absurd ((if_neg c84).symm.trans hf) (by simp)
                            · exact absurd ((if_neg c81).symm.trans hf) (by simp)
                          · exact absurd ((if_neg c80).symm.trans hf) (by simp)
                        · have hf := (if_neg c79).symm.trans hf
                          rcases Decidable.em (((xs v3.toNatClampNeg) &&& (31 : Int32)) = 9) with c89 | c89
                          · have hf := (if_pos c89).symm.trans hf
                            refine bf_swIn 450 dL_law_33 (by rw [c89]; decide) (by rw [c89]; decide) (by rw [c89]; rfl) (by decide) ?_
                            refine bf_aload_n 1 dL_law_450 rfl rfl ?_
                            refine bf_aload_n 0 dL_law_451 rfl rfl ?_
                            refine bf_iload_n 3 dL_law_452 rfl rfl ?_
                            refine bf_iconst (v := 1) dL_law_453 (by decide) ?_
                            refine bf_iadd dL_law_454 ?_
                            rcases Decidable.em (bf_ok (v3 + (1 : Int32)) N) with c90 | c90
                            · have hf := (if_pos c90).symm.trans hf
                              refine bf_sld dL_law_455 c90 ?_
                              obtain ⟨r92, e91, hf⟩ := bf_bind hf
                              have hCe91 := ok_X11_fire (Γ := Γ) (ad := ad) hk_flow e91
                              refine cv_L_54 4 dL_law_456 rfl ⟨Nat.le_of_ble_eq_true rfl, Nat.le_of_ble_eq_true rfl⟩ (Nat.le_of_ble_eq_true rfl) hk_flow hCe91 ?_
                              refine bf_aload_n 2 dL_law_459 rfl rfl ?_
                              refine bf_aload_n 0 dL_law_460 rfl rfl ?_
                              refine bf_iload_n 3 dL_law_461 rfl rfl ?_
                              refine bf_iconst (v := 1) dL_law_462 (by decide) ?_
                              refine bf_iadd dL_law_463 ?_
                              rcases Decidable.em (bf_ok (v3 + (1 : Int32)) N) with c93 | c93
                              · have hf := (if_pos c93).symm.trans hf
                                refine bf_sld dL_law_464 c93 ?_
                                obtain ⟨r95, e94, hf⟩ := bf_bind hf
                                have hCe94 := ok_X12_fire (Γ := Γ) (ad := ad) hk_model e94
                                refine cv_L_58 3 dL_law_465 rfl ⟨Nat.le_of_ble_eq_true rfl, Nat.le_of_ble_eq_true rfl⟩ (Nat.le_of_ble_eq_true rfl) hk_model hCe94 ?_
                                refine bf_lcmp dL_law_468 ?_
                                refine bf_if_eq 1161 dL_law_469 (by decide) (fun c96 => ?_) (fun c96 => ?_)
                                · have hf := (if_pos c96).symm.trans hf
                                  refine bf_iinc 3 (v := _ + (6 : Int32)) (lv2 := [(3, .int _), (0, .ref _), (1, .ref _), (2, .ref _)]) dL_law_1161 rfl (by rfl) (Nat.le_of_ble_eq_true rfl) rfl ?_
                                  refine bf_goto 18 dL_law_1164 (by decide) ?_
                                  refine bf_perm [1, 2, 3, 0] rfl ?_
                                  exact ih _ _ _ hf
                                · have hf := (if_neg c96).symm.trans hf
                                  refine bf_iconst (v := 0) dL_law_472 (by decide) ?_
                                  exact absurd hf (by simp)
                              · exact absurd ((if_neg c93).symm.trans hf) (by simp)
                            · exact absurd ((if_neg c90).symm.trans hf) (by simp)
                          · have hf := (if_neg c89).symm.trans hf
                            rcases Decidable.em (((xs v3.toNatClampNeg) &&& (31 : Int32)) = 10) with c97 | c97
                            · have hf := (if_pos c97).symm.trans hf
                              refine bf_swIn 474 dL_law_33 (by rw [c97]; decide) (by rw [c97]; decide) (by rw [c97]; rfl) (by decide) ?_
                              refine bf_aload_n 1 dL_law_474 rfl rfl ?_
                              refine bf_aload_n 0 dL_law_475 rfl rfl ?_
                              refine bf_iload_n 3 dL_law_476 rfl rfl ?_
                              refine bf_iconst (v := 1) dL_law_477 (by decide) ?_
                              refine bf_iadd dL_law_478 ?_
                              rcases Decidable.em (bf_ok (v3 + (1 : Int32)) N) with c98 | c98
                              · have hf := (if_pos c98).symm.trans hf
                                refine bf_sld dL_law_479 c98 ?_
                                obtain ⟨r100, e99, hf⟩ := bf_bind hf
                                have hCe99 := ok_X11_period (Γ := Γ) (ad := ad) hk_flow e99
                                refine cv_L_59 6 dL_law_480 rfl ⟨Nat.le_of_ble_eq_true rfl, Nat.le_of_ble_eq_true rfl⟩ (Nat.le_of_ble_eq_true rfl) hk_flow hCe99 ?_
                                refine bf_aload_n 2 dL_law_483 rfl rfl ?_
                                refine bf_aload_n 0 dL_law_484 rfl rfl ?_
                                refine bf_iload_n 3 dL_law_485 rfl rfl ?_
                                refine bf_iconst (v := 1) dL_law_486 (by decide) ?_
                                refine bf_iadd dL_law_487 ?_
                                rcases Decidable.em (bf_ok (v3 + (1 : Int32)) N) with c101 | c101
                                · have hf := (if_pos c101).symm.trans hf
                                  refine bf_sld dL_law_488 c101 ?_
                                  obtain ⟨r103, e102, hf⟩ := bf_bind hf
                                  have hCe102 := ok_X12_period (Γ := Γ) (ad := ad) hk_model e102
                                  refine cv_L_62 6 dL_law_489 rfl ⟨Nat.le_of_ble_eq_true rfl, Nat.le_of_ble_eq_true rfl⟩ (Nat.le_of_ble_eq_true rfl) hk_model hCe102 ?_
                                  refine bf_icmp_eq 1161 dL_law_492 (by decide) (fun c104 => ?_) (fun c104 => ?_)
                                  · have hf := (if_pos c104).symm.trans hf
                                    refine bf_iinc 3 (v := _ + (6 : Int32)) (lv2 := [(3, .int _), (0, .ref _), (1, .ref _), (2, .ref _)]) dL_law_1161 rfl (by rfl) (Nat.le_of_ble_eq_true rfl) rfl ?_
                                    refine bf_goto 18 dL_law_1164 (by decide) ?_
                                    refine bf_perm [1, 2, 3, 0] rfl ?_
                                    exact ih _ _ _ hf
                                  · have hf := (if_neg c104).symm.trans hf
                                    refine bf_iconst (v := 0) dL_law_495 (by decide) ?_
                                    exact absurd hf (by simp)
                                · exact absurd ((if_neg c101).symm.trans hf) (by simp)
                              · exact absurd ((if_neg c98).symm.trans hf) (by simp)
                            · have hf := (if_neg c97).symm.trans hf
                              rcases Decidable.em (((xs v3.toNatClampNeg) &&& (31 : Int32)) = 11) with c105 | c105
                              · have hf := (if_pos c105).symm.trans hf
                                refine bf_swIn 497 dL_law_33 (by rw [c105]; decide) (by rw [c105]; decide) (by rw [c105]; rfl) (by decide) ?_
                                refine bf_aload_n 1 dL_law_497 rfl rfl ?_
                                refine bf_aload_n 0 dL_law_498 rfl rfl ?_
                                refine bf_iload_n 3 dL_law_499 rfl rfl ?_
                                refine bf_iconst (v := 1) dL_law_500 (by decide) ?_
                                refine bf_iadd dL_law_501 ?_
                                rcases Decidable.em (bf_ok (v3 + (1 : Int32)) N) with c106 | c106
                                · have hf := (if_pos c106).symm.trans hf
                                  refine bf_sld dL_law_502 c106 ?_
                                  obtain ⟨r108, e107, hf⟩ := bf_bind hf
                                  have hCe107 := ok_X11_told (Γ := Γ) (ad := ad) hk_flow e107
                                  refine cv_L_63 15 dL_law_503 rfl ⟨Nat.le_of_ble_eq_true rfl, Nat.le_of_ble_eq_true rfl⟩ (Nat.le_of_ble_eq_true rfl) hk_flow hCe107 ?_
                                  refine bf_aload_n 2 dL_law_506 rfl rfl ?_
                                  refine bf_aload_n 0 dL_law_507 rfl rfl ?_
                                  refine bf_iload_n 3 dL_law_508 rfl rfl ?_
                                  refine bf_iconst (v := 1) dL_law_509 (by decide) ?_
                                  refine bf_iadd dL_law_510 ?_
                                  rcases Decidable.em (bf_ok (v3 + (1 : Int32)) N) with c109 | c109
                                  · have hf := (if_pos c109).symm.trans hf
                                    refine bf_sld dL_law_511 c109 ?_
                                    obtain ⟨r111, e110, hf⟩ := bf_bind hf
                                    have hCe110 := ok_X12_told (Γ := Γ) (ad := ad) hk_model e110
                                    refine cv_L_66 14 dL_law_512 rfl ⟨Nat.le_of_ble_eq_true rfl, Nat.le_of_ble_eq_true rfl⟩ (Nat.le_of_ble_eq_true rfl) hk_model hCe110 ?_
                                    refine bf_icmp_eq 1161 dL_law_515 (by decide) (fun c112 => ?_) (fun c112 => ?_)
                                    · have hf := (if_pos c112).symm.trans hf
                                      refine bf_iinc 3 (v := _ + (6 : Int32)) (lv2 := [(3, .int _), (0, .ref _), (1, .ref _), (2, .ref _)]) dL_law_1161 rfl (by rfl) (Nat.le_of_ble_eq_true rfl) rfl ?_
                                      refine bf_goto 18 dL_law_1164 (by decide) ?_
                                      refine bf_perm [1, 2, 3, 0] rfl ?_
                                      exact ih _ _ _ hf
                                    · have hf := (if_neg c112).symm.trans hf
                                      refine bf_iconst (v := 0) dL_law_518 (by decide) ?_
                                      exact absurd hf (by simp)
                                  · exact absurd ((if_neg c109).symm.trans hf) (by simp)
                                · exact absurd ((if_neg c106).symm.trans hf) (by simp)
                              · have hf := (if_neg c105).symm.trans hf
                                rcases Decidable.em (((xs v3.toNatClampNeg) &&& (31 : Int32)) = 12) with c113 | c113
                                · have hf := (if_pos c113).symm.trans hf
                                  refine bf_swIn 520 dL_law_33 (by rw [c113]; decide) (by rw [c113]; decide) (by rw [c113]; rfl) (by decide) ?_
                                  refine bf_aload_n 1 dL_law_520 rfl rfl ?_
                                  refine bf_aload_n 0 dL_law_521 rfl rfl ?_
                                  refine bf_iload_n 3 dL_law_522 rfl rfl ?_
                                  refine bf_iconst (v := 1) dL_law_523 (by decide) ?_
                                  refine bf_iadd dL_law_524 ?_
                                  rcases Decidable.em (bf_ok (v3 + (1 : Int32)) N) with c114 | c114
                                  · have hf := (if_pos c114).symm.trans hf
                                    refine bf_sld dL_law_525 c114 ?_
                                    obtain ⟨r116, e115, hf⟩ := bf_bind hf
                                    have hCe115 := ok_X11_when (Γ := Γ) (ad := ad) hk_flow e115
                                    refine cv_L_67 6 dL_law_526 rfl ⟨Nat.le_of_ble_eq_true rfl, Nat.le_of_ble_eq_true rfl⟩ (Nat.le_of_ble_eq_true rfl) hk_flow hCe115 ?_
                                    refine bf_aload_n 2 dL_law_529 rfl rfl ?_
                                    refine bf_aload_n 0 dL_law_530 rfl rfl ?_
                                    refine bf_iload_n 3 dL_law_531 rfl rfl ?_
                                    refine bf_iconst (v := 1) dL_law_532 (by decide) ?_
                                    refine bf_iadd dL_law_533 ?_
                                    rcases Decidable.em (bf_ok (v3 + (1 : Int32)) N) with c117 | c117
                                    · have hf := (if_pos c117).symm.trans hf
                                      refine bf_sld dL_law_534 c117 ?_
                                      obtain ⟨r119, e118, hf⟩ := bf_bind hf
                                      have hCe118 := ok_X12_when (Γ := Γ) (ad := ad) hk_model e118
                                      refine cv_L_70 6 dL_law_535 rfl ⟨Nat.le_of_ble_eq_true rfl, Nat.le_of_ble_eq_true rfl⟩ (Nat.le_of_ble_eq_true rfl) hk_model hCe118 ?_
                                      refine bf_icmp_eq 1161 dL_law_538 (by decide) (fun c120 => ?_) (fun c120 => ?_)
                                      · have hf := (if_pos c120).symm.trans hf
                                        refine bf_iinc 3 (v := _ + (6 : Int32)) (lv2 := [(3, .int _), (0, .ref _), (1, .ref _), (2, .ref _)]) dL_law_1161 rfl (by rfl) (Nat.le_of_ble_eq_true rfl) rfl ?_
                                        refine bf_goto 18 dL_law_1164 (by decide) ?_
                                        refine bf_perm [1, 2, 3, 0] rfl ?_
                                        exact ih _ _ _ hf
                                      · have hf := (if_neg c120).symm.trans hf
                                        refine bf_iconst (v := 0) dL_law_541 (by decide) ?_
                                        exact absurd hf (by simp)
                                    · exact absurd ((if_neg c117).symm.trans hf) (by simp)
                                  · exact absurd ((if_neg c114).symm.trans hf) (by simp)
                                · have hf := (if_neg c113).symm.trans hf
                                  rcases Decidable.em (((xs v3.toNatClampNeg) &&& (31 : Int32)) = 13) with c121 | c121
                                  · have hf := (if_pos c121).symm.trans hf
                                    refine bf_swIn 543 dL_law_33 (by rw [c121]; decide) (by rw [c121]; decide) (by rw [c121]; rfl) (by decide) ?_
                                    refine bf_aload_n 1 dL_law_543 rfl rfl ?_
                                    refine bf_aload_n 0 dL_law_544 rfl rfl ?_
                                    refine bf_iload_n 3 dL_law_545 rfl rfl ?_
                                    refine bf_iconst (v := 1) dL_law_546 (by decide) ?_
                                    refine bf_iadd dL_law_547 ?_
                                    rcases Decidable.em (bf_ok (v3 + (1 : Int32)) N) with c122 | c122
                                    · have hf := (if_pos c122).symm.trans hf
                                      refine bf_sld dL_law_548 c122 ?_
                                      refine bf_aload_n 0 dL_law_549 rfl rfl ?_
                                      refine bf_iload_n 3 dL_law_550 rfl rfl ?_
                                      refine bf_iconst (v := 2) dL_law_551 (by decide) ?_
                                      refine bf_iadd dL_law_552 ?_
                                      rcases Decidable.em (bf_ok (v3 + (2 : Int32)) N) with c123 | c123
                                      · have hf := (if_pos c123).symm.trans hf
                                        refine bf_sld dL_law_553 c123 ?_
                                        obtain ⟨r125, e124, hf⟩ := bf_bind hf
                                        have hCe124 := ok_X11_on (Γ := Γ) (ad := ad) hk_flow e124
                                        refine cv_L_71 1 dL_law_554 rfl ⟨Nat.le_of_ble_eq_true rfl, Nat.le_of_ble_eq_true rfl⟩ (Nat.le_of_ble_eq_true rfl) hk_flow hCe124 ?_
                                        refine bf_aload_n 2 dL_law_557 rfl rfl ?_
                                        refine bf_aload_n 0 dL_law_558 rfl rfl ?_
                                        refine bf_iload_n 3 dL_law_559 rfl rfl ?_
                                        refine bf_iconst (v := 1) dL_law_560 (by decide) ?_
                                        refine bf_iadd dL_law_561 ?_
                                        rcases Decidable.em (bf_ok (v3 + (1 : Int32)) N) with c126 | c126
                                        · have hf := (if_pos c126).symm.trans hf
                                          refine bf_sld dL_law_562 c126 ?_
                                          refine bf_aload_n 0 dL_law_563 rfl rfl ?_
                                          refine bf_iload_n 3 dL_law_564 rfl rfl ?_
                                          refine bf_iconst (v := 2) dL_law_565 (by decide) ?_
                                          refine bf_iadd dL_law_566 ?_
                                          rcases Decidable.em (bf_ok (v3 + (2 : Int32)) N) with c127 | c127
                                          · have hf := (if_pos c127).symm.trans hf
                                            refine bf_sld dL_law_567 c127 ?_
                                            obtain ⟨r129, e128, hf⟩ := bf_bind hf
                                            have hCe128 := ok_X12_on (Γ := Γ) (ad := ad) hk_model e128
                                            refine cv_L_74 7 dL_law_568 rfl ⟨Nat.le_of_ble_eq_true rfl, Nat.le_of_ble_eq_true rfl⟩ (Nat.le_of_ble_eq_true rfl) hk_model hCe128 ?_
                                            refine bf_icmp_eq 1161 dL_law_571 (by decide) (fun c130 => ?_) (fun c130 => ?_)
                                            · have hf := (if_pos c130).symm.trans hf
                                              refine bf_iinc 3 (v := _ + (6 : Int32)) (lv2 := [(3, .int _), (0, .ref _), (1, .ref _), (2, .ref _)]) dL_law_1161 rfl (by rfl) (Nat.le_of_ble_eq_true rfl) rfl ?_
                                              refine bf_goto 18 dL_law_1164 (by decide) ?_
                                              refine bf_perm [1, 2, 3, 0] rfl ?_
                                              exact ih _ _ _ hf
                                            · have hf := (if_neg c130).symm.trans hf
                                              refine bf_iconst (v := 0) dL_law_574 (by decide) ?_
                                              exact absurd hf (by simp)
                                          · exact absurd ((if_neg c127).symm.trans hf) (by simp)
                                        · exact absurd ((if_neg c126).symm.trans hf) (by simp)
                                      · exact absurd ((if_neg c123).symm.trans hf) (by simp)
                                    · exact absurd ((if_neg c122).symm.trans hf) (by simp)
                                  · have hf := (if_neg c121).symm.trans hf
                                    rcases Decidable.em (((xs v3.toNatClampNeg) &&& (31 : Int32)) = 14) with c131 | c131
                                    · have hf := (if_pos c131).symm.trans hf
                                      refine bf_swIn 576 dL_law_33 (by rw [c131]; decide) (by rw [c131]; decide) (by rw [c131]; rfl) (by decide) ?_
                                      refine bf_aload_n 1 dL_law_576 rfl rfl ?_
                                      refine bf_aload_n 0 dL_law_577 rfl rfl ?_
                                      refine bf_iload_n 3 dL_law_578 rfl rfl ?_
                                      refine bf_iconst (v := 1) dL_law_579 (by decide) ?_
                                      refine bf_iadd dL_law_580 ?_
                                      rcases Decidable.em (bf_ok (v3 + (1 : Int32)) N) with c132 | c132
                                      · have hf := (if_pos c132).symm.trans hf
                                        refine bf_sld dL_law_581 c132 ?_
                                        refine bf_aload_n 0 dL_law_582 rfl rfl ?_
                                        refine bf_iload_n 3 dL_law_583 rfl rfl ?_
                                        refine bf_iconst (v := 2) dL_law_584 (by decide) ?_
                                        refine bf_iadd dL_law_585 ?_
                                        rcases Decidable.em (bf_ok (v3 + (2 : Int32)) N) with c133 | c133
                                        · have hf := (if_pos c133).symm.trans hf
                                          refine bf_sld dL_law_586 c133 ?_
                                          refine bf_aload_n 0 dL_law_587 rfl rfl ?_
                                          refine bf_iload_n 3 dL_law_588 rfl rfl ?_
                                          refine bf_iconst (v := 3) dL_law_589 (by decide) ?_
                                          refine bf_iadd dL_law_590 ?_
                                          rcases Decidable.em (bf_ok (v3 + (3 : Int32)) N) with c134 | c134
                                          · have hf := (if_pos c134).symm.trans hf
                                            refine bf_sld dL_law_591 c134 ?_
                                            obtain ⟨r136, e135, hf⟩ := bf_bind hf
                                            have hCe135 := ok_X11_then (Γ := Γ) (ad := ad) hk_flow e135
                                            refine cv_L_75 6 dL_law_592 rfl ⟨Nat.le_of_ble_eq_true rfl, Nat.le_of_ble_eq_true rfl⟩ (Nat.le_of_ble_eq_true rfl) hk_flow hCe135 ?_
                                            refine bf_aload_n 2 dL_law_595 rfl rfl ?_
                                            refine bf_aload_n 0 dL_law_596 rfl rfl ?_
                                            refine bf_iload_n 3 dL_law_597 rfl rfl ?_
                                            refine bf_iconst (v := 1) dL_law_598 (by decide) ?_
                                            refine bf_iadd dL_law_599 ?_
                                            rcases Decidable.em (bf_ok (v3 + (1 : Int32)) N) with c137 | c137
                                            · have hf := (if_pos c137).symm.trans hf
                                              refine bf_sld dL_law_600 c137 ?_
                                              refine bf_aload_n 0 dL_law_601 rfl rfl ?_
                                              refine bf_iload_n 3 dL_law_602 rfl rfl ?_
                                              refine bf_iconst (v := 2) dL_law_603 (by decide) ?_
                                              refine bf_iadd dL_law_604 ?_
                                              rcases Decidable.em (bf_ok (v3 + (2 : Int32)) N) with c138 | c138
                                              · have hf := (if_pos c138).symm.trans hf
                                                refine bf_sld dL_law_605 c138 ?_
                                                refine bf_aload_n 0 dL_law_606 rfl rfl ?_
                                                refine bf_iload_n 3 dL_law_607 rfl rfl ?_
                                                refine bf_iconst (v := 3) dL_law_608 (by decide) ?_
                                                refine bf_iadd dL_law_609 ?_
                                                rcases Decidable.em (bf_ok (v3 + (3 : Int32)) N) with c139 | c139
                                                · have hf := (if_pos c139).symm.trans hf
                                                  refine bf_sld dL_law_610 c139 ?_
                                                  obtain ⟨r141, e140, hf⟩ := bf_bind hf
                                                  have hCe140 := ok_X12_then (Γ := Γ) (ad := ad) hk_model e140
                                                  refine cv_L_79 7 dL_law_611 rfl ⟨Nat.le_of_ble_eq_true rfl, Nat.le_of_ble_eq_true rfl⟩ (Nat.le_of_ble_eq_true rfl) hk_model hCe140 ?_
                                                  refine bf_lcmp dL_law_614 ?_
                                                  refine bf_if_eq 1161 dL_law_615 (by decide) (fun c142 => ?_) (fun c142 => ?_)
                                                  · have hf := (if_pos c142).symm.trans hf
                                                    refine bf_iinc 3 (v := _ + (6 : Int32)) (lv2 := [(3, .int _), (0, .ref _), (1, .ref _), (2, .ref _)]) dL_law_1161 rfl (by rfl) (Nat.le_of_ble_eq_true rfl) rfl ?_
                                                    refine bf_goto 18 dL_law_1164 (by decide) ?_
                                                    refine bf_perm [1, 2, 3, 0] rfl ?_
                                                    exact ih _ _ _ hf
                                                  · have hf := (if_neg c142).symm.trans hf
                                                    refine bf_iconst (v := 0) dL_law_618 (by decide) ?_
                                                    exact absurd hf (by simp)
                                                · exact absurd ((if_neg c139).symm.trans hf) (by simp)
                                              · exact absurd ((if_neg c138).symm.trans hf) (by simp)
                                            · exact absurd ((if_neg c137).symm.trans hf) (by simp)
                                          · exact absurd ((if_neg c134).symm.trans hf) (by simp)
                                        · exact absurd ((if_neg c133).symm.trans hf) (by simp)
                                      · exact absurd ((if_neg c132).symm.trans hf) (by simp)
                                    · have hf := (if_neg c131).symm.trans hf
                                      rcases Decidable.em (((xs v3.toNatClampNeg) &&& (31 : Int32)) = 15) with c143 | c143
                                      · have hf := (if_pos c143).symm.trans hf
                                        refine bf_swIn 620 dL_law_33 (by rw [c143]; decide) (by rw [c143]; decide) (by rw [c143]; rfl) (by decide) ?_
                                        refine bf_aload_n 1 dL_law_620 rfl rfl ?_
                                        refine bf_aload_n 0 dL_law_621 rfl rfl ?_
                                        refine bf_iload_n 3 dL_law_622 rfl rfl ?_
                                        refine bf_iconst (v := 1) dL_law_623 (by decide) ?_
                                        refine bf_iadd dL_law_624 ?_
                                        rcases Decidable.em (bf_ok (v3 + (1 : Int32)) N) with c144 | c144
                                        · have hf := (if_pos c144).symm.trans hf
                                          refine bf_sld dL_law_625 c144 ?_
                                          refine bf_aload_n 0 dL_law_626 rfl rfl ?_
                                          refine bf_iload_n 3 dL_law_627 rfl rfl ?_
                                          refine bf_iconst (v := 2) dL_law_628 (by decide) ?_
                                          refine bf_iadd dL_law_629 ?_
                                          rcases Decidable.em (bf_ok (v3 + (2 : Int32)) N) with c145 | c145
                                          · have hf := (if_pos c145).symm.trans hf
                                            refine bf_sld dL_law_630 c145 ?_
                                            refine bf_aload_n 0 dL_law_631 rfl rfl ?_
                                            refine bf_iload_n 3 dL_law_632 rfl rfl ?_
                                            refine bf_iconst (v := 3) dL_law_633 (by decide) ?_
                                            refine bf_iadd dL_law_634 ?_
                                            rcases Decidable.em (bf_ok (v3 + (3 : Int32)) N) with c146 | c146
                                            · have hf := (if_pos c146).symm.trans hf
                                              refine bf_sld dL_law_635 c146 ?_
                                              obtain ⟨r148, e147, hf⟩ := bf_bind hf
                                              have hCe147 := ok_X11_see (Γ := Γ) (ad := ad) hk_flow e147
                                              refine cv_L_80 1 dL_law_636 rfl ⟨Nat.le_of_ble_eq_true rfl, Nat.le_of_ble_eq_true rfl⟩ (Nat.le_of_ble_eq_true rfl) hk_flow hCe147 ?_
                                              refine bf_aload_n 2 dL_law_639 rfl rfl ?_
                                              refine bf_aload_n 0 dL_law_640 rfl rfl ?_
                                              refine bf_iload_n 3 dL_law_641 rfl rfl ?_
                                              refine bf_iconst (v := 1) dL_law_642 (by decide) ?_
                                              refine bf_iadd dL_law_643 ?_
                                              rcases Decidable.em (bf_ok (v3 + (1 : Int32)) N) with c149 | c149
                                              · have hf := (if_pos c149).symm.trans hf
                                                refine bf_sld dL_law_644 c149 ?_
                                                refine bf_aload_n 0 dL_law_645 rfl rfl ?_
                                                refine bf_iload_n 3 dL_law_646 rfl rfl ?_
                                                refine bf_iconst (v := 2) dL_law_647 (by decide) ?_
                                                refine bf_iadd dL_law_648 ?_
                                                rcases Decidable.em (bf_ok (v3 + (2 : Int32)) N) with c150 | c150
                                                · have hf := (if_pos c150).symm.trans hf
                                                  refine bf_sld dL_law_649 c150 ?_
                                                  refine bf_aload_n 0 dL_law_650 rfl rfl ?_
                                                  refine bf_iload_n 3 dL_law_651 rfl rfl ?_
                                                  refine bf_iconst (v := 3) dL_law_652 (by decide) ?_
                                                  refine bf_iadd dL_law_653 ?_
                                                  rcases Decidable.em (bf_ok (v3 + (3 : Int32)) N) with c151 | c151
                                                  · have hf := (if_pos c151).symm.trans hf
                                                    refine bf_sld dL_law_654 c151 ?_
                                                    obtain ⟨r153, e152, hf⟩ := bf_bind hf
                                                    have hCe152 := ok_X12_see (Γ := Γ) (ad := ad) hk_model e152
                                                    refine cv_L_84 2 dL_law_655 rfl ⟨Nat.le_of_ble_eq_true rfl, Nat.le_of_ble_eq_true rfl⟩ (Nat.le_of_ble_eq_true rfl) hk_model hCe152 ?_
                                                    refine bf_icmp_eq 1161 dL_law_658 (by decide) (fun c154 => ?_) (fun c154 => ?_)
                                                    · have hf := (if_pos c154).symm.trans hf
                                                      refine bf_iinc 3 (v := _ + (6 : Int32)) (lv2 := [(3, .int _), (0, .ref _), (1, .ref _), (2, .ref _)]) dL_law_1161 rfl (by rfl) (Nat.le_of_ble_eq_true rfl) rfl ?_
                                                      refine bf_goto 18 dL_law_1164 (by decide) ?_
                                                      refine bf_perm [1, 2, 3, 0] rfl ?_
                                                      exact ih _ _ _ hf
                                                    · have hf := (if_neg c154).symm.trans hf
                                                      refine bf_iconst (v := 0) dL_law_661 (by decide) ?_
                                                      exact absurd hf (by simp)
                                                  · exact absurd ((if_neg c151).symm.trans hf) (by simp)
                                                · exact absurd ((if_neg c150).symm.trans hf) (by simp)
                                              · exact absurd ((if_neg c149).symm.trans hf) (by simp)
                                            · exact absurd ((if_neg c146).symm.trans hf) (by simp)
                                          · exact absurd ((if_neg c145).symm.trans hf) (by simp)
                                        · exact absurd ((if_neg c144).symm.trans hf) (by simp)
                                      · have hf := (if_neg c143).symm.trans hf
                                        rcases Decidable.em (((xs v3.toNatClampNeg) &&& (31 : Int32)) = 16) with c155 | c155
                                        · have hf := (if_pos c155).symm.trans hf
                                          refine bf_swIn 663 dL_law_33 (by rw [c155]; decide) (by rw [c155]; decide) (by rw [c155]; rfl) (by decide) ?_
                                          refine bf_aload_n 1 dL_law_663 rfl rfl ?_
                                          refine bf_aload_n 0 dL_law_664 rfl rfl ?_
                                          refine bf_iload_n 3 dL_law_665 rfl rfl ?_
                                          refine bf_iconst (v := 1) dL_law_666 (by decide) ?_
                                          refine bf_iadd dL_law_667 ?_
                                          rcases Decidable.em (bf_ok (v3 + (1 : Int32)) N) with c156 | c156
                                          · have hf := (if_pos c156).symm.trans hf
                                            refine bf_sld dL_law_668 c156 ?_
                                            refine bf_aload_n 0 dL_law_669 rfl rfl ?_
                                            refine bf_iload_n 3 dL_law_670 rfl rfl ?_
                                            refine bf_iconst (v := 2) dL_law_671 (by decide) ?_
                                            refine bf_iadd dL_law_672 ?_
                                            rcases Decidable.em (bf_ok (v3 + (2 : Int32)) N) with c157 | c157
                                            · have hf := (if_pos c157).symm.trans hf
                                              refine bf_sld dL_law_673 c157 ?_
                                              obtain ⟨r159, e158, hf⟩ := bf_bind hf
                                              have hCe158 := ok_X11_fits (Γ := Γ) (ad := ad) hk_flow e158
                                              refine cv_L_85 6 dL_law_674 rfl ⟨Nat.le_of_ble_eq_true rfl, Nat.le_of_ble_eq_true rfl⟩ (Nat.le_of_ble_eq_true rfl) hk_flow hCe158 ?_
                                              refine bf_aload_n 2 dL_law_677 rfl rfl ?_
                                              refine bf_aload_n 0 dL_law_678 rfl rfl ?_
                                              refine bf_iload_n 3 dL_law_679 rfl rfl ?_
                                              refine bf_iconst (v := 1) dL_law_680 (by decide) ?_
                                              refine bf_iadd dL_law_681 ?_
                                              rcases Decidable.em (bf_ok (v3 + (1 : Int32)) N) with c160 | c160
                                              · have hf := (if_pos c160).symm.trans hf
                                                refine bf_sld dL_law_682 c160 ?_
                                                refine bf_aload_n 0 dL_law_683 rfl rfl ?_
                                                refine bf_iload_n 3 dL_law_684 rfl rfl ?_
                                                refine bf_iconst (v := 2) dL_law_685 (by decide) ?_
                                                refine bf_iadd dL_law_686 ?_
                                                rcases Decidable.em (bf_ok (v3 + (2 : Int32)) N) with c161 | c161
                                                · have hf := (if_pos c161).symm.trans hf
                                                  refine bf_sld dL_law_687 c161 ?_
                                                  obtain ⟨r163, e162, hf⟩ := bf_bind hf
                                                  have hCe162 := ok_X12_fits (Γ := Γ) (ad := ad) hk_model e162
                                                  refine cv_L_88 8 dL_law_688 rfl ⟨Nat.le_of_ble_eq_true rfl, Nat.le_of_ble_eq_true rfl⟩ (Nat.le_of_ble_eq_true rfl) hk_model hCe162 ?_
                                                  refine bf_icmp_eq 1161 dL_law_691 (by decide) (fun c164 => ?_) (fun c164 => ?_)
                                                  · have hf := (if_pos c164).symm.trans hf
                                                    refine bf_iinc 3 (v := _ + (6 : Int32)) (lv2 := [(3, .int _), (0, .ref _), (1, .ref _), (2, .ref _)]) dL_law_1161 rfl (by rfl) (Nat.le_of_ble_eq_true rfl) rfl ?_
                                                    refine bf_goto 18 dL_law_1164 (by decide) ?_
                                                    refine bf_perm [1, 2, 3, 0] rfl ?_
                                                    exact ih _ _ _ hf
                                                  · have hf := (if_neg c164).symm.trans hf
                                                    refine bf_iconst (v := 0) dL_law_694 (by decide) ?_
                                                    exact absurd hf (by simp)
                                                · exact absurd ((if_neg c161).symm.trans hf) (by simp)
                                              · exact absurd ((if_neg c160).symm.trans hf) (by simp)
                                            · exact absurd ((if_neg c157).symm.trans hf) (by simp)
                                          · exact absurd ((if_neg c156).symm.trans hf) (by simp)
                                        · have hf := (if_neg c155).symm.trans hf
                                          rcases Decidable.em (((xs v3.toNatClampNeg) &&& (31 : Int32)) = 17) with c165 | c165
                                          · have hf := (if_pos c165).symm.trans hf
                                            refine bf_swIn 696 dL_law_33 (by rw [c165]; decide) (by rw [c165]; decide) (by rw [c165]; rfl) (by decide) ?_
                                            refine bf_aload_n 1 dL_law_696 rfl rfl ?_
                                            refine bf_aload_n 0 dL_law_697 rfl rfl ?_
                                            refine bf_iload_n 3 dL_law_698 rfl rfl ?_
                                            refine bf_iconst (v := 1) dL_law_699 (by decide) ?_
                                            refine bf_iadd dL_law_700 ?_
                                            rcases Decidable.em (bf_ok (v3 + (1 : Int32)) N) with c166 | c166
                                            · have hf := (if_pos c166).symm.trans hf
                                              refine bf_sld dL_law_701 c166 ?_
                                              refine bf_aload_n 0 dL_law_702 rfl rfl ?_
                                              refine bf_iload_n 3 dL_law_703 rfl rfl ?_
                                              refine bf_iconst (v := 2) dL_law_704 (by decide) ?_
                                              refine bf_iadd dL_law_705 ?_
                                              rcases Decidable.em (bf_ok (v3 + (2 : Int32)) N) with c167 | c167
                                              · have hf := (if_pos c167).symm.trans hf
                                                refine bf_sld dL_law_706 c167 ?_
                                                obtain ⟨r169, e168, hf⟩ := bf_bind hf
                                                have hCe168 := ok_X11_odds (Γ := Γ) (ad := ad) hk_flow e168
                                                refine cv_L_89 6 dL_law_707 rfl ⟨Nat.le_of_ble_eq_true rfl, Nat.le_of_ble_eq_true rfl⟩ (Nat.le_of_ble_eq_true rfl) hk_flow hCe168 ?_
                                                refine bf_aload_n 2 dL_law_710 rfl rfl ?_
                                                refine bf_aload_n 0 dL_law_711 rfl rfl ?_
                                                refine bf_iload_n 3 dL_law_712 rfl rfl ?_
                                                refine bf_iconst (v := 1) dL_law_713 (by decide) ?_
                                                refine bf_iadd dL_law_714 ?_
                                                rcases Decidable.em (bf_ok (v3 + (1 : Int32)) N) with c170 | c170
                                                · have hf := (if_pos c170).symm.trans hf
                                                  refine bf_sld dL_law_715 c170 ?_
                                                  refine bf_aload_n 0 dL_law_716 rfl rfl ?_
                                                  refine bf_iload_n 3 dL_law_717 rfl rfl ?_
                                                  refine bf_iconst (v := 2) dL_law_718 (by decide) ?_
                                                  refine bf_iadd dL_law_719 ?_
                                                  rcases Decidable.em (bf_ok (v3 + (2 : Int32)) N) with c171 | c171
                                                  · have hf := (if_pos c171).symm.trans hf
                                                    refine bf_sld dL_law_720 c171 ?_
                                                    obtain ⟨r173, e172, hf⟩ := bf_bind hf
                                                    have hCe172 := ok_X12_odds (Γ := Γ) (ad := ad) hk_model e172
                                                    refine cv_L_92 6 dL_law_721 rfl ⟨Nat.le_of_ble_eq_true rfl, Nat.le_of_ble_eq_true rfl⟩ (Nat.le_of_ble_eq_true rfl) hk_model hCe172 ?_
                                                    refine bf_lcmp dL_law_724 ?_
                                                    refine bf_if_eq 1161 dL_law_725 (by decide) (fun c174 => ?_) (fun c174 => ?_)
                                                    · have hf := (if_pos c174).symm.trans hf
                                                      refine bf_iinc 3 (v := _ + (6 : Int32)) (lv2 := [(3, .int _), (0, .ref _), (1, .ref _), (2, .ref _)]) dL_law_1161 rfl (by rfl) (Nat.le_of_ble_eq_true rfl) rfl ?_
                                                      refine bf_goto 18 dL_law_1164 (by decide) ?_
                                                      refine bf_perm [1, 2, 3, 0] rfl ?_
                                                      exact ih _ _ _ hf
                                                    · have hf := (if_neg c174).symm.trans hf
                                                      refine bf_iconst (v := 0) dL_law_728 (by decide) ?_
                                                      exact absurd hf (by simp)
                                                  · exact absurd ((if_neg c171).symm.trans hf) (by simp)
                                                · exact absurd ((if_neg c170).symm.trans hf) (by simp)
                                              · exact absurd ((if_neg c167).symm.trans hf) (by simp)
                                            · exact absurd ((if_neg c166).symm.trans hf) (by simp)
                                          · have hf := (if_neg c165).symm.trans hf
                                            rcases Decidable.em (((xs v3.toNatClampNeg) &&& (31 : Int32)) = 18) with c175 | c175
                                            · have hf := (if_pos c175).symm.trans hf
                                              refine bf_swIn 730 dL_law_33 (by rw [c175]; decide) (by rw [c175]; decide) (by rw [c175]; rfl) (by decide) ?_
                                              refine bf_aload_n 1 dL_law_730 rfl rfl ?_
                                              refine bf_aload_n 0 dL_law_731 rfl rfl ?_
                                              refine bf_iload_n 3 dL_law_732 rfl rfl ?_
                                              refine bf_iconst (v := 1) dL_law_733 (by decide) ?_
                                              refine bf_iadd dL_law_734 ?_
                                              rcases Decidable.em (bf_ok (v3 + (1 : Int32)) N) with c176 | c176
                                              · have hf := (if_pos c176).symm.trans hf
                                                refine bf_sld dL_law_735 c176 ?_
                                                obtain ⟨r178, e177, hf⟩ := bf_bind hf
                                                have hCe177 := ok_X11_mean (Γ := Γ) (ad := ad) hk_flow e177
                                                refine cv_L_93 3 dL_law_736 rfl ⟨Nat.le_of_ble_eq_true rfl, Nat.le_of_ble_eq_true rfl⟩ (Nat.le_of_ble_eq_true rfl) hk_flow hCe177 ?_
                                                refine bf_aload_n 2 dL_law_739 rfl rfl ?_
                                                refine bf_aload_n 0 dL_law_740 rfl rfl ?_
                                                refine bf_iload_n 3 dL_law_741 rfl rfl ?_
                                                refine bf_iconst (v := 1) dL_law_742 (by decide) ?_
                                                refine bf_iadd dL_law_743 ?_
                                                rcases Decidable.em (bf_ok (v3 + (1 : Int32)) N) with c179 | c179
                                                · have hf := (if_pos c179).symm.trans hf
                                                  refine bf_sld dL_law_744 c179 ?_
                                                  obtain ⟨r181, e180, hf⟩ := bf_bind hf
                                                  have hCe180 := ok_X12_mean (Γ := Γ) (ad := ad) hk_model e180
                                                  refine cv_L_96 3 dL_law_745 rfl ⟨Nat.le_of_ble_eq_true rfl, Nat.le_of_ble_eq_true rfl⟩ (Nat.le_of_ble_eq_true rfl) hk_model hCe180 ?_
                                                  refine bf_lcmp dL_law_748 ?_
                                                  refine bf_if_eq 1161 dL_law_749 (by decide) (fun c182 => ?_) (fun c182 => ?_)
                                                  · have hf := (if_pos c182).symm.trans hf
                                                    refine bf_iinc 3 (v := _ + (6 : Int32)) (lv2 := [(3, .int _), (0, .ref _), (1, .ref _), (2, .ref _)]) dL_law_1161 rfl (by rfl) (Nat.le_of_ble_eq_true rfl) rfl ?_
                                                    refine bf_goto 18 dL_law_1164 (by decide) ?_
                                                    refine bf_perm [1, 2, 3, 0] rfl ?_
                                                    exact ih _ _ _ hf
                                                  · have hf := (if_neg c182).symm.trans hf
                                                    refine bf_iconst (v := 0) dL_law_752 (by decide) ?_
                                                    exact absurd hf (by simp)
                                                · exact absurd ((if_neg c179).symm.trans hf) (by simp)
                                              · exact absurd ((if_neg c176).symm.trans hf) (by simp)
                                            · have hf := (if_neg c175).symm.trans hf
                                              rcases Decidable.em (((xs v3.toNatClampNeg) &&& (31 : Int32)) = 19) with c183 | c183
                                              · have hf := (if_pos c183).symm.trans hf
                                                refine bf_swIn 754 dL_law_33 (by rw [c183]; decide) (by rw [c183]; decide) (by rw [c183]; rfl) (by decide) ?_
                                                refine bf_aload_n 1 dL_law_754 rfl rfl ?_
                                                refine bf_aload_n 0 dL_law_755 rfl rfl ?_
                                                refine bf_iload_n 3 dL_law_756 rfl rfl ?_
                                                refine bf_iconst (v := 1) dL_law_757 (by decide) ?_
                                                refine bf_iadd dL_law_758 ?_
                                                rcases Decidable.em (bf_ok (v3 + (1 : Int32)) N) with c184 | c184
                                                · have hf := (if_pos c184).symm.trans hf
                                                  refine bf_sld dL_law_759 c184 ?_
                                                  refine bf_aload_n 0 dL_law_760 rfl rfl ?_
                                                  refine bf_iload_n 3 dL_law_761 rfl rfl ?_
                                                  refine bf_iconst (v := 2) dL_law_762 (by decide) ?_
                                                  refine bf_iadd dL_law_763 ?_
                                                  rcases Decidable.em (bf_ok (v3 + (2 : Int32)) N) with c185 | c185
                                                  · have hf := (if_pos c185).symm.trans hf
                                                    refine bf_sld dL_law_764 c185 ?_
                                                    obtain ⟨r187, e186, hf⟩ := bf_bind hf
                                                    have hCe186 := ok_X11_plan (Γ := Γ) (ad := ad) hk_flow e186
                                                    refine cv_L_97 1 dL_law_765 rfl ⟨Nat.le_of_ble_eq_true rfl, Nat.le_of_ble_eq_true rfl⟩ (Nat.le_of_ble_eq_true rfl) hk_flow hCe186 ?_
                                                    refine bf_aload_n 2 dL_law_768 rfl rfl ?_
                                                    refine bf_aload_n 0 dL_law_769 rfl rfl ?_
                                                    refine bf_iload_n 3 dL_law_770 rfl rfl ?_
                                                    refine bf_iconst (v := 1) dL_law_771 (by decide) ?_
                                                    refine bf_iadd dL_law_772 ?_
                                                    rcases Decidable.em (bf_ok (v3 + (1 : Int32)) N) with c188 | c188
                                                    · have hf := (if_pos c188).symm.trans hf
                                                      refine bf_sld dL_law_773 c188 ?_
                                                      refine bf_aload_n 0 dL_law_774 rfl rfl ?_
                                                      refine bf_iload_n 3 dL_law_775 rfl rfl ?_
                                                      refine bf_iconst (v := 2) dL_law_776 (by decide) ?_
                                                      refine bf_iadd dL_law_777 ?_
                                                      rcases Decidable.em (bf_ok (v3 + (2 : Int32)) N) with c189 | c189
                                                      · have hf := (if_pos c189).symm.trans hf
                                                        refine bf_sld dL_law_778 c189 ?_
                                                        obtain ⟨r191, e190, hf⟩ := bf_bind hf
                                                        have hCe190 := ok_X12_plan (Γ := Γ) (ad := ad) hk_model e190
                                                        refine cv_L_100 2 dL_law_779 rfl ⟨Nat.le_of_ble_eq_true rfl, Nat.le_of_ble_eq_true rfl⟩ (Nat.le_of_ble_eq_true rfl) hk_model hCe190 ?_
                                                        refine bf_icmp_eq 1161 dL_law_782 (by decide) (fun c192 => ?_) (fun c192 => ?_)
                                                        · have hf := (if_pos c192).symm.trans hf
                                                          refine bf_iinc 3 (v := _ + (6 : Int32)) (lv2 := [(3, .int _), (0, .ref _), (1, .ref _), (2, .ref _)]) dL_law_1161 rfl (by rfl) (Nat.le_of_ble_eq_true rfl) rfl ?_
                                                          refine bf_goto 18 dL_law_1164 (by decide) ?_
                                                          refine bf_perm [1, 2, 3, 0] rfl ?_
                                                          exact ih _ _ _ hf
                                                        · have hf := (if_neg c192).symm.trans hf
                                                          refine bf_iconst (v := 0) dL_law_785 (by decide) ?_
                                                          exact absurd hf (by simp)
                                                      · exact absurd ((if_neg c189).symm.trans hf) (by simp)
                                                    · exact absurd ((if_neg c188).symm.trans hf) (by simp)
                                                  · exact absurd ((if_neg c185).symm.trans hf) (by simp)
                                                · exact absurd ((if_neg c184).symm.trans hf) (by simp)
                                              · have hf := (if_neg c183).symm.trans hf
                                                rcases Decidable.em (((xs v3.toNatClampNeg) &&& (31 : Int32)) = 20) with c193 | c193
                                                · have hf := (if_pos c193).symm.trans hf
                                                  refine bf_swIn 787 dL_law_33 (by rw [c193]; decide) (by rw [c193]; decide) (by rw [c193]; rfl) (by decide) ?_
                                                  refine bf_aload_n 1 dL_law_787 rfl rfl ?_
                                                  refine bf_aload_n 0 dL_law_788 rfl rfl ?_
                                                  refine bf_iload_n 3 dL_law_789 rfl rfl ?_
                                                  refine bf_iconst (v := 1) dL_law_790 (by decide) ?_
                                                  refine bf_iadd dL_law_791 ?_
                                                  rcases Decidable.em (bf_ok (v3 + (1 : Int32)) N) with c194 | c194
                                                  · have hf := (if_pos c194).symm.trans hf
                                                    refine bf_sld dL_law_792 c194 ?_
                                                    obtain ⟨r196, e195, hf⟩ := bf_bind hf
                                                    have hCe195 := ok_X11_ends (Γ := Γ) (ad := ad) hk_flow e195
                                                    refine cv_L_101 7 dL_law_793 rfl ⟨Nat.le_of_ble_eq_true rfl, Nat.le_of_ble_eq_true rfl⟩ (Nat.le_of_ble_eq_true rfl) hk_flow hCe195 ?_
                                                    refine bf_aload_n 2 dL_law_796 rfl rfl ?_
                                                    refine bf_aload_n 0 dL_law_797 rfl rfl ?_
                                                    refine bf_iload_n 3 dL_law_798 rfl rfl ?_
                                                    refine bf_iconst (v := 1) dL_law_799 (by decide) ?_
                                                    refine bf_iadd dL_law_800 ?_
                                                    rcases Decidable.em (bf_ok (v3 + (1 : Int32)) N) with c197 | c197
                                                    · have hf := (if_pos c197).symm.trans hf
                                                      refine bf_sld dL_law_801 c197 ?_
                                                      obtain ⟨r199, e198, hf⟩ := bf_bind hf
                                                      have hCe198 := ok_X12_ends (Γ := Γ) (ad := ad) hk_model e198
                                                      refine cv_L_104 7 dL_law_802 rfl ⟨Nat.le_of_ble_eq_true rfl, Nat.le_of_ble_eq_true rfl⟩ (Nat.le_of_ble_eq_true rfl) hk_model hCe198 ?_
                                                      refine bf_icmp_eq 1161 dL_law_805 (by decide) (fun c200 => ?_) (fun c200 => ?_)
                                                      · have hf := (if_pos c200).symm.trans hf
                                                        refine bf_iinc 3 (v := _ + (6 : Int32)) (lv2 := [(3, .int _), (0, .ref _), (1, .ref _), (2, .ref _)]) dL_law_1161 rfl (by rfl) (Nat.le_of_ble_eq_true rfl) rfl ?_
                                                        refine bf_goto 18 dL_law_1164 (by decide) ?_
                                                        refine bf_perm [1, 2, 3, 0] rfl ?_
                                                        exact ih _ _ _ hf
                                                      · have hf := (if_neg c200).symm.trans hf
                                                        refine bf_iconst (v := 0) dL_law_808 (by decide) ?_
                                                        exact absurd hf (by simp)
                                                    · exact absurd ((if_neg c197).symm.trans hf) (by simp)
                                                  · exact absurd ((if_neg c194).symm.trans hf) (by simp)
                                                · have hf := (if_neg c193).symm.trans hf
                                                  rcases Decidable.em (((xs v3.toNatClampNeg) &&& (31 : Int32)) = 21) with c201 | c201
                                                  · have hf := (if_pos c201).symm.trans hf
                                                    refine bf_swIn 810 dL_law_33 (by rw [c201]; decide) (by rw [c201]; decide) (by rw [c201]; rfl) (by decide) ?_
                                                    refine bf_aload_n 1 dL_law_810 rfl rfl ?_
                                                    refine bf_aload_n 0 dL_law_811 rfl rfl ?_
                                                    refine bf_iload_n 3 dL_law_812 rfl rfl ?_
                                                    refine bf_iconst (v := 1) dL_law_813 (by decide) ?_
                                                    refine bf_iadd dL_law_814 ?_
                                                    rcases Decidable.em (bf_ok (v3 + (1 : Int32)) N) with c202 | c202
                                                    · have hf := (if_pos c202).symm.trans hf
                                                      refine bf_sld dL_law_815 c202 ?_
                                                      refine bf_aload_n 0 dL_law_816 rfl rfl ?_
                                                      refine bf_iload_n 3 dL_law_817 rfl rfl ?_
                                                      refine bf_iconst (v := 2) dL_law_818 (by decide) ?_
                                                      refine bf_iadd dL_law_819 ?_
                                                      rcases Decidable.em (bf_ok (v3 + (2 : Int32)) N) with c203 | c203
                                                      · have hf := (if_pos c203).symm.trans hf
                                                        refine bf_sld dL_law_820 c203 ?_
                                                        obtain ⟨r205, e204, hf⟩ := bf_bind hf
                                                        have hCe204 := ok_X11_book (Γ := Γ) (ad := ad) hk_flow e204
                                                        refine cv_L_105 1 dL_law_821 rfl ⟨Nat.le_of_ble_eq_true rfl, Nat.le_of_ble_eq_true rfl⟩ (Nat.le_of_ble_eq_true rfl) hk_flow hCe204 ?_
                                                        refine bf_aload_n 2 dL_law_824 rfl rfl ?_
                                                        refine bf_aload_n 0 dL_law_825 rfl rfl ?_
                                                        refine bf_iload_n 3 dL_law_826 rfl rfl ?_
                                                        refine bf_iconst (v := 1) dL_law_827 (by decide) ?_
                                                        refine bf_iadd dL_law_828 ?_
                                                        rcases Decidable.em (bf_ok (v3 + (1 : Int32)) N) with c206 | c206
                                                        · have hf := (if_pos c206).symm.trans hf
                                                          refine bf_sld dL_law_829 c206 ?_
                                                          refine bf_aload_n 0 dL_law_830 rfl rfl ?_
                                                          refine bf_iload_n 3 dL_law_831 rfl rfl ?_
                                                          refine bf_iconst (v := 2) dL_law_832 (by decide) ?_
                                                          refine bf_iadd dL_law_833 ?_
                                                          rcases Decidable.em (bf_ok (v3 + (2 : Int32)) N) with c207 | c207
                                                          · have hf := (if_pos c207).symm.trans hf
                                                            refine bf_sld dL_law_834 c207 ?_
                                                            obtain ⟨r209, e208, hf⟩ := bf_bind hf
                                                            have hCe208 := ok_X12_book (Γ := Γ) (ad := ad) hk_model e208
                                                            refine cv_L_108 2 dL_law_835 rfl ⟨Nat.le_of_ble_eq_true rfl, Nat.le_of_ble_eq_true rfl⟩ (Nat.le_of_ble_eq_true rfl) hk_model hCe208 ?_
                                                            refine bf_icmp_eq 1161 dL_law_838 (by decide) (fun c210 => ?_) (fun c210 => ?_)
                                                            · have hf := (if_pos c210).symm.trans hf
                                                              refine bf_iinc 3 (v := _ + (6 : Int32)) (lv2 := [(3, .int _), (0, .ref _), (1, .ref _), (2, .ref _)]) dL_law_1161 rfl (by rfl) (Nat.le_of_ble_eq_true rfl) rfl ?_
                                                              refine bf_goto 18 dL_law_1164 (by decide) ?_
                                                              refine bf_perm [1, 2, 3, 0] rfl ?_
                                                              exact ih _ _ _ hf
                                                            · have hf := (if_neg c210).symm.trans hf
                                                              refine bf_iconst (v := 0) dL_law_841 (by decide) ?_
                                                              exact absurd hf (by simp)
                                                          · exact absurd ((if_neg c207).symm.trans hf) (by simp)
                                                        · exact absurd ((if_neg c206).symm.trans hf) (by simp)
                                                      · exact absurd ((if_neg c203).symm.trans hf) (by simp)
                                                    · exact absurd ((if_neg c202).symm.trans hf) (by simp)
                                                  · have hf := (if_neg c201).symm.trans hf
                                                    rcases Decidable.em (((xs v3.toNatClampNeg) &&& (31 : Int32)) = 22) with c211 | c211
                                                    · have hf := (if_pos c211).symm.trans hf
                                                      refine bf_swIn 843 dL_law_33 (by rw [c211]; decide) (by rw [c211]; decide) (by rw [c211]; rfl) (by decide) ?_
                                                      refine bf_aload_n 1 dL_law_843 rfl rfl ?_
                                                      obtain ⟨r213, e212, hf⟩ := bf_bind hf
                                                      have hCe212 := ok_X11_looked (Γ := Γ) (ad := ad) hk_flow e212
                                                      refine cv_L_109 1 dL_law_844 rfl ⟨Nat.le_of_ble_eq_true rfl, Nat.le_of_ble_eq_true rfl⟩ (Nat.le_of_ble_eq_true rfl) hk_flow hCe212 ?_
                                                      refine bf_aload_n 2 dL_law_847 rfl rfl ?_
                                                      obtain ⟨r215, e214, hf⟩ := bf_bind hf
                                                      have hCe214 := ok_X12_looked (Γ := Γ) (ad := ad) hk_model e214
                                                      refine cv_L_112 2 dL_law_848 rfl ⟨Nat.le_of_ble_eq_true rfl, Nat.le_of_ble_eq_true rfl⟩ (Nat.le_of_ble_eq_true rfl) hk_model hCe214 ?_
                                                      refine bf_icmp_eq 1161 dL_law_851 (by decide) (fun c216 => ?_) (fun c216 => ?_)
                                                      · have hf := (if_pos c216).symm.trans hf
                                                        refine bf_iinc 3 (v := _ + (6 : Int32)) (lv2 := [(3, .int _), (0, .ref _), (1, .ref _), (2, .ref _)]) dL_law_1161 rfl (by rfl) (Nat.le_of_ble_eq_true rfl) rfl ?_
                                                        refine bf_goto 18 dL_law_1164 (by decide) ?_
                                                        refine bf_perm [1, 2, 3, 0] rfl ?_
                                                        exact ih _ _ _ hf
                                                      · have hf := (if_neg c216).symm.trans hf
                                                        refine bf_iconst (v := 0) dL_law_854 (by decide) ?_
                                                        exact absurd hf (by simp)
                                                    · have hf := (if_neg c211).symm.trans hf
                                                      rcases Decidable.em (((xs v3.toNatClampNeg) &&& (31 : Int32)) = 23) with c217 | c217
                                                      · have hf := (if_pos c217).symm.trans hf
                                                        refine bf_swIn 856 dL_law_33 (by rw [c217]; decide) (by rw [c217]; decide) (by rw [c217]; rfl) (by decide) ?_
                                                        refine bf_aload_n 1 dL_law_856 rfl rfl ?_
                                                        refine bf_aload_n 0 dL_law_857 rfl rfl ?_
                                                        refine bf_iload_n 3 dL_law_858 rfl rfl ?_
                                                        refine bf_iconst (v := 1) dL_law_859 (by decide) ?_
                                                        refine bf_iadd dL_law_860 ?_
                                                        rcases Decidable.em (bf_ok (v3 + (1 : Int32)) N) with c218 | c218
                                                        · have hf := (if_pos c218).symm.trans hf
                                                          refine bf_sld dL_law_861 c218 ?_
                                                          refine bf_aload_n 0 dL_law_862 rfl rfl ?_
                                                          refine bf_iload_n 3 dL_law_863 rfl rfl ?_
                                                          refine bf_iconst (v := 2) dL_law_864 (by decide) ?_
                                                          refine bf_iadd dL_law_865 ?_
                                                          rcases Decidable.em (bf_ok (v3 + (2 : Int32)) N) with c219 | c219
                                                          · have hf := (if_pos c219).symm.trans hf
                                                            refine bf_sld dL_law_866 c219 ?_
                                                            refine bf_aload_n 0 dL_law_867 rfl rfl ?_
                                                            refine bf_iload_n 3 dL_law_868 rfl rfl ?_
                                                            refine bf_iconst (v := 3) dL_law_869 (by decide) ?_
                                                            refine bf_iadd dL_law_870 ?_
                                                            rcases Decidable.em (bf_ok (v3 + (3 : Int32)) N) with c220 | c220
                                                            · have hf := (if_pos c220).symm.trans hf
                                                              refine bf_sld dL_law_871 c220 ?_
                                                              obtain ⟨r222, e221, hf⟩ := bf_bind hf
                                                              have hCe221 := ok_X11_judge (Γ := Γ) (ad := ad) hk_flow e221
                                                              refine cv_L_113 2 dL_law_872 rfl ⟨Nat.le_of_ble_eq_true rfl, Nat.le_of_ble_eq_true rfl⟩ (Nat.le_of_ble_eq_true rfl) hk_flow hCe221 ?_
                                                              refine bf_aload_n 2 dL_law_875 rfl rfl ?_
                                                              refine bf_aload_n 0 dL_law_876 rfl rfl ?_
                                                              refine bf_iload_n 3 dL_law_877 rfl rfl ?_
                                                              refine bf_iconst (v := 1) dL_law_878 (by decide) ?_
                                                              refine bf_iadd dL_law_879 ?_
                                                              rcases Decidable.em (bf_ok (v3 + (1 : Int32)) N) with c223 | c223
                                                              · have hf := (if_pos c223).symm.trans hf
                                                                refine bf_sld dL_law_880 c223 ?_
                                                                refine bf_aload_n 0 dL_law_881 rfl rfl ?_
                                                                refine bf_iload_n 3 dL_law_882 rfl rfl ?_
                                                                refine bf_iconst (v := 2) dL_law_883 (by decide) ?_
                                                                refine bf_iadd dL_law_884 ?_
                                                                rcases Decidable.em (bf_ok (v3 + (2 : Int32)) N) with c224 | c224
                                                                · have hf := (if_pos c224).symm.trans hf
                                                                  refine bf_sld dL_law_885 c224 ?_
                                                                  refine bf_aload_n 0 dL_law_886 rfl rfl ?_
                                                                  refine bf_iload_n 3 dL_law_887 rfl rfl ?_
                                                                  refine bf_iconst (v := 3) dL_law_888 (by decide) ?_
                                                                  refine bf_iadd dL_law_889 ?_
                                                                  rcases Decidable.em (bf_ok (v3 + (3 : Int32)) N) with c225 | c225
                                                                  · have hf := (if_pos c225).symm.trans hf
                                                                    refine bf_sld dL_law_890 c225 ?_
                                                                    obtain ⟨r227, e226, hf⟩ := bf_bind hf
                                                                    have hCe226 := ok_X12_judge (Γ := Γ) (ad := ad) hk_model e226
                                                                    refine cv_L_116 2 dL_law_891 rfl ⟨Nat.le_of_ble_eq_true rfl, Nat.le_of_ble_eq_true rfl⟩ (Nat.le_of_ble_eq_true rfl) hk_model hCe226 ?_
                                                                    refine bf_icmp_eq 1161 dL_law_894 (by decide) (fun c228 => ?_) (fun c228 => ?_)
                                                                    · have hf := (if_pos c228).symm.trans hf
                                                                      refine bf_iinc 3 (v := _ + (6 : Int32)) (lv2 := [(3, .int _), (0, .ref _), (1, .ref _), (2, .ref _)]) dL_law_1161 rfl (by rfl) (Nat.le_of_ble_eq_true rfl) rfl ?_
                                                                      refine bf_goto 18 dL_law_1164 (by decide) ?_
                                                                      refine bf_perm [1, 2, 3, 0] rfl ?_
                                                                      exact ih _ _ _ hf
                                                                    · have hf := (if_neg c228).symm.trans hf
                                                                      refine bf_iconst (v := 0) dL_law_897 (by decide) ?_
                                                                      exact absurd hf (by simp)
                                                                  · exact absurd ((if_neg c225).symm.trans hf) (by simp)
                                                                · exact absurd ((if_neg c224).symm.trans hf) (by simp)
                                                              · exact absurd ((if_neg c223).symm.trans hf) (by simp)
                                                            · exact absurd ((if_neg c220).symm.trans hf) (by simp)
                                                          · exact absurd ((if_neg c219).symm.trans hf) (by simp)
                                                        · exact absurd ((if_neg c218).symm.trans hf) (by simp)
                                                      · have hf := (if_neg c217).symm.trans hf
                                                        rcases Decidable.em (((xs v3.toNatClampNeg) &&& (31 : Int32)) = 24) with c229 | c229
                                                        · have hf := (if_pos c229).symm.trans hf
                                                          refine bf_swIn 899 dL_law_33 (by rw [c229]; decide) (by rw [c229]; decide) (by rw [c229]; rfl) (by decide) ?_
                                                          refine bf_aload_n 1 dL_law_899 rfl rfl ?_
                                                          obtain ⟨r231, e230, hf⟩ := bf_bind hf
                                                          have hCe230 := ok_X11_image (Γ := Γ) (ad := ad) hk_flow e230
                                                          refine cv_L_117 4 dL_law_900 rfl ⟨Nat.le_of_ble_eq_true rfl, Nat.le_of_ble_eq_true rfl⟩ (Nat.le_of_ble_eq_true rfl) hk_flow hCe230 ?_
                                                          refine bf_aload_n 2 dL_law_903 rfl rfl ?_
                                                          obtain ⟨r233, e232, hf⟩ := bf_bind hf
                                                          have hCe232 := ok_X12_image (Γ := Γ) (ad := ad) hk_model e232
                                                          refine cv_L_120 1 dL_law_904 rfl ⟨Nat.le_of_ble_eq_true rfl, Nat.le_of_ble_eq_true rfl⟩ (Nat.le_of_ble_eq_true rfl) hk_model hCe232 ?_
                                                          refine bf_icmp_eq 1161 dL_law_907 (by decide) (fun c234 => ?_) (fun c234 => ?_)
                                                          · have hf := (if_pos c234).symm.trans hf
                                                            refine bf_iinc 3 (v := _ + (6 : Int32)) (lv2 := [(3, .int _), (0, .ref _), (1, .ref _), (2, .ref _)]) dL_law_1161 rfl (by rfl) (Nat.le_of_ble_eq_true rfl) rfl ?_
                                                            refine bf_goto 18 dL_law_1164 (by decide) ?_
                                                            refine bf_perm [1, 2, 3, 0] rfl ?_
                                                            exact ih _ _ _ hf
                                                          · have hf := (if_neg c234).symm.trans hf
                                                            refine bf_iconst (v := 0) dL_law_910 (by decide) ?_
                                                            exact absurd hf (by simp)
                                                        · have hf := (if_neg c229).symm.trans hf
                                                          rcases Decidable.em (((xs v3.toNatClampNeg) &&& (31 : Int32)) = 25) with c235 | c235
                                                          · have hf := (if_pos c235).symm.trans hf
                                                            refine bf_swIn 912 dL_law_33 (by rw [c235]; decide) (by rw [c235]; decide) (by rw [c235]; rfl) (by decide) ?_
                                                            refine bf_aload_n 1 dL_law_912 rfl rfl ?_
                                                            obtain ⟨r237, e236, hf⟩ := bf_bind hf
                                                            have hCe236 := ok_X11_undo (Γ := Γ) (ad := ad) hk_flow e236
                                                            refine cv_L_121 4 dL_law_913 rfl ⟨Nat.le_of_ble_eq_true rfl, Nat.le_of_ble_eq_true rfl⟩ (Nat.le_of_ble_eq_true rfl) hk_flow hCe236 ?_
                                                            refine bf_aload_n 2 dL_law_916 rfl rfl ?_
                                                            obtain ⟨r239, e238, hf⟩ := bf_bind hf
                                                            have hCe238 := ok_X12_undo (Γ := Γ) (ad := ad) hk_model e238
                                                            refine cv_L_124 1 dL_law_917 rfl ⟨Nat.le_of_ble_eq_true rfl, Nat.le_of_ble_eq_true rfl⟩ (Nat.le_of_ble_eq_true rfl) hk_model hCe238 ?_
                                                            refine bf_icmp_eq 1161 dL_law_920 (by decide) (fun c240 => ?_) (fun c240 => ?_)
                                                            · have hf := (if_pos c240).symm.trans hf
                                                              refine bf_iinc 3 (v := _ + (6 : Int32)) (lv2 := [(3, .int _), (0, .ref _), (1, .ref _), (2, .ref _)]) dL_law_1161 rfl (by rfl) (Nat.le_of_ble_eq_true rfl) rfl ?_
                                                              refine bf_goto 18 dL_law_1164 (by decide) ?_
                                                              refine bf_perm [1, 2, 3, 0] rfl ?_
                                                              exact ih _ _ _ hf
                                                            · have hf := (if_neg c240).symm.trans hf
                                                              refine bf_iconst (v := 0) dL_law_923 (by decide) ?_
                                                              exact absurd hf (by simp)
                                                          · have hf := (if_neg c235).symm.trans hf
                                                            rcases Decidable.em (((xs v3.toNatClampNeg) &&& (31 : Int32)) = 26) with c241 | c241
                                                            · have hf := (if_pos c241).symm.trans hf
                                                              refine bf_swIn 925 dL_law_33 (by rw [c241]; decide) (by rw [c241]; decide) (by rw [c241]; rfl) (by decide) ?_
                                                              refine bf_aload_n 1 dL_law_925 rfl rfl ?_
                                                              refine bf_aload_n 0 dL_law_926 rfl rfl ?_
                                                              refine bf_iload_n 3 dL_law_927 rfl rfl ?_
                                                              refine bf_iconst (v := 1) dL_law_928 (by decide) ?_
                                                              refine bf_iadd dL_law_929 ?_
                                                              rcases Decidable.em (bf_ok (v3 + (1 : Int32)) N) with c242 | c242
                                                              · have hf := (if_pos c242).symm.trans hf
                                                                refine bf_sld dL_law_930 c242 ?_
                                                                obtain ⟨r244, e243, hf⟩ := bf_bind hf
                                                                have hCe243 := ok_X11_count (Γ := Γ) (ad := ad) hk_flow e243
                                                                refine cv_L_125 1 dL_law_931 rfl ⟨Nat.le_of_ble_eq_true rfl, Nat.le_of_ble_eq_true rfl⟩ (Nat.le_of_ble_eq_true rfl) hk_flow hCe243 ?_
                                                                refine bf_aload_n 2 dL_law_934 rfl rfl ?_
                                                                refine bf_aload_n 0 dL_law_935 rfl rfl ?_
                                                                refine bf_iload_n 3 dL_law_936 rfl rfl ?_
                                                                refine bf_iconst (v := 1) dL_law_937 (by decide) ?_
                                                                refine bf_iadd dL_law_938 ?_
                                                                rcases Decidable.em (bf_ok (v3 + (1 : Int32)) N) with c245 | c245
                                                                · have hf := (if_pos c245).symm.trans hf
                                                                  refine bf_sld dL_law_939 c245 ?_
                                                                  obtain ⟨r247, e246, hf⟩ := bf_bind hf
                                                                  have hCe246 := ok_X12_count (Γ := Γ) (ad := ad) hk_model e246
                                                                  refine cv_L_128 3 dL_law_940 rfl ⟨Nat.le_of_ble_eq_true rfl, Nat.le_of_ble_eq_true rfl⟩ (Nat.le_of_ble_eq_true rfl) hk_model hCe246 ?_
                                                                  refine bf_icmp_eq 1161 dL_law_943 (by decide) (fun c248 => ?_) (fun c248 => ?_)
                                                                  · have hf := (if_pos c248).symm.trans hf
                                                                    refine bf_iinc 3 (v := _ + (6 : Int32)) (lv2 := [(3, .int _), (0, .ref _), (1, .ref _), (2, .ref _)]) dL_law_1161 rfl (by rfl) (Nat.le_of_ble_eq_true rfl) rfl ?_
                                                                    refine bf_goto 18 dL_law_1164 (by decide) ?_
                                                                    refine bf_perm [1, 2, 3, 0] rfl ?_
                                                                    exact ih _ _ _ hf
                                                                  · have hf := (if_neg c248).symm.trans hf
                                                                    refine bf_iconst (v := 0) dL_law_946 (by decide) ?_
                                                                    exact absurd hf (by simp)
                                                                · exact absurd ((if_neg c245).symm.trans hf) (by simp)
                                                              · exact absurd ((if_neg c242).symm.trans hf) (by simp)
                                                            · have hf := (if_neg c241).symm.trans hf
                                                              rcases Decidable.em (((xs v3.toNatClampNeg) &&& (31 : Int32)) = 27) with c249 | c249
                                                              · have hf := (if_pos c249).symm.trans hf
                                                                refine bf_swIn 948 dL_law_33 (by rw [c249]; decide) (by rw [c249]; decide) (by rw [c249]; rfl) (by decide) ?_
                                                                refine bf_aload_n 1 dL_law_948 rfl rfl ?_
                                                                refine bf_aload_n 0 dL_law_949 rfl rfl ?_
                                                                refine bf_iload_n 3 dL_law_950 rfl rfl ?_
                                                                refine bf_iconst (v := 1) dL_law_951 (by decide) ?_
                                                                refine bf_iadd dL_law_952 ?_
                                                                rcases Decidable.em (bf_ok (v3 + (1 : Int32)) N) with c250 | c250
                                                                · have hf := (if_pos c250).symm.trans hf
                                                                  refine bf_sld dL_law_953 c250 ?_
                                                                  refine bf_aload_n 0 dL_law_954 rfl rfl ?_
                                                                  refine bf_iload_n 3 dL_law_955 rfl rfl ?_
                                                                  refine bf_iconst (v := 2) dL_law_956 (by decide) ?_
                                                                  refine bf_iadd dL_law_957 ?_
                                                                  rcases Decidable.em (bf_ok (v3 + (2 : Int32)) N) with c251 | c251
                                                                  · have hf := (if_pos c251).symm.trans hf
                                                                    refine bf_sld dL_law_958 c251 ?_
                                                                    refine bf_aload_n 0 dL_law_959 rfl rfl ?_
                                                                    refine bf_iload_n 3 dL_law_960 rfl rfl ?_
                                                                    refine bf_iconst (v := 3) dL_law_961 (by decide) ?_
                                                                    refine bf_iadd dL_law_962 ?_
                                                                    rcases Decidable.em (bf_ok (v3 + (3 : Int32)) N) with c252 | c252
                                                                    · have hf := (if_pos c252).symm.trans hf
                                                                      refine bf_sld dL_law_963 c252 ?_
                                                                      obtain ⟨r254, e253, hf⟩ := bf_bind hf
                                                                      have hCe253 := ok_X11_tape (Γ := Γ) (ad := ad) hk_flow e253
                                                                      refine cv_L_129 2 dL_law_964 rfl ⟨Nat.le_of_ble_eq_true rfl, Nat.le_of_ble_eq_true rfl⟩ (Nat.le_of_ble_eq_true rfl) hk_flow hCe253 ?_
                                                                      refine bf_aload_n 2 dL_law_967 rfl rfl ?_
                                                                      refine bf_aload_n 0 dL_law_968 rfl rfl ?_
                                                                      refine bf_iload_n 3 dL_law_969 rfl rfl ?_
                                                                      refine bf_iconst (v := 1) dL_law_970 (by decide) ?_
                                                                      refine bf_iadd dL_law_971 ?_
                                                                      rcases Decidable.em (bf_ok (v3 + (1 : Int32)) N) with c255 | c255
                                                                      · have hf := (if_pos c255).symm.trans hf
                                                                        refine bf_sld dL_law_972 c255 ?_
                                                                        refine bf_aload_n 0 dL_law_973 rfl rfl ?_
                                                                        refine bf_iload_n 3 dL_law_974 rfl rfl ?_
                                                                        refine bf_iconst (v := 2) dL_law_975 (by decide) ?_
                                                                        refine bf_iadd dL_law_976 ?_
                                                                        rcases Decidable.em (bf_ok (v3 + (2 : Int32)) N) with c256 | c256
                                                                        · have hf := (if_pos c256).symm.trans hf
                                                                          refine bf_sld dL_law_977 c256 ?_
                                                                          refine bf_aload_n 0 dL_law_978 rfl rfl ?_
                                                                          refine bf_iload_n 3 dL_law_979 rfl rfl ?_
                                                                          refine bf_iconst (v := 3) dL_law_980 (by decide) ?_
                                                                          refine bf_iadd dL_law_981 ?_
                                                                          rcases Decidable.em (bf_ok (v3 + (3 : Int32)) N) with c257 | c257
                                                                          · have hf := (if_pos c257).symm.trans hf
                                                                            refine bf_sld dL_law_982 c257 ?_
                                                                            obtain ⟨r259, e258, hf⟩ := bf_bind hf
                                                                            have hCe258 := ok_X12_tape (Γ := Γ) (ad := ad) hk_model e258
                                                                            refine cv_L_132 1 dL_law_983 rfl ⟨Nat.le_of_ble_eq_true rfl, Nat.le_of_ble_eq_true rfl⟩ (Nat.le_of_ble_eq_true rfl) hk_model hCe258 ?_
                                                                            refine bf_icmp_eq 1161 dL_law_986 (by decide) (fun c260 => ?_) (fun c260 => ?_)
                                                                            · have hf := (if_pos c260).symm.trans hf
                                                                              refine bf_iinc 3 (v := _ + (6 : Int32)) (lv2 := [(3, .int _), (0, .ref _), (1, .ref _), (2, .ref _)]) dL_law_1161 rfl (by rfl) (Nat.le_of_ble_eq_true rfl) rfl ?_
                                                                              refine bf_goto 18 dL_law_1164 (by decide) ?_
                                                                              refine bf_perm [1, 2, 3, 0] rfl ?_
                                                                              exact ih _ _ _ hf
                                                                            · have hf := (if_neg c260).symm.trans hf
                                                                              refine bf_iconst (v := 0) dL_law_989 (by decide) ?_
                                                                              exact absurd hf (by simp)
                                                                          · exact absurd ((if_neg c257).symm.trans hf) (by simp)
                                                                        · exact absurd ((if_neg c256).symm.trans hf) (by simp)
                                                                      · exact absurd ((if_neg c255).symm.trans hf) (by simp)
                                                                    · exact absurd ((if_neg c252).symm.trans hf) (by simp)
                                                                  · exact absurd ((if_neg c251).symm.trans hf) (by simp)
                                                                · exact absurd ((if_neg c250).symm.trans hf) (by simp)
                                                              · have hf := (if_neg c249).symm.trans hf
                                                                rcases Decidable.em (((xs v3.toNatClampNeg) &&& (31 : Int32)) = 28) with c261 | c261
                                                                · have hf := (if_pos c261).symm.trans hf
                                                                  refine bf_swIn 991 dL_law_33 (by rw [c261]; decide) (by rw [c261]; decide) (by rw [c261]; rfl) (by decide) ?_
                                                                  refine bf_aload_n 1 dL_law_991 rfl rfl ?_
                                                                  refine bf_aload_n 0 dL_law_992 rfl rfl ?_
                                                                  refine bf_iload_n 3 dL_law_993 rfl rfl ?_
                                                                  refine bf_iconst (v := 1) dL_law_994 (by decide) ?_
                                                                  refine bf_iadd dL_law_995 ?_
                                                                  rcases Decidable.em (bf_ok (v3 + (1 : Int32)) N) with c262 | c262
                                                                  · have hf := (if_pos c262).symm.trans hf
                                                                    refine bf_sld dL_law_996 c262 ?_
                                                                    refine bf_aload_n 0 dL_law_997 rfl rfl ?_
                                                                    refine bf_iload_n 3 dL_law_998 rfl rfl ?_
                                                                    refine bf_iconst (v := 2) dL_law_999 (by decide) ?_
                                                                    refine bf_iadd dL_law_1000 ?_
                                                                    rcases Decidable.em (bf_ok (v3 + (2 : Int32)) N) with c263 | c263
                                                                    · have hf := (if_pos c263).symm.trans hf
                                                                      refine bf_sld dL_law_1001 c263 ?_
                                                                      refine bf_aload_n 0 dL_law_1002 rfl rfl ?_
                                                                      refine bf_iload_n 3 dL_law_1003 rfl rfl ?_
                                                                      refine bf_iconst (v := 3) dL_law_1004 (by decide) ?_
                                                                      refine bf_iadd dL_law_1005 ?_
                                                                      rcases Decidable.em (bf_ok (v3 + (3 : Int32)) N) with c264 | c264
                                                                      · have hf := (if_pos c264).symm.trans hf
                                                                        refine bf_sld dL_law_1006 c264 ?_
                                                                        refine bf_i2l dL_law_1007 ?_
                                                                        refine bf_bipush (v := 32) dL_law_1008 (by decide) ?_
                                                                        refine bf_lshl dL_law_1010 ?_
                                                                        refine bf_aload_n 0 dL_law_1011 rfl rfl ?_
                                                                        refine bf_iload_n 3 dL_law_1012 rfl rfl ?_
                                                                        refine bf_iconst (v := 4) dL_law_1013 (by decide) ?_
                                                                        refine bf_iadd dL_law_1014 ?_
                                                                        rcases Decidable.em (bf_ok (v3 + (4 : Int32)) N) with c265 | c265
                                                                        · have hf := (if_pos c265).symm.trans hf
                                                                          refine bf_sld dL_law_1015 c265 ?_
                                                                          refine bf_i2l dL_law_1016 ?_
                                                                          refine bf_ldc2 dL_law_1017 wk_L_133 ?_
                                                                          refine bf_land dL_law_1020 ?_
                                                                          refine bf_lor dL_law_1021 ?_
                                                                          obtain ⟨r267, e266, hf⟩ := bf_bind hf
                                                                          have hCe266 := ok_X11_item (Γ := Γ) (ad := ad) hk_flow e266
                                                                          refine cv_L_135 2 dL_law_1022 rfl ⟨Nat.le_of_ble_eq_true rfl, Nat.le_of_ble_eq_true rfl⟩ (Nat.le_of_ble_eq_true rfl) hk_flow hCe266 ?_
                                                                          refine bf_aload_n 2 dL_law_1025 rfl rfl ?_
                                                                          refine bf_aload_n 0 dL_law_1026 rfl rfl ?_
                                                                          refine bf_iload_n 3 dL_law_1027 rfl rfl ?_
                                                                          refine bf_iconst (v := 1) dL_law_1028 (by decide) ?_
                                                                          refine bf_iadd dL_law_1029 ?_
                                                                          rcases Decidable.em (bf_ok (v3 + (1 : Int32)) N) with c268 | c268
                                                                          · have hf := (if_pos c268).symm.trans hf
                                                                            refine bf_sld dL_law_1030 c268 ?_
                                                                            refine bf_aload_n 0 dL_law_1031 rfl rfl ?_
                                                                            refine bf_iload_n 3 dL_law_1032 rfl rfl ?_
                                                                            refine bf_iconst (v := 2) dL_law_1033 (by decide) ?_
                                                                            refine bf_iadd dL_law_1034 ?_
                                                                            rcases Decidable.em (bf_ok (v3 + (2 : Int32)) N) with c269 | c269
                                                                            · have hf := (if_pos c269).symm.trans hf
                                                                              refine bf_sld dL_law_1035 c269 ?_
                                                                              refine bf_aload_n 0 dL_law_1036 rfl rfl ?_
                                                                              refine bf_iload_n 3 dL_law_1037 rfl rfl ?_
                                                                              refine bf_iconst (v := 3) dL_law_1038 (by decide) ?_
                                                                              refine bf_iadd dL_law_1039 ?_
                                                                              rcases Decidable.em (bf_ok (v3 + (3 : Int32)) N) with c270 | c270
                                                                              · have hf := (if_pos c270).symm.trans hf
                                                                                refine bf_sld dL_law_1040 c270 ?_
                                                                                refine bf_i2l dL_law_1041 ?_
                                                                                refine bf_bipush (v := 32) dL_law_1042 (by decide) ?_
                                                                                refine bf_lshl dL_law_1044 ?_
                                                                                refine bf_aload_n 0 dL_law_1045 rfl rfl ?_
                                                                                refine bf_iload_n 3 dL_law_1046 rfl rfl ?_
                                                                                refine bf_iconst (v := 4) dL_law_1047 (by decide) ?_
                                                                                refine bf_iadd dL_law_1048 ?_
                                                                                rcases Decidable.em (bf_ok (v3 + (4 : Int32)) N) with c271 | c271
                                                                                · have hf := (if_pos c271).symm.trans hf
                                                                                  refine bf_sld dL_law_1049 c271 ?_
                                                                                  refine bf_i2l dL_law_1050 ?_
                                                                                  refine bf_ldc2 dL_law_1051 wk_L_133 ?_
                                                                                  refine bf_land dL_law_1054 ?_
                                                                                  refine bf_lor dL_law_1055 ?_
                                                                                  obtain ⟨r273, e272, hf⟩ := bf_bind hf
                                                                                  have hCe272 := ok_X12_item (Γ := Γ) (ad := ad) hk_model e272
                                                                                  refine cv_L_139 1 dL_law_1056 rfl ⟨Nat.le_of_ble_eq_true rfl, Nat.le_of_ble_eq_true rfl⟩ (Nat.le_of_ble_eq_true rfl) hk_model hCe272 ?_
                                                                                  refine bf_icmp_eq 1161 dL_law_1059 (by decide) (fun c274 => ?_) (fun c274 => ?_)
                                                                                  · have hf := (if_pos c274).symm.trans hf
                                                                                    refine bf_iinc 3 (v := _ + (6 : Int32)) (lv2 := [(3, .int _), (0, .ref _), (1, .ref _), (2, .ref _)]) dL_law_1161 rfl (by rfl) (Nat.le_of_ble_eq_true rfl) rfl ?_
                                                                                    refine bf_goto 18 dL_law_1164 (by decide) ?_
                                                                                    refine bf_perm [1, 2, 3, 0] rfl ?_
                                                                                    exact ih _ _ _ hf
                                                                                  · have hf := (if_neg c274).symm.trans hf
                                                                                    refine bf_iconst (v := 0) dL_law_1062 (by decide) ?_
                                                                                    exact absurd hf (by simp)
                                                                                · exact absurd ((if_neg c271).symm.trans hf) (by simp)
                                                                              · exact absurd ((if_neg c270).symm.trans hf) (by simp)
                                                                            · exact absurd ((if_neg c269).symm.trans hf) (by simp)
                                                                          · exact absurd ((if_neg c268).symm.trans hf) (by simp)
                                                                        · exact absurd ((if_neg c265).symm.trans hf) (by simp)
                                                                      · exact absurd ((if_neg c264).symm.trans hf) (by simp)
                                                                    · exact absurd ((if_neg c263).symm.trans hf) (by simp)
                                                                  · exact absurd ((if_neg c262).symm.trans hf) (by simp)
                                                                · have hf := (if_neg c261).symm.trans hf
                                                                  rcases Decidable.em (((xs v3.toNatClampNeg) &&& (31 : Int32)) = 29) with c275 | c275
                                                                  · have hf := (if_pos c275).symm.trans hf
                                                                    refine bf_swIn 1064 dL_law_33 (by rw [c275]; decide) (by rw [c275]; decide) (by rw [c275]; rfl) (by decide) ?_
                                                                    refine bf_aload_n 1 dL_law_1064 rfl rfl ?_
                                                                    refine bf_aload_n 0 dL_law_1065 rfl rfl ?_
                                                                    refine bf_iload_n 3 dL_law_1066 rfl rfl ?_
                                                                    refine bf_iconst (v := 1) dL_law_1067 (by decide) ?_
                                                                    refine bf_iadd dL_law_1068 ?_
                                                                    rcases Decidable.em (bf_ok (v3 + (1 : Int32)) N) with c276 | c276
                                                                    · have hf := (if_pos c276).symm.trans hf
                                                                      refine bf_sld dL_law_1069 c276 ?_
                                                                      refine bf_aload_n 0 dL_law_1070 rfl rfl ?_
                                                                      refine bf_iload_n 3 dL_law_1071 rfl rfl ?_
                                                                      refine bf_iconst (v := 2) dL_law_1072 (by decide) ?_
                                                                      refine bf_iadd dL_law_1073 ?_
                                                                      rcases Decidable.em (bf_ok (v3 + (2 : Int32)) N) with c277 | c277
                                                                      · have hf := (if_pos c277).symm.trans hf
                                                                        refine bf_sld dL_law_1074 c277 ?_
                                                                        obtain ⟨r279, e278, hf⟩ := bf_bind hf
                                                                        have hCe278 := ok_X11_peek (Γ := Γ) (ad := ad) hk_flow e278
                                                                        refine cv_L_140 2 dL_law_1075 rfl ⟨Nat.le_of_ble_eq_true rfl, Nat.le_of_ble_eq_true rfl⟩ (Nat.le_of_ble_eq_true rfl) hk_flow hCe278 ?_
                                                                        refine bf_aload_n 2 dL_law_1078 rfl rfl ?_
                                                                        refine bf_aload_n 0 dL_law_1079 rfl rfl ?_
                                                                        refine bf_iload_n 3 dL_law_1080 rfl rfl ?_
                                                                        refine bf_iconst (v := 1) dL_law_1081 (by decide) ?_
                                                                        refine bf_iadd dL_law_1082 ?_
                                                                        rcases Decidable.em (bf_ok (v3 + (1 : Int32)) N) with c280 | c280
                                                                        · have hf := (if_pos c280).symm.trans hf
                                                                          refine bf_sld dL_law_1083 c280 ?_
                                                                          refine bf_aload_n 0 dL_law_1084 rfl rfl ?_
                                                                          refine bf_iload_n 3 dL_law_1085 rfl rfl ?_
                                                                          refine bf_iconst (v := 2) dL_law_1086 (by decide) ?_
                                                                          refine bf_iadd dL_law_1087 ?_
                                                                          rcases Decidable.em (bf_ok (v3 + (2 : Int32)) N) with c281 | c281
                                                                          · have hf := (if_pos c281).symm.trans hf
                                                                            refine bf_sld dL_law_1088 c281 ?_
                                                                            obtain ⟨r283, e282, hf⟩ := bf_bind hf
                                                                            have hCe282 := ok_X12_peek (Γ := Γ) (ad := ad) hk_model e282
                                                                            refine cv_L_143 1 dL_law_1089 rfl ⟨Nat.le_of_ble_eq_true rfl, Nat.le_of_ble_eq_true rfl⟩ (Nat.le_of_ble_eq_true rfl) hk_model hCe282 ?_
                                                                            refine bf_lcmp dL_law_1092 ?_
                                                                            refine bf_if_eq 1161 dL_law_1093 (by decide) (fun c284 => ?_) (fun c284 => ?_)
                                                                            · have hf := (if_pos c284).symm.trans hf
                                                                              refine bf_iinc 3 (v := _ + (6 : Int32)) (lv2 := [(3, .int _), (0, .ref _), (1, .ref _), (2, .ref _)]) dL_law_1161 rfl (by rfl) (Nat.le_of_ble_eq_true rfl) rfl ?_
                                                                              refine bf_goto 18 dL_law_1164 (by decide) ?_
                                                                              refine bf_perm [1, 2, 3, 0] rfl ?_
                                                                              exact ih _ _ _ hf
                                                                            · have hf := (if_neg c284).symm.trans hf
                                                                              refine bf_iconst (v := 0) dL_law_1096 (by decide) ?_
                                                                              exact absurd hf (by simp)
                                                                          · exact absurd ((if_neg c281).symm.trans hf) (by simp)
                                                                        · exact absurd ((if_neg c280).symm.trans hf) (by simp)
                                                                      · exact absurd ((if_neg c277).symm.trans hf) (by simp)
                                                                    · exact absurd ((if_neg c276).symm.trans hf) (by simp)
                                                                  · have hf := (if_neg c275).symm.trans hf
                                                                    rcases Decidable.em (((xs v3.toNatClampNeg) &&& (31 : Int32)) = 30) with c285 | c285
                                                                    · have hf := (if_pos c285).symm.trans hf
                                                                      refine bf_swIn 1098 dL_law_33 (by rw [c285]; decide) (by rw [c285]; decide) (by rw [c285]; rfl) (by decide) ?_
                                                                      refine bf_aload_n 1 dL_law_1098 rfl rfl ?_
                                                                      refine bf_aload_n 0 dL_law_1099 rfl rfl ?_
                                                                      refine bf_iload_n 3 dL_law_1100 rfl rfl ?_
                                                                      refine bf_iconst (v := 1) dL_law_1101 (by decide) ?_
                                                                      refine bf_iadd dL_law_1102 ?_
                                                                      rcases Decidable.em (bf_ok (v3 + (1 : Int32)) N) with c286 | c286
                                                                      · have hf := (if_pos c286).symm.trans hf
                                                                        refine bf_sld dL_law_1103 c286 ?_
                                                                        refine bf_aload_n 0 dL_law_1104 rfl rfl ?_
                                                                        refine bf_iload_n 3 dL_law_1105 rfl rfl ?_
                                                                        refine bf_iconst (v := 2) dL_law_1106 (by decide) ?_
                                                                        refine bf_iadd dL_law_1107 ?_
                                                                        rcases Decidable.em (bf_ok (v3 + (2 : Int32)) N) with c287 | c287
                                                                        · have hf := (if_pos c287).symm.trans hf
                                                                          refine bf_sld dL_law_1108 c287 ?_
                                                                          refine bf_aload_n 0 dL_law_1109 rfl rfl ?_
                                                                          refine bf_iload_n 3 dL_law_1110 rfl rfl ?_
                                                                          refine bf_iconst (v := 3) dL_law_1111 (by decide) ?_
                                                                          refine bf_iadd dL_law_1112 ?_
                                                                          rcases Decidable.em (bf_ok (v3 + (3 : Int32)) N) with c288 | c288
                                                                          · have hf := (if_pos c288).symm.trans hf
                                                                            refine bf_sld dL_law_1113 c288 ?_
                                                                            refine bf_aload_n 0 dL_law_1114 rfl rfl ?_
                                                                            refine bf_iload_n 3 dL_law_1115 rfl rfl ?_
                                                                            refine bf_iconst (v := 4) dL_law_1116 (by decide) ?_
                                                                            refine bf_iadd dL_law_1117 ?_
                                                                            rcases Decidable.em (bf_ok (v3 + (4 : Int32)) N) with c289 | c289
                                                                            · have hf := (if_pos c289).symm.trans hf
                                                                              refine bf_sld dL_law_1118 c289 ?_
                                                                              refine bf_aload_n 0 dL_law_1119 rfl rfl ?_
                                                                              refine bf_iload_n 3 dL_law_1120 rfl rfl ?_
                                                                              refine bf_iconst (v := 5) dL_law_1121 (by decide) ?_
                                                                              refine bf_iadd dL_law_1122 ?_
                                                                              rcases Decidable.em (bf_ok (v3 + (5 : Int32)) N) with c290 | c290
                                                                              · have hf := (if_pos c290).symm.trans hf
                                                                                refine bf_sld dL_law_1123 c290 ?_
                                                                                obtain ⟨r292, e291, hf⟩ := bf_bind hf
                                                                                have hCe291 := ok_X11_shift (Γ := Γ) (ad := ad) hk_flow e291
                                                                                refine cv_L_144 1 dL_law_1124 rfl ⟨Nat.le_of_ble_eq_true rfl, Nat.le_of_ble_eq_true rfl⟩ (Nat.le_of_ble_eq_true rfl) hk_flow hCe291 ?_
                                                                                refine bf_aload_n 2 dL_law_1127 rfl rfl ?_
                                                                                refine bf_aload_n 0 dL_law_1128 rfl rfl ?_
                                                                                refine bf_iload_n 3 dL_law_1129 rfl rfl ?_
                                                                                refine bf_iconst (v := 1) dL_law_1130 (by decide) ?_
                                                                                refine bf_iadd dL_law_1131 ?_
                                                                                rcases Decidable.em (bf_ok (v3 + (1 : Int32)) N) with c293 | c293
                                                                                · have hf := (if_pos c293).symm.trans hf
                                                                                  refine bf_sld dL_law_1132 c293 ?_
                                                                                  refine bf_aload_n 0 dL_law_1133 rfl rfl ?_
                                                                                  refine bf_iload_n 3 dL_law_1134 rfl rfl ?_
                                                                                  refine bf_iconst (v := 2) dL_law_1135 (by decide) ?_
                                                                                  refine bf_iadd dL_law_1136 ?_
                                                                                  rcases Decidable.em (bf_ok (v3 + (2 : Int32)) N) with c294 | c294
                                                                                  · have hf := (if_pos c294).symm.trans hf
                                                                                    refine bf_sld dL_law_1137 c294 ?_
                                                                                    refine bf_aload_n 0 dL_law_1138 rfl rfl ?_
                                                                                    refine bf_iload_n 3 dL_law_1139 rfl rfl ?_
                                                                                    refine bf_iconst (v := 3) dL_law_1140 (by decide) ?_
                                                                                    refine bf_iadd dL_law_1141 ?_
                                                                                    rcases Decidable.em (bf_ok (v3 + (3 : Int32)) N) with c295 | c295
                                                                                    · have hf := (if_pos c295).symm.trans hf
                                                                                      refine bf_sld dL_law_1142 c295 ?_
                                                                                      refine bf_aload_n 0 dL_law_1143 rfl rfl ?_
                                                                                      refine bf_iload_n 3 dL_law_1144 rfl rfl ?_
                                                                                      refine bf_iconst (v := 4) dL_law_1145 (by decide) ?_
                                                                                      refine bf_iadd dL_law_1146 ?_
                                                                                      rcases Decidable.em (bf_ok (v3 + (4 : Int32)) N) with c296 | c296
                                                                                      · have hf := (if_pos c296).symm.trans hf
                                                                                        refine bf_sld dL_law_1147 c296 ?_
                                                                                        refine bf_aload_n 0 dL_law_1148 rfl rfl ?_
                                                                                        refine bf_iload_n 3 dL_law_1149 rfl rfl ?_
                                                                                        refine bf_iconst (v := 5) dL_law_1150 (by decide) ?_
                                                                                        refine bf_iadd dL_law_1151 ?_
                                                                                        rcases Decidable.em (bf_ok (v3 + (5 : Int32)) N) with c297 | c297
                                                                                        · have hf := (if_pos c297).symm.trans hf
                                                                                          refine bf_sld dL_law_1152 c297 ?_
                                                                                          obtain ⟨r299, e298, hf⟩ := bf_bind hf
                                                                                          have hCe298 := ok_X12_shift (Γ := Γ) (ad := ad) hk_model e298
                                                                                          refine cv_L_148 1 dL_law_1153 rfl ⟨Nat.le_of_ble_eq_true rfl, Nat.le_of_ble_eq_true rfl⟩ (Nat.le_of_ble_eq_true rfl) hk_model hCe298 ?_
                                                                                          refine bf_icmp_eq 1161 dL_law_1156 (by decide) (fun c300 => ?_) (fun c300 => ?_)
                                                                                          · have hf := (if_pos c300).symm.trans hf
                                                                                            refine bf_iinc 3 (v := _ + (6 : Int32)) (lv2 := [(3, .int _), (0, .ref _), (1, .ref _), (2, .ref _)]) dL_law_1161 rfl (by rfl) (Nat.le_of_ble_eq_true rfl) rfl ?_
                                                                                            refine bf_goto 18 dL_law_1164 (by decide) ?_
                                                                                            refine bf_perm [1, 2, 3, 0] rfl ?_
                                                                                            exact ih _ _ _ hf
                                                                                          · have hf := (if_neg c300).symm.trans hf
                                                                                            refine bf_iconst (v := 0) dL_law_1159 (by decide) ?_
                                                                                            exact absurd hf (by simp)
                                                                                        · exact absurd ((if_neg c297).symm.trans hf) (by simp)
                                                                                      · exact absurd ((if_neg c296).symm.trans hf) (by simp)
                                                                                    · exact absurd ((if_neg c295).symm.trans hf) (by simp)
                                                                                  · exact absurd ((if_neg c294).symm.trans hf) (by simp)
                                                                                · exact absurd ((if_neg c293).symm.trans hf) (by simp)
                                                                              · exact absurd ((if_neg c290).symm.trans hf) (by simp)
                                                                            · exact absurd ((if_neg c289).symm.trans hf) (by simp)
                                                                          · exact absurd ((if_neg c288).symm.trans hf) (by simp)
                                                                        · exact absurd ((if_neg c287).symm.trans hf) (by simp)
                                                                      · exact absurd ((if_neg c286).symm.trans hf) (by simp)
                                                                    · have hf := (if_neg c285).symm.trans hf
                                                                      have c3 : _ ≠ (0 : Int) := bf_nne c3
                                                                      have c13 : _ ≠ (1 : Int) := bf_nne c13
                                                                      have c27 : _ ≠ (2 : Int) := bf_nne c27
                                                                      have c37 : _ ≠ (3 : Int) := bf_nne c37
                                                                      have c45 : _ ≠ (4 : Int) := bf_nne c45
                                                                      have c53 : _ ≠ (5 : Int) := bf_nne c53
                                                                      have c59 : _ ≠ (6 : Int) := bf_nne c59
                                                                      have c69 : _ ≠ (7 : Int) := bf_nne c69
                                                                      have c79 : _ ≠ (8 : Int) := bf_nne c79
                                                                      have c89 : _ ≠ (9 : Int) := bf_nne c89
                                                                      have c97 : _ ≠ (10 : Int) := bf_nne c97
                                                                      have c105 : _ ≠ (11 : Int) := bf_nne c105
                                                                      have c113 : _ ≠ (12 : Int) := bf_nne c113
                                                                      have c121 : _ ≠ (13 : Int) := bf_nne c121
                                                                      have c131 : _ ≠ (14 : Int) := bf_nne c131
                                                                      have c143 : _ ≠ (15 : Int) := bf_nne c143
                                                                      have c155 : _ ≠ (16 : Int) := bf_nne c155
                                                                      have c165 : _ ≠ (17 : Int) := bf_nne c165
                                                                      have c175 : _ ≠ (18 : Int) := bf_nne c175
                                                                      have c183 : _ ≠ (19 : Int) := bf_nne c183
                                                                      have c193 : _ ≠ (20 : Int) := bf_nne c193
                                                                      have c201 : _ ≠ (21 : Int) := bf_nne c201
                                                                      have c211 : _ ≠ (22 : Int) := bf_nne c211
                                                                      have c217 : _ ≠ (23 : Int) := bf_nne c217
                                                                      have c229 : _ ≠ (24 : Int) := bf_nne c229
                                                                      have c235 : _ ≠ (25 : Int) := bf_nne c235
                                                                      have c241 : _ ≠ (26 : Int) := bf_nne c241
                                                                      have c249 : _ ≠ (27 : Int) := bf_nne c249
                                                                      have c261 : _ ≠ (28 : Int) := bf_nne c261
                                                                      have c275 : _ ≠ (29 : Int) := bf_nne c275
                                                                      have c285 : _ ≠ (30 : Int) := bf_nne c285
                                                                      refine bf_swOut 1161 dL_law_33 (by omega) (by decide) ?_
                                                                      refine bf_iinc 3 (v := _ + (6 : Int32)) (lv2 := [(3, .int _), (0, .ref _), (1, .ref _), (2, .ref _)]) dL_law_1161 rfl (by rfl) (Nat.le_of_ble_eq_true rfl) rfl ?_
                                                                      refine bf_goto 18 dL_law_1164 (by decide) ?_
                                                                      refine bf_perm [1, 2, 3, 0] rfl ?_
                                                                      exact ih _ _ _ hf
      · exact absurd ((if_neg c2).symm.trans hf) (by simp)
