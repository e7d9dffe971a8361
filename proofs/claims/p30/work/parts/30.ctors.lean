/-! ===== the constructors ===== -/
theorem hyc0 : yX0_init.cls ≠ "java/lang/invoke/MethodHandle" ∧ yX0_init.cls ≠ "java/lang/invoke/VarHandle" ∧ (parseMethodDescriptor yX0_init.desc).map (fun d => d.parameters.length) = some 0 := ⟨by decide +kernel, by decide +kernel, by decide +kernel⟩
theorem hyc1 : yX1_init.cls ≠ "java/lang/invoke/MethodHandle" ∧ yX1_init.cls ≠ "java/lang/invoke/VarHandle" ∧ (parseMethodDescriptor yX1_init.desc).map (fun d => d.parameters.length) = some 0 := ⟨by decide +kernel, by decide +kernel, by decide +kernel⟩
theorem hyc2 : yX2_init.cls ≠ "java/lang/invoke/MethodHandle" ∧ yX2_init.cls ≠ "java/lang/invoke/VarHandle" ∧ (parseMethodDescriptor yX2_init.desc).map (fun d => d.parameters.length) = some 0 := ⟨by decide +kernel, by decide +kernel, by decide +kernel⟩
theorem hyc3 : yX3_init.cls ≠ "java/lang/invoke/MethodHandle" ∧ yX3_init.cls ≠ "java/lang/invoke/VarHandle" ∧ (parseMethodDescriptor yX3_init.desc).map (fun d => d.parameters.length) = some 0 := ⟨by decide +kernel, by decide +kernel, by decide +kernel⟩
theorem hyc4 : yX4_init.cls ≠ "java/lang/invoke/MethodHandle" ∧ yX4_init.cls ≠ "java/lang/invoke/VarHandle" ∧ (parseMethodDescriptor yX4_init.desc).map (fun d => d.parameters.length) = some 0 := ⟨by decide +kernel, by decide +kernel, by decide +kernel⟩
theorem hyc5 : yX5_init.cls ≠ "java/lang/invoke/MethodHandle" ∧ yX5_init.cls ≠ "java/lang/invoke/VarHandle" ∧ (parseMethodDescriptor yX5_init.desc).map (fun d => d.parameters.length) = some 0 := ⟨by decide +kernel, by decide +kernel, by decide +kernel⟩
theorem hyc6 : yX6_init.cls ≠ "java/lang/invoke/MethodHandle" ∧ yX6_init.cls ≠ "java/lang/invoke/VarHandle" ∧ (parseMethodDescriptor yX6_init.desc).map (fun d => d.parameters.length) = some 0 := ⟨by decide +kernel, by decide +kernel, by decide +kernel⟩
theorem hyc7 : yX7_init.cls ≠ "java/lang/invoke/MethodHandle" ∧ yX7_init.cls ≠ "java/lang/invoke/VarHandle" ∧ (parseMethodDescriptor yX7_init.desc).map (fun d => d.parameters.length) = some 0 := ⟨by decide +kernel, by decide +kernel, by decide +kernel⟩
theorem hyc8 : yX8_init.cls ≠ "java/lang/invoke/MethodHandle" ∧ yX8_init.cls ≠ "java/lang/invoke/VarHandle" ∧ (parseMethodDescriptor yX8_init.desc).map (fun d => d.parameters.length) = some 0 := ⟨by decide +kernel, by decide +kernel, by decide +kernel⟩
def layAll : List (Nat × Nat) := [(8, 0)] ++ layPlay ++ layPlay ++ [(15, 7), (15, 2), (12, 2)] ++ layPad ++ layPlay ++ layPlay ++ layPlay ++ layPlay ++ layPlay ++ layPlay ++ layPlay ++ layPlay ++ layPlay
set_option maxHeartbeats 4000000 in
set_option maxRecDepth 100000 in
theorem c0_init (l : Launch) (E : EN) (n : Nat) (K len : Nat → Nat) (I : Im) (X : Xm) (a : Nat) (ta : okA E (n, K, len) 0 a) (ha : a + 1 = eB E + n) (hZI : ZI (a + 1) I) (hZX : ZX (a + 1) X)  : MT l yX0_init cX0_init 1 none ({ frames := 1, cells := 0, slots := 0, locals := 20 } : Room) E (n, K, len) I X [.ref a] (QV E (n, K, len) (chanI (a) I) X) 0 0 := by
  refine Met.ofW (cc := cX0_init) (maxL := 1) (ret := none) (by decide +kernel) rfl ?_
  intro p e s m args below meth c s₁ B hml hv
  obtain ⟨rfl, hw0, hSE⟩ := hv
  have C0 : CX p s m ([.ref a] : List Value).toArray meth c E cX0_init RX0 1 := ⟨B.exec, B.bytes, hml, findClass_of_methodNamed B.named, fun w hw => atoms_spec (ws := WS yX0_init cX0_init 1 none) B.pre w (List.mem_cons_of_mem _ hw), B.notSynchronized, hSE⟩
  have hs : s.heap.size = eB E + n := hw0.2.1
  have hB : eB E ≤ s.heap.size := by omega
  have hw : WD E (n, K, len) I X s.heap s.heap [] := ⟨hw0, va_S.rf⟩
  have hr := B.returns
  have hin2 : meth.name = "<init>" := (name_of_methodNamed B.named B.method).1
  have ha0 : eB E ≤ a := ta.1
  have hKa : K a = 0 := ta.2.2
  have hx := C0.1; have hb := C0.2.1; have hml := C0.2.2.1; have hown := C0.2.2.2.1; have hts := C0.2.2.2.2.1
  have hl := lv_entry ([.ref a]) (n := 1) (Nat.le_of_ble_eq_true rfl)
  rw [lg_entry_eq]
  generalize (lg_sl ([.ref a]) ++ List.replicate (1 - (lg_sl ([.ref a])).length) Slot.unset).toArray = ls at hl ⊢
  have hl : lv_has ls 1 [(0, .ref a)] := hl
  refine lv_aload_n hx hb dX0_init_0 rfl (lv_at hl 0 rfl) ?_
  refine x_obj C0 hl.1 wd94 (Nat.le_of_ble_eq_true rfl) (Nat.le_of_ble_eq_true rfl) dX0_init_1 ?_
  refine lv_aload_n hx hb dX0_init_4 rfl (lv_at hl 0 rfl) ?_
  refine lv_bipush (v := (50 : Int32)) hx hb dX0_init_5 (by decide) ?_
  obtain ⟨yI1, eyI1⟩ : ∃ y : Im, y = pF I 0 a (50 : Int32) := ⟨_, rfl⟩
  refine xp_0_0 C0 (show s.heap.size + 0 ≤ eB E + (n + 0) by omega) hw (okq (by omega) (by omega) hKa) rfl rfl wd97 dX0_init_7 eyI1 (fun H locs hw => ?_)
  have hZI : ZI (a + 1) yI1 := by rw [eyI1]; exact hZI.pF (by omega)
  refine lv_aload_n hx hb dX0_init_10 rfl (lv_at hl 0 rfl) ?_
  refine lv_bipush (v := (50 : Int32)) hx hb dX0_init_11 (by decide) ?_
  obtain ⟨yI2, eyI2⟩ : ∃ y : Im, y = pF yI1 1 a (50 : Int32) := ⟨_, rfl⟩
  refine xp_0_1 C0 (show s.heap.size + 0 ≤ eB E + (n + 0) by omega) hw (okq (by omega) (by omega) hKa) rfl rfl wd98 dX0_init_13 eyI2 (fun H locs hw => ?_)
  have hZI : ZI (a + 1) yI2 := by rw [eyI2]; exact hZI.pF (by omega)
  have eF : yI2 = (chanI (a) I) ∧ X = X := by
    subst eyI2
    subst eyI1
    exact ⟨rfl, rfl⟩
  rw [← eF.1, ← eF.2]
  exact x_vret C0 hr hw dX0_init_16
set_option maxHeartbeats 4000000 in
set_option maxRecDepth 100000 in
theorem c1_init (l : Launch) (E : EN) (n : Nat) (K len : Nat → Nat) (I : Im) (X : Xm) (a : Nat) (ta : okA E (n, K, len) 1 a) (ha : a + 1 = eB E + n) (hZI : ZI (a + 1) I) (hZX : ZX (a + 1) X)  : MT l yX1_init cX1_init 1 none ({ frames := 1, cells := 0, slots := 0, locals := 20 } : Room) E (n, K, len) I X [.ref a] (QV E (n, K, len) I X) 0 0 := by
  refine Met.ofW (cc := cX1_init) (maxL := 1) (ret := none) (by decide +kernel) rfl ?_
  intro p e s m args below meth c s₁ B hml hv
  obtain ⟨rfl, hw0, hSE⟩ := hv
  have C0 : CX p s m ([.ref a] : List Value).toArray meth c E cX1_init RX1 1 := ⟨B.exec, B.bytes, hml, findClass_of_methodNamed B.named, fun w hw => atoms_spec (ws := WS yX1_init cX1_init 1 none) B.pre w (List.mem_cons_of_mem _ hw), B.notSynchronized, hSE⟩
  have hs : s.heap.size = eB E + n := hw0.2.1
  have hB : eB E ≤ s.heap.size := by omega
  have hw : WD E (n, K, len) I X s.heap s.heap [] := ⟨hw0, va_S.rf⟩
  have hr := B.returns
  have hin2 : meth.name = "<init>" := (name_of_methodNamed B.named B.method).1
  have ha0 : eB E ≤ a := ta.1
  have hKa : K a = 1 := ta.2.2
  have hx := C0.1; have hb := C0.2.1; have hml := C0.2.2.1; have hown := C0.2.2.2.1; have hts := C0.2.2.2.2.1
  have hl := lv_entry ([.ref a]) (n := 1) (Nat.le_of_ble_eq_true rfl)
  rw [lg_entry_eq]
  generalize (lg_sl ([.ref a]) ++ List.replicate (1 - (lg_sl ([.ref a])).length) Slot.unset).toArray = ls at hl ⊢
  have hl : lv_has ls 1 [(0, .ref a)] := hl
  refine lv_aload_n hx hb dX1_init_0 rfl (lv_at hl 0 rfl) ?_
  refine x_obj C0 hl.1 wd108 (Nat.le_of_ble_eq_true rfl) (Nat.le_of_ble_eq_true rfl) dX1_init_1 ?_
  exact x_vret C0 hr hw dX1_init_4
set_option maxHeartbeats 4000000 in
set_option maxRecDepth 100000 in
theorem c7_init (l : Launch) (E : EN) (n : Nat) (K len : Nat → Nat) (I : Im) (X : Xm) (a : Nat) (ta : okA E (n, K, len) 7 a) (ha : a + 1 = eB E + n) (hZI : ZI (a + 1) I) (hZX : ZX (a + 1) X)  : MT l yX7_init cX7_init 1 none ({ frames := 1, cells := 0, slots := 0, locals := 20 } : Room) E (n, K, len) I X [.ref a] (QV E (n, K, len) I X) 0 0 := by
  refine Met.ofW (cc := cX7_init) (maxL := 1) (ret := none) (by decide +kernel) rfl ?_
  intro p e s m args below meth c s₁ B hml hv
  obtain ⟨rfl, hw0, hSE⟩ := hv
  have C0 : CX p s m ([.ref a] : List Value).toArray meth c E cX7_init RX7 1 := ⟨B.exec, B.bytes, hml, findClass_of_methodNamed B.named, fun w hw => atoms_spec (ws := WS yX7_init cX7_init 1 none) B.pre w (List.mem_cons_of_mem _ hw), B.notSynchronized, hSE⟩
  have hs : s.heap.size = eB E + n := hw0.2.1
  have hB : eB E ≤ s.heap.size := by omega
  have hw : WD E (n, K, len) I X s.heap s.heap [] := ⟨hw0, va_S.rf⟩
  have hr := B.returns
  have hin2 : meth.name = "<init>" := (name_of_methodNamed B.named B.method).1
  have ha0 : eB E ≤ a := ta.1
  have hKa : K a = 7 := ta.2.2
  have hx := C0.1; have hb := C0.2.1; have hml := C0.2.2.1; have hown := C0.2.2.2.1; have hts := C0.2.2.2.2.1
  have hl := lv_entry ([.ref a]) (n := 1) (Nat.le_of_ble_eq_true rfl)
  rw [lg_entry_eq]
  generalize (lg_sl ([.ref a]) ++ List.replicate (1 - (lg_sl ([.ref a])).length) Slot.unset).toArray = ls at hl ⊢
  have hl : lv_has ls 1 [(0, .ref a)] := hl
  refine lv_aload_n hx hb dX7_init_0 rfl (lv_at hl 0 rfl) ?_
  refine x_obj C0 hl.1 wd134 (Nat.le_of_ble_eq_true rfl) (Nat.le_of_ble_eq_true rfl) dX7_init_1 ?_
  exact x_vret C0 hr hw dX7_init_4
set_option maxHeartbeats 4000000 in
set_option maxRecDepth 100000 in
theorem c2_init (l : Launch) (E : EN) (n : Nat) (K len : Nat → Nat) (I : Im) (X : Xm) (a : Nat) (ta : okA E (n, K, len) 2 a) (ha : a + 1 = eB E + n) (hZI : ZI (a + 1) I) (hZX : ZX (a + 1) X) (hLY : LY K len a layDoors) : MT l yX2_init cX2_init 1 none ({ frames := 1, cells := 3, slots := 72, locals := 20 } : Room) E (n, K, len) I X [.ref a] (QV E (n + 3, K, len) I (doorsX (a) X)) 3 72 := by
  refine Met.ofW (cc := cX2_init) (maxL := 1) (ret := none) (by decide +kernel) rfl ?_
  intro p e s m args below meth c s₁ B hml hv
  obtain ⟨rfl, hw0, hSE⟩ := hv
  have C0 : CX p s m ([.ref a] : List Value).toArray meth c E cX2_init RX2 1 := ⟨B.exec, B.bytes, hml, findClass_of_methodNamed B.named, fun w hw => atoms_spec (ws := WS yX2_init cX2_init 1 none) B.pre w (List.mem_cons_of_mem _ hw), B.notSynchronized, hSE⟩
  have hs : s.heap.size = eB E + n := hw0.2.1
  have hB : eB E ≤ s.heap.size := by omega
  have hw : WD E (n, K, len) I X s.heap s.heap [] := ⟨hw0, va_S.rf⟩
  have hr := B.returns
  have hin2 : meth.name = "<init>" := (name_of_methodNamed B.named B.method).1
  have ha0 : eB E ≤ a := ta.1
  have hKa : K a = 2 := ta.2.2
  have hx := C0.1; have hb := C0.2.1; have hml := C0.2.2.1; have hown := C0.2.2.2.1; have hts := C0.2.2.2.2.1
  have hl := lv_entry ([.ref a]) (n := 1) (Nat.le_of_ble_eq_true rfl)
  rw [lg_entry_eq]
  generalize (lg_sl ([.ref a]) ++ List.replicate (1 - (lg_sl ([.ref a])).length) Slot.unset).toArray = ls at hl ⊢
  have hl : lv_has ls 1 [(0, .ref a)] := hl
  refine lv_aload_n hx hb dX2_init_0 rfl (lv_at hl 0 rfl) ?_
  refine x_obj C0 hl.1 wd114 (Nat.le_of_ble_eq_true rfl) (Nat.le_of_ble_eq_true rfl) dX2_init_1 ?_
  refine lv_aload_n hx hb dX2_init_4 rfl (lv_at hl 0 rfl) ?_
  refine lv_bipush (v := (24 : Int32)) hx hb dX2_init_5 (by decide) ?_
  refine x_newI C0 (atype := .int) (n := n + 0) (q := a + 1) (show s.heap.size + 0 = eB E + (n + 0) by omega) hB hw (by omega) hZI 11 (by decide) (by decide) (ty := .int) rfl (fun _ => rfl) rfl rfl wd115 (N := 24) (by decide) (by decide) (by decide) (show K (a + 1) = 11 from (hLY 1 (by decide)).1) (show len (a + 1) = 24 from (hLY 1 (by decide)).2) (Nat.le_of_ble_eq_true rfl) (Nat.le_of_ble_eq_true rfl) dX2_init_7 (fun H locs hw => ?_)
  have hZI := hZI.mono (Nat.le_succ _); have hZX := hZX.mono (Nat.le_succ _)
  obtain ⟨yX1, eyX1⟩ : ∃ y : Xm, y = pR X 32 a (some (a + 1)) := ⟨_, rfl⟩
  refine xp_2_0 C0 (show s.heap.size + 1 ≤ eB E + (n + 1) by omega) hw hin2 rfl (okq (by omega) (by omega) hKa) (okq (by omega) (by omega) (show K (a + 1) = 11 from (hLY 1 (by decide)).1)) wd116 dX2_init_9 eyX1 (fun H locs hw => ?_)
  have hZX : ZX (a + 2) yX1 := by rw [eyX1]; exact hZX.pR (by omega)
  refine lv_aload_n hx hb dX2_init_12 rfl (lv_at hl 0 rfl) ?_
  refine lv_bipush (v := (24 : Int32)) hx hb dX2_init_13 (by decide) ?_
  refine x_newI C0 (atype := .int) (n := n + 1) (q := a + 2) (show s.heap.size + 1 = eB E + (n + 1) by omega) hB hw (by omega) hZI 11 (by decide) (by decide) (ty := .int) rfl (fun _ => rfl) rfl rfl wd115 (N := 24) (by decide) (by decide) (by decide) (show K (a + 2) = 11 from (hLY 2 (by decide)).1) (show len (a + 2) = 24 from (hLY 2 (by decide)).2) (Nat.le_of_ble_eq_true rfl) (Nat.le_of_ble_eq_true rfl) dX2_init_15 (fun H locs hw => ?_)
  have hZI := hZI.mono (Nat.le_succ _); have hZX := hZX.mono (Nat.le_succ _)
  obtain ⟨yX2, eyX2⟩ : ∃ y : Xm, y = pR yX1 33 a (some (a + 2)) := ⟨_, rfl⟩
  refine xp_2_1 C0 (show s.heap.size + 2 ≤ eB E + (n + 2) by omega) hw hin2 rfl (okq (by omega) (by omega) hKa) (okq (by omega) (by omega) (show K (a + 2) = 11 from (hLY 2 (by decide)).1)) wd117 dX2_init_17 eyX2 (fun H locs hw => ?_)
  have hZX : ZX (a + 3) yX2 := by rw [eyX2]; exact hZX.pR (by omega)
  refine lv_aload_n hx hb dX2_init_20 rfl (lv_at hl 0 rfl) ?_
  refine lv_bipush (v := (24 : Int32)) hx hb dX2_init_21 (by decide) ?_
  refine x_newI C0 (atype := .int) (n := n + 2) (q := a + 3) (show s.heap.size + 2 = eB E + (n + 2) by omega) hB hw (by omega) hZI 11 (by decide) (by decide) (ty := .int) rfl (fun _ => rfl) rfl rfl wd115 (N := 24) (by decide) (by decide) (by decide) (show K (a + 3) = 11 from (hLY 3 (by decide)).1) (show len (a + 3) = 24 from (hLY 3 (by decide)).2) (Nat.le_of_ble_eq_true rfl) (Nat.le_of_ble_eq_true rfl) dX2_init_23 (fun H locs hw => ?_)
  have hZI := hZI.mono (Nat.le_succ _); have hZX := hZX.mono (Nat.le_succ _)
  obtain ⟨yX3, eyX3⟩ : ∃ y : Xm, y = pR yX2 34 a (some (a + 3)) := ⟨_, rfl⟩
  refine xp_2_2 C0 (show s.heap.size + 3 ≤ eB E + (n + 3) by omega) hw hin2 rfl (okq (by omega) (by omega) hKa) (okq (by omega) (by omega) (show K (a + 3) = 11 from (hLY 3 (by decide)).1)) wd118 dX2_init_25 eyX3 (fun H locs hw => ?_)
  have hZX : ZX (a + 4) yX3 := by rw [eyX3]; exact hZX.pR (by omega)
  have eF : I = I ∧ yX3 = (doorsX (a) X) := by
    subst eyX3
    subst eyX2
    subst eyX1
    exact ⟨rfl, rfl⟩
  rw [← eF.1, ← eF.2]
  exact x_vret C0 hr hw dX2_init_28
set_option maxHeartbeats 4000000 in
set_option maxRecDepth 100000 in
theorem c3_init (l : Launch) (E : EN) (n : Nat) (K len : Nat → Nat) (I : Im) (X : Xm) (a : Nat) (ta : okA E (n, K, len) 3 a) (ha : a + 1 = eB E + n) (hZI : ZI (a + 1) I) (hZX : ZX (a + 1) X) (hLY : LY K len a layPad) : MT l yX3_init cX3_init 1 none ({ frames := 1, cells := 2, slots := 83, locals := 20 } : Room) E (n, K, len) I X [.ref a] (QV E (n + 2, K, len) I (padX (a) X)) 2 83 := by
  refine Met.ofW (cc := cX3_init) (maxL := 1) (ret := none) (by decide +kernel) rfl ?_
  intro p e s m args below meth c s₁ B hml hv
  obtain ⟨rfl, hw0, hSE⟩ := hv
  have C0 : CX p s m ([.ref a] : List Value).toArray meth c E cX3_init RX3 1 := ⟨B.exec, B.bytes, hml, findClass_of_methodNamed B.named, fun w hw => atoms_spec (ws := WS yX3_init cX3_init 1 none) B.pre w (List.mem_cons_of_mem _ hw), B.notSynchronized, hSE⟩
  have hs : s.heap.size = eB E + n := hw0.2.1
  have hB : eB E ≤ s.heap.size := by omega
  have hw : WD E (n, K, len) I X s.heap s.heap [] := ⟨hw0, va_S.rf⟩
  have hr := B.returns
  have hin2 : meth.name = "<init>" := (name_of_methodNamed B.named B.method).1
  have ha0 : eB E ≤ a := ta.1
  have hKa : K a = 3 := ta.2.2
  have hx := C0.1; have hb := C0.2.1; have hml := C0.2.2.1; have hown := C0.2.2.2.1; have hts := C0.2.2.2.2.1
  have hl := lv_entry ([.ref a]) (n := 1) (Nat.le_of_ble_eq_true rfl)
  rw [lg_entry_eq]
  generalize (lg_sl ([.ref a]) ++ List.replicate (1 - (lg_sl ([.ref a])).length) Slot.unset).toArray = ls at hl ⊢
  have hl : lv_has ls 1 [(0, .ref a)] := hl
  refine lv_aload_n hx hb dX3_init_0 rfl (lv_at hl 0 rfl) ?_
  refine x_obj C0 hl.1 wd124 (Nat.le_of_ble_eq_true rfl) (Nat.le_of_ble_eq_true rfl) dX3_init_1 ?_
  refine lv_aload_n hx hb dX3_init_4 rfl (lv_at hl 0 rfl) ?_
  refine lv_bipush (v := (80 : Int32)) hx hb dX3_init_5 (by decide) ?_
  refine x_newI C0 (atype := .char) (n := n + 0) (q := a + 1) (show s.heap.size + 0 = eB E + (n + 0) by omega) hB hw (by omega) hZI 10 (by decide) (by decide) (ty := .char) rfl (fun _ => rfl) rfl rfl wd125 (N := 80) (by decide) (by decide) (by decide) (show K (a + 1) = 10 from (hLY 1 (by decide)).1) (show len (a + 1) = 80 from (hLY 1 (by decide)).2) (Nat.le_of_ble_eq_true rfl) (Nat.le_of_ble_eq_true rfl) dX3_init_7 (fun H locs hw => ?_)
  have hZI := hZI.mono (Nat.le_succ _); have hZX := hZX.mono (Nat.le_succ _)
  obtain ⟨yX1, eyX1⟩ : ∃ y : Xm, y = pR X 48 a (some (a + 1)) := ⟨_, rfl⟩
  refine xp_3_0 C0 (show s.heap.size + 1 ≤ eB E + (n + 1) by omega) hw hin2 rfl (okq (by omega) (by omega) hKa) (okq (by omega) (by omega) (show K (a + 1) = 10 from (hLY 1 (by decide)).1)) wd126 dX3_init_9 eyX1 (fun H locs hw => ?_)
  have hZX : ZX (a + 2) yX1 := by rw [eyX1]; exact hZX.pR (by omega)
  refine lv_aload_n hx hb dX3_init_12 rfl (lv_at hl 0 rfl) ?_
  refine lv_iconst (v := (3 : Int32)) hx hb dX3_init_13 (by decide) ?_
  refine x_newI C0 (atype := .int) (n := n + 1) (q := a + 2) (show s.heap.size + 1 = eB E + (n + 1) by omega) hB hw (by omega) hZI 11 (by decide) (by decide) (ty := .int) rfl (fun _ => rfl) rfl rfl wd115 (N := 3) (by decide) (by decide) (by decide) (show K (a + 2) = 11 from (hLY 2 (by decide)).1) (show len (a + 2) = 3 from (hLY 2 (by decide)).2) (Nat.le_of_ble_eq_true rfl) (Nat.le_of_ble_eq_true rfl) dX3_init_14 (fun H locs hw => ?_)
  have hZI := hZI.mono (Nat.le_succ _); have hZX := hZX.mono (Nat.le_succ _)
  obtain ⟨yX2, eyX2⟩ : ∃ y : Xm, y = pR yX1 52 a (some (a + 2)) := ⟨_, rfl⟩
  refine xp_3_4 C0 (show s.heap.size + 2 ≤ eB E + (n + 2) by omega) hw hin2 rfl (okq (by omega) (by omega) hKa) (okq (by omega) (by omega) (show K (a + 2) = 11 from (hLY 2 (by decide)).1)) wd127 dX3_init_16 eyX2 (fun H locs hw => ?_)
  have hZX : ZX (a + 3) yX2 := by rw [eyX2]; exact hZX.pR (by omega)
  have eF : I = I ∧ yX2 = (padX (a) X) := by
    subst eyX2
    subst eyX1
    exact ⟨rfl, rfl⟩
  rw [← eF.1, ← eF.2]
  exact x_vret C0 hr hw dX3_init_19
set_option maxHeartbeats 4000000 in
set_option maxRecDepth 100000 in
theorem w5_init_21 {p : Program} {l : Launch} {e : Env} {s : State} {m : MethodId} {args : Array Value} {below : List Frame} {meth : Method} {c : Code} {E : EN} {n : Nat} {K len : Nat → Nat} {I : Im} {X : Xm} {Q : State → Prop} {a : Nat} (C0 : CX p s m args meth c E cX5_init RX5 2) (hB : eB E ≤ s.heap.size) (hs : s.heap.size = eB E + n) (ha : a + 1 = eB E + n) (ha0 : eB E ≤ a) (hKa : K a = 5) (hLY : LY K len a layReel) (hg : ∀ i, gR (lpX noX (a + 1) (a + 2) 1 X i) 80 a = some (a + 1)) (hZI : ZI (a + 2) I) (hZX : ZX (a + 2) X)
    (kx : ∀ (H : Heap) (locs : List Loc) (ls : Array Slot), WD E (n + 7, K, len) (lpI noI (a + 2) 1 I 6) (lpX noX (a + 1) (a + 2) 1 X 6) s.heap H locs → ZI (a + 8) (lpI noI (a + 2) 1 I 6) → ZX (a + 8) (lpX noX (a + 1) (a + 2) 1 X 6) → lv_has ls 2 [(1, .int (nI 6)), (0, .ref a)] → W p l e ({ frames := 2, cells := 7, slots := 30, locals := 40 } : Room) s m args below meth c H locs 7 30 Q (F0 m 49 ls [])) :
    ∀ (j i : Nat), i + j = 6 → ∀ (cells slots : Nat) (H : Heap) (locs : List Loc) (ls : Array Slot), cells = 1 + 1 * i → slots = 6 + 4 * i → WD E (n + (1 + 1 * i), K, len) (lpI noI (a + 2) 1 I i) (lpX noX (a + 1) (a + 2) 1 X i) s.heap H locs → lv_has ls 2 [(1, .int (nI i)), (0, .ref a)] → W p l e ({ frames := 2, cells := 7, slots := 30, locals := 40 } : Room) s m args below meth c H locs cells slots Q (F0 m 21 ls []) := by
  have hx := C0.1; have hb := C0.2.1; have hml := C0.2.2.1; have hown := C0.2.2.2.1; have hts := C0.2.2.2.2.1
  intro j
  induction j with
  | zero =>
    intro i hij cells slots H locs ls hc hsl hw hl
    obtain rfl : i = 6 := by omega
    subst hc; subst hsl
    refine lv_iload_n hx hb dX5_init_21 rfl (lv_at hl 0 rfl) ?_
    refine lv_aload_n hx hb dX5_init_22 rfl (lv_at hl 1 rfl) ?_
    refine xg_5_0 C0 hw (okq (by omega) (by omega) hKa) wd137 (hg _) dX5_init_23 ?_
    refine x_alen C0 hw 17 (okq (by omega) (by omega) (show K (a + 1) = 17 from (hLY 1 (by decide)).1)) (by decide) rfl dX5_init_26 ?_
    rw [show (n + (1 + 1 * 6), K, len).2.2 (a + 1) = 6 from (hLY 1 (by decide)).2]
    refine lv_icmp_ge (tgt := 49) hx hb dX5_init_27 (by decide) (fun _ => ?_) (fun q => absurd (Int32.le_refl _) q)
    exact kx H locs ls hw (ZI_lpI (fun c I hc h => h) (hZI.mono (by omega)) 6 (by omega)) (ZX_lpX (fun c X hc h => h) (hZX.mono (by omega)) (by omega) 6 (by omega)) hl
  | succ j ih =>
    intro i hij cells slots H locs ls hc hsl hw hl
    have hi : i < 6 := by omega
    refine lv_iload_n hx hb dX5_init_21 rfl (lv_at hl 0 rfl) ?_
    refine lv_aload_n hx hb dX5_init_22 rfl (lv_at hl 1 rfl) ?_
    refine xg_5_0 C0 hw (okq (by omega) (by omega) hKa) wd137 (hg _) dX5_init_23 ?_
    refine x_alen C0 hw 17 (okq (by omega) (by omega) (show K (a + 1) = 17 from (hLY 1 (by decide)).1)) (by decide) rfl dX5_init_26 ?_
    rw [show (n + (1 + 1 * i), K, len).2.2 (a + 1) = 6 from (hLY 1 (by decide)).2]
    refine lv_icmp_ge (tgt := 49) hx hb dX5_init_27 (by decide) (fun q => absurd q (by rw [nI_leI (by omega) (by omega)]; omega)) (fun _ => ?_)
    refine lv_aload_n hx hb dX5_init_30 rfl (lv_at hl 1 rfl) ?_
    refine xg_5_0 C0 hw (okq (by omega) (by omega) hKa) wd137 (hg _) dX5_init_31 ?_
    refine lv_iload_n hx hb dX5_init_34 rfl (lv_at hl 0 rfl) ?_
    have hZIi : ZI (a + (2 + 1 * i)) (lpI noI (a + 2) 1 I i) := ZI_lpI (fun c I hc h => h) (hZI.mono (by omega)) i (by omega)
    have hZXi : ZX (a + (2 + 1 * i)) (lpX noX (a + 1) (a + 2) 1 X i) := ZX_lpX (fun c X hc h => h) (hZX.mono (by omega)) (by omega) i (by omega)
    have hKe : K (a + (2 + 1 * i)) = 7 := by rw [(hLY (2 + 1 * i) (by show _ < (8 : Nat); omega)).1]; exact (show ∀ i < 6, (layReel.getD (2 + 1 * i) (99, 0)).1 = 7 by decide) i hi
    refine x_new C0 (n := n + (1 + 1 * i)) (q := a + (2 + 1 * i)) (show s.heap.size + cells = eB E + (n + (1 + 1 * i)) by omega) hB hw (by omega) hZIi hZXi 7 (by decide) rfl inG7 tyX7 tyX7_ok (by decide) hKe wd136 wd139 wd140 (show cells + 1 ≤ (7 : Nat) by omega) (show slots + 4 ≤ (30 : Nat) by omega) dX5_init_35 (fun H locs hw => ?_)
    refine lv_dup hx hb dX5_init_38 rfl ?_
    refine x_cv (I1 := (lpI noI (a + 2) 1 I i)) (X1 := (lpX noX (a + 1) (a + 2) 1 X i)) (x_runIN (As := []) (rest := [.ref (a + (2 + 1 * i)), .int (nI i), .ref (a + 1)]) C0 (c7_init l E (n + (1 + 1 * i) + 1) K len (lpI noI (a + 2) 1 I i) (lpX noX (a + 1) (a + 2) 1 X i) (a + (2 + 1 * i)) (okq (by omega) (by omega) hKe) (by omega) (hZIi.mono (by omega)) (hZXi.mono (by omega))) hw wd12 (show ("RadioCues$Reel", 21, yX7_init, "RadioCues") ∈ nwM by decide +kernel) wd141 wd140 rfl ⟨rfl, rfl⟩ hyc7 ⟨Nat.le_of_ble_eq_true rfl, Nat.le_of_ble_eq_true rfl⟩ rfl hl.1 (Nat.le_of_ble_eq_true rfl) ⟨(show cells + 1 + 0 ≤ (7 : Nat) by omega), (show slots + 4 + 0 ≤ (30 : Nat) by omega)⟩ dX5_init_39) hw (fun H locs hw => ?_)
    obtain ⟨X2, eX2⟩ : ∃ y : Xm, y = pQ (lpX noX (a + 1) (a + 2) 1 X i) (a + 1) (nI i).toNatClampNeg (some (a + (2 + 1 * i))) := ⟨_, rfl⟩
    refine x_qast C0 (G := (n + (1 + 1 * i) + 1 + 0, K, len)) (show s.heap.size + (cells + 1 + 0) ≤ eB E + (n + (1 + 1 * i) + 1 + 0) by omega) hw 17 (okq (by omega) (by omega) (show K (a + 1) = 17 from (hLY 1 (by decide)).1)) (by decide) (okq (by omega) (by omega) hKe) (by decide) (r := (RX7, TX7, 4)) rfl rfl (by show inb (nI i) (len (a + 1)) = true; rw [show len (a + 1) = 6 from (hLY 1 (by decide)).2]; exact decide_eq_true (by rw [nI_toInt (by omega)]; omega)) dX5_init_42 eX2 (fun H locs hw => ?_)
    rw [nI_clamp (by omega)] at eX2
    refine lv_iinc (v := nI (i + 1)) (lv' := [(1, .int (nI (i + 1))), (0, .ref a)]) hx hb dX5_init_43 hl (k := 0) rfl (by rw [← nI_add]; rfl) (by decide) rfl (fun ls hl => ?_)
    refine lv_goto (tgt := 21) hx hb dX5_init_46 (by decide) ?_
    have eX3 : X2 = lpX noX (a + 1) (a + 2) 1 X (i + 1) := by rw [eX2, show a + (2 + 1 * i) = a + 2 + 1 * i by omega]; rfl
    have eI3 : (lpI noI (a + 2) 1 I i) = lpI noI (a + 2) 1 I (i + 1) := rfl
    rw [eX3, eI3, show n + (1 + 1 * i) + 1 + 0 = n + (1 + 1 * (i + 1)) by omega] at hw
    exact ih (i + 1) (by omega) _ _ H locs ls (by omega) (by omega) hw hl
set_option maxHeartbeats 4000000 in
set_option maxRecDepth 100000 in
theorem c5_init (l : Launch) (E : EN) (n : Nat) (K len : Nat → Nat) (I : Im) (X : Xm) (a : Nat) (ta : okA E (n, K, len) 5 a) (ha : a + 1 = eB E + n) (hZI : ZI (a + 1) I) (hZX : ZX (a + 1) X) (hLY : LY K len a layReel) : MT l yX5_init cX5_init 2 none ({ frames := 2, cells := 7, slots := 30, locals := 40 } : Room) E (n, K, len) I X [.ref a] (QV E (n + 7, K, len) (reelI (a) I) (reelX (a) X)) 7 30 := by
  refine Met.ofW (cc := cX5_init) (maxL := 2) (ret := none) (by decide +kernel) rfl ?_
  intro p e s m args below meth c s₁ B hml hv
  obtain ⟨rfl, hw0, hSE⟩ := hv
  have C0 : CX p s m ([.ref a] : List Value).toArray meth c E cX5_init RX5 2 := ⟨B.exec, B.bytes, hml, findClass_of_methodNamed B.named, fun w hw => atoms_spec (ws := WS yX5_init cX5_init 2 none) B.pre w (List.mem_cons_of_mem _ hw), B.notSynchronized, hSE⟩
  have hs : s.heap.size = eB E + n := hw0.2.1
  have hB : eB E ≤ s.heap.size := by omega
  have hw : WD E (n, K, len) I X s.heap s.heap [] := ⟨hw0, va_S.rf⟩
  have hr := B.returns
  have hin2 : meth.name = "<init>" := (name_of_methodNamed B.named B.method).1
  have ha0 : eB E ≤ a := ta.1
  have hKa : K a = 5 := ta.2.2
  have hx := C0.1; have hb := C0.2.1; have hml := C0.2.2.1; have hown := C0.2.2.2.1; have hts := C0.2.2.2.2.1
  have hl := lv_entry ([.ref a]) (n := 2) (Nat.le_of_ble_eq_true rfl)
  rw [lg_entry_eq]
  generalize (lg_sl ([.ref a]) ++ List.replicate (2 - (lg_sl ([.ref a])).length) Slot.unset).toArray = ls at hl ⊢
  have hl : lv_has ls 2 [(0, .ref a)] := hl
  refine lv_aload_n hx hb dX5_init_0 rfl (lv_at hl 0 rfl) ?_
  refine x_obj C0 hl.1 wd135 (Nat.le_of_ble_eq_true rfl) (Nat.le_of_ble_eq_true rfl) dX5_init_1 ?_
  refine lv_aload_n hx hb dX5_init_4 rfl (lv_at hl 0 rfl) ?_
  refine lv_bipush (v := (6 : Int32)) hx hb dX5_init_5 (by decide) ?_
  refine x_newQ C0 (n := n + 0) (q := a + 1) (show s.heap.size + 0 = eB E + (n + 0) by omega) hB hw (by omega) hZX 17 (by decide) rfl (by decide) wd136 (N := 6) (by decide) (by decide) (by decide) (show K (a + 1) = 17 from (hLY 1 (by decide)).1) (show len (a + 1) = 6 from (hLY 1 (by decide)).2) (Nat.le_of_ble_eq_true rfl) (Nat.le_of_ble_eq_true rfl) dX5_init_7 (fun H locs hw => ?_)
  have hZI := hZI.mono (Nat.le_succ _); have hZX := hZX.mono (Nat.le_succ _)
  obtain ⟨yX1, eyX1⟩ : ∃ y : Xm, y = pR X 80 a (some (a + 1)) := ⟨_, rfl⟩
  refine xp_5_0 C0 (show s.heap.size + 1 ≤ eB E + (n + 1) by omega) hw hin2 rfl (okq (by omega) (by omega) hKa) (okq (by omega) (by omega) (show K (a + 1) = 17 from (hLY 1 (by decide)).1)) wd137 dX5_init_10 eyX1 (fun H locs hw => ?_)
  have hZX : ZX (a + 2) yX1 := by rw [eyX1]; exact hZX.pR (by omega)
  refine lv_aload_n hx hb dX5_init_13 rfl (lv_at hl 0 rfl) ?_
  refine lv_bipush (v := (-6 : Int32)) hx hb dX5_init_14 (by decide) ?_
  obtain ⟨yI2, eyI2⟩ : ∃ y : Im, y = pF I 83 a (-6 : Int32) := ⟨_, rfl⟩
  refine xp_5_3 C0 (show s.heap.size + 1 ≤ eB E + (n + 1) by omega) hw (okq (by omega) (by omega) hKa) rfl rfl wd138 dX5_init_16 eyI2 (fun H locs hw => ?_)
  have hZI : ZI (a + 2) yI2 := by rw [eyI2]; exact hZI.pF (by omega)
  refine lv_iconst (v := (0 : Int32)) hx hb dX5_init_19 (by decide) ?_
  refine lv_istore_n (lv' := [(1, .int (0 : Int32)), (0, .ref a)]) hx hb dX5_init_20 rfl hl (by decide) rfl (fun ls hl => ?_)
  have hg80 : ∀ i, gR (lpX noX (a + 1) (a + 2) 1 yX1 i) 80 a = some (a + 1) := by
    intro i
    rw [gR_lpX (eX := noX) (fun _ _ _ => rfl) (by omega)]
    rw [eyX1, gR_pR, if_pos ⟨rfl, rfl⟩]
  refine w5_init_21 C0 (I := yI2) (X := yX1) hB hs ha ha0 hKa hLY hg80 (hZI.mono (by omega)) (hZX.mono (by omega)) (fun H locs ls hw hZI hZX hl => ?_) 6 0 (by decide) _ _ H locs ls rfl rfl hw hl
  generalize eyI3 : (lpI noI (a + 2) 1 yI2 6) = yI3 at hw hZI ⊢
  generalize eyX4 : (lpX noX (a + 1) (a + 2) 1 yX1 6) = yX4 at hw hZX ⊢
  have eF : yI3 = (reelI (a) I) ∧ yX4 = (reelX (a) X) := by
    subst eyX4
    subst eyI3
    subst eyI2
    subst eyX1
    exact ⟨rfl, rfl⟩
  rw [← eF.1, ← eF.2]
  exact x_vret C0 hr hw dX5_init_49
set_option maxHeartbeats 4000000 in
set_option maxRecDepth 100000 in
theorem w6_init_15 {p : Program} {l : Launch} {e : Env} {s : State} {m : MethodId} {args : Array Value} {below : List Frame} {meth : Method} {c : Code} {E : EN} {n : Nat} {K len : Nat → Nat} {I : Im} {X : Xm} {Q : State → Prop} {a : Nat} (C0 : CX p s m args meth c E cX6_init RX6 2) (hB : eB E ≤ s.heap.size) (hs : s.heap.size = eB E + n) (ha : a + 1 = eB E + n) (ha0 : eB E ≤ a) (hKa : K a = 6) (hLY : LY K len a layScript) (hg : ∀ i, gR (lpX noX (a + 1) (a + 2) 1 X i) 96 a = some (a + 1)) (hZI : ZI (a + 2) I) (hZX : ZX (a + 2) X)
    (kx : ∀ (H : Heap) (locs : List Loc) (ls : Array Slot), WD E (n + 25, K, len) (lpI noI (a + 2) 1 I 24) (lpX noX (a + 1) (a + 2) 1 X 24) s.heap H locs → ZI (a + 26) (lpI noI (a + 2) 1 I 24) → ZX (a + 26) (lpX noX (a + 1) (a + 2) 1 X 24) → lv_has ls 2 [(1, .int (nI 24)), (0, .ref a)] → W p l e ({ frames := 2, cells := 25, slots := 144, locals := 40 } : Room) s m args below meth c H locs 25 144 Q (F0 m 43 ls [])) :
    ∀ (j i : Nat), i + j = 24 → ∀ (cells slots : Nat) (H : Heap) (locs : List Loc) (ls : Array Slot), cells = 1 + 1 * i → slots = 24 + 5 * i → WD E (n + (1 + 1 * i), K, len) (lpI noI (a + 2) 1 I i) (lpX noX (a + 1) (a + 2) 1 X i) s.heap H locs → lv_has ls 2 [(1, .int (nI i)), (0, .ref a)] → W p l e ({ frames := 2, cells := 25, slots := 144, locals := 40 } : Room) s m args below meth c H locs cells slots Q (F0 m 15 ls []) := by
  have hx := C0.1; have hb := C0.2.1; have hml := C0.2.2.1; have hown := C0.2.2.2.1; have hts := C0.2.2.2.2.1
  intro j
  induction j with
  | zero =>
    intro i hij cells slots H locs ls hc hsl hw hl
    obtain rfl : i = 24 := by omega
    subst hc; subst hsl
    refine lv_iload_n hx hb dX6_init_15 rfl (lv_at hl 0 rfl) ?_
    refine lv_aload_n hx hb dX6_init_16 rfl (lv_at hl 1 rfl) ?_
    refine xg_6_0 C0 hw (okq (by omega) (by omega) hKa) wd130 (hg _) dX6_init_17 ?_
    refine x_alen C0 hw 14 (okq (by omega) (by omega) (show K (a + 1) = 14 from (hLY 1 (by decide)).1)) (by decide) rfl dX6_init_20 ?_
    rw [show (n + (1 + 1 * 24), K, len).2.2 (a + 1) = 24 from (hLY 1 (by decide)).2]
    refine lv_icmp_ge (tgt := 43) hx hb dX6_init_21 (by decide) (fun _ => ?_) (fun q => absurd (Int32.le_refl _) q)
    exact kx H locs ls hw (ZI_lpI (fun c I hc h => h) (hZI.mono (by omega)) 24 (by omega)) (ZX_lpX (fun c X hc h => h) (hZX.mono (by omega)) (by omega) 24 (by omega)) hl
  | succ j ih =>
    intro i hij cells slots H locs ls hc hsl hw hl
    have hi : i < 24 := by omega
    refine lv_iload_n hx hb dX6_init_15 rfl (lv_at hl 0 rfl) ?_
    refine lv_aload_n hx hb dX6_init_16 rfl (lv_at hl 1 rfl) ?_
    refine xg_6_0 C0 hw (okq (by omega) (by omega) hKa) wd130 (hg _) dX6_init_17 ?_
    refine x_alen C0 hw 14 (okq (by omega) (by omega) (show K (a + 1) = 14 from (hLY 1 (by decide)).1)) (by decide) rfl dX6_init_20 ?_
    rw [show (n + (1 + 1 * i), K, len).2.2 (a + 1) = 24 from (hLY 1 (by decide)).2]
    refine lv_icmp_ge (tgt := 43) hx hb dX6_init_21 (by decide) (fun q => absurd q (by rw [nI_leI (by omega) (by omega)]; omega)) (fun _ => ?_)
    refine lv_aload_n hx hb dX6_init_24 rfl (lv_at hl 1 rfl) ?_
    refine xg_6_0 C0 hw (okq (by omega) (by omega) hKa) wd130 (hg _) dX6_init_25 ?_
    refine lv_iload_n hx hb dX6_init_28 rfl (lv_at hl 0 rfl) ?_
    have hZIi : ZI (a + (2 + 1 * i)) (lpI noI (a + 2) 1 I i) := ZI_lpI (fun c I hc h => h) (hZI.mono (by omega)) i (by omega)
    have hZXi : ZX (a + (2 + 1 * i)) (lpX noX (a + 1) (a + 2) 1 X i) := ZX_lpX (fun c X hc h => h) (hZX.mono (by omega)) (by omega) i (by omega)
    have hKe : K (a + (2 + 1 * i)) = 1 := by rw [(hLY (2 + 1 * i) (by show _ < (26 : Nat); omega)).1]; exact (show ∀ i < 24, (layScript.getD (2 + 1 * i) (99, 0)).1 = 1 by decide) i hi
    refine x_new C0 (n := n + (1 + 1 * i)) (q := a + (2 + 1 * i)) (show s.heap.size + cells = eB E + (n + (1 + 1 * i)) by omega) hB hw (by omega) hZIi hZXi 1 (by decide) rfl inG1 tyX1 tyX1_ok (by decide) hKe wd129 wd131 wd132 (show cells + 1 ≤ (25 : Nat) by omega) (show slots + 5 ≤ (144 : Nat) by omega) dX6_init_29 (fun H locs hw => ?_)
    refine lv_dup hx hb dX6_init_32 rfl ?_
    refine x_cv (I1 := (lpI noI (a + 2) 1 I i)) (X1 := (lpX noX (a + 1) (a + 2) 1 X i)) (x_runIN (As := []) (rest := [.ref (a + (2 + 1 * i)), .int (nI i), .ref (a + 1)]) C0 (c1_init l E (n + (1 + 1 * i) + 1) K len (lpI noI (a + 2) 1 I i) (lpX noX (a + 1) (a + 2) 1 X i) (a + (2 + 1 * i)) (okq (by omega) (by omega) hKe) (by omega) (hZIi.mono (by omega)) (hZXi.mono (by omega))) hw wd3 (show ("RadioCues$Script", 17, yX1_init, "RadioCues") ∈ nwM by decide +kernel) wd133 wd132 rfl ⟨rfl, rfl⟩ hyc1 ⟨Nat.le_of_ble_eq_true rfl, Nat.le_of_ble_eq_true rfl⟩ rfl hl.1 (Nat.le_of_ble_eq_true rfl) ⟨(show cells + 1 + 0 ≤ (25 : Nat) by omega), (show slots + 5 + 0 ≤ (144 : Nat) by omega)⟩ dX6_init_33) hw (fun H locs hw => ?_)
    obtain ⟨X2, eX2⟩ : ∃ y : Xm, y = pQ (lpX noX (a + 1) (a + 2) 1 X i) (a + 1) (nI i).toNatClampNeg (some (a + (2 + 1 * i))) := ⟨_, rfl⟩
    refine x_qast C0 (G := (n + (1 + 1 * i) + 1 + 0, K, len)) (show s.heap.size + (cells + 1 + 0) ≤ eB E + (n + (1 + 1 * i) + 1 + 0) by omega) hw 14 (okq (by omega) (by omega) (show K (a + 1) = 14 from (hLY 1 (by decide)).1)) (by decide) (okq (by omega) (by omega) hKe) (by decide) (r := (RX1, TX1, 5)) rfl rfl (by show inb (nI i) (len (a + 1)) = true; rw [show len (a + 1) = 24 from (hLY 1 (by decide)).2]; exact decide_eq_true (by rw [nI_toInt (by omega)]; omega)) dX6_init_36 eX2 (fun H locs hw => ?_)
    rw [nI_clamp (by omega)] at eX2
    refine lv_iinc (v := nI (i + 1)) (lv' := [(1, .int (nI (i + 1))), (0, .ref a)]) hx hb dX6_init_37 hl (k := 0) rfl (by rw [← nI_add]; rfl) (by decide) rfl (fun ls hl => ?_)
    refine lv_goto (tgt := 15) hx hb dX6_init_40 (by decide) ?_
    have eX3 : X2 = lpX noX (a + 1) (a + 2) 1 X (i + 1) := by rw [eX2, show a + (2 + 1 * i) = a + 2 + 1 * i by omega]; rfl
    have eI3 : (lpI noI (a + 2) 1 I i) = lpI noI (a + 2) 1 I (i + 1) := rfl
    rw [eX3, eI3, show n + (1 + 1 * i) + 1 + 0 = n + (1 + 1 * (i + 1)) by omega] at hw
    exact ih (i + 1) (by omega) _ _ H locs ls (by omega) (by omega) hw hl
set_option maxHeartbeats 4000000 in
set_option maxRecDepth 100000 in
theorem c6_init (l : Launch) (E : EN) (n : Nat) (K len : Nat → Nat) (I : Im) (X : Xm) (a : Nat) (ta : okA E (n, K, len) 6 a) (ha : a + 1 = eB E + n) (hZI : ZI (a + 1) I) (hZX : ZX (a + 1) X) (hLY : LY K len a layScript) : MT l yX6_init cX6_init 2 none ({ frames := 2, cells := 25, slots := 144, locals := 40 } : Room) E (n, K, len) I X [.ref a] (QV E (n + 25, K, len) I (scriptX (a) X)) 25 144 := by
  refine Met.ofW (cc := cX6_init) (maxL := 2) (ret := none) (by decide +kernel) rfl ?_
  intro p e s m args below meth c s₁ B hml hv
  obtain ⟨rfl, hw0, hSE⟩ := hv
  have C0 : CX p s m ([.ref a] : List Value).toArray meth c E cX6_init RX6 2 := ⟨B.exec, B.bytes, hml, findClass_of_methodNamed B.named, fun w hw => atoms_spec (ws := WS yX6_init cX6_init 2 none) B.pre w (List.mem_cons_of_mem _ hw), B.notSynchronized, hSE⟩
  have hs : s.heap.size = eB E + n := hw0.2.1
  have hB : eB E ≤ s.heap.size := by omega
  have hw : WD E (n, K, len) I X s.heap s.heap [] := ⟨hw0, va_S.rf⟩
  have hr := B.returns
  have hin2 : meth.name = "<init>" := (name_of_methodNamed B.named B.method).1
  have ha0 : eB E ≤ a := ta.1
  have hKa : K a = 6 := ta.2.2
  have hx := C0.1; have hb := C0.2.1; have hml := C0.2.2.1; have hown := C0.2.2.2.1; have hts := C0.2.2.2.2.1
  have hl := lv_entry ([.ref a]) (n := 2) (Nat.le_of_ble_eq_true rfl)
  rw [lg_entry_eq]
  generalize (lg_sl ([.ref a]) ++ List.replicate (2 - (lg_sl ([.ref a])).length) Slot.unset).toArray = ls at hl ⊢
  have hl : lv_has ls 2 [(0, .ref a)] := hl
  refine lv_aload_n hx hb dX6_init_0 rfl (lv_at hl 0 rfl) ?_
  refine x_obj C0 hl.1 wd128 (Nat.le_of_ble_eq_true rfl) (Nat.le_of_ble_eq_true rfl) dX6_init_1 ?_
  refine lv_aload_n hx hb dX6_init_4 rfl (lv_at hl 0 rfl) ?_
  refine lv_bipush (v := (24 : Int32)) hx hb dX6_init_5 (by decide) ?_
  refine x_newQ C0 (n := n + 0) (q := a + 1) (show s.heap.size + 0 = eB E + (n + 0) by omega) hB hw (by omega) hZX 14 (by decide) rfl (by decide) wd129 (N := 24) (by decide) (by decide) (by decide) (show K (a + 1) = 14 from (hLY 1 (by decide)).1) (show len (a + 1) = 24 from (hLY 1 (by decide)).2) (Nat.le_of_ble_eq_true rfl) (Nat.le_of_ble_eq_true rfl) dX6_init_7 (fun H locs hw => ?_)
  have hZI := hZI.mono (Nat.le_succ _); have hZX := hZX.mono (Nat.le_succ _)
  obtain ⟨yX1, eyX1⟩ : ∃ y : Xm, y = pR X 96 a (some (a + 1)) := ⟨_, rfl⟩
  refine xp_6_0 C0 (show s.heap.size + 1 ≤ eB E + (n + 1) by omega) hw hin2 rfl (okq (by omega) (by omega) hKa) (okq (by omega) (by omega) (show K (a + 1) = 14 from (hLY 1 (by decide)).1)) wd130 dX6_init_10 eyX1 (fun H locs hw => ?_)
  have hZX : ZX (a + 2) yX1 := by rw [eyX1]; exact hZX.pR (by omega)
  refine lv_iconst (v := (0 : Int32)) hx hb dX6_init_13 (by decide) ?_
  refine lv_istore_n (lv' := [(1, .int (0 : Int32)), (0, .ref a)]) hx hb dX6_init_14 rfl hl (by decide) rfl (fun ls hl => ?_)
  have hg96 : ∀ i, gR (lpX noX (a + 1) (a + 2) 1 yX1 i) 96 a = some (a + 1) := by
    intro i
    rw [gR_lpX (eX := noX) (fun _ _ _ => rfl) (by omega)]
    rw [eyX1, gR_pR, if_pos ⟨rfl, rfl⟩]
  refine w6_init_15 C0 (I := I) (X := yX1) hB hs ha ha0 hKa hLY hg96 (hZI.mono (by omega)) (hZX.mono (by omega)) (fun H locs ls hw hZI hZX hl => ?_) 24 0 (by decide) _ _ H locs ls rfl rfl hw hl
  generalize eyI2 : (lpI noI (a + 2) 1 I 24) = yI2 at hw hZI ⊢
  generalize eyX3 : (lpX noX (a + 1) (a + 2) 1 yX1 24) = yX3 at hw hZX ⊢
  have eF : yI2 = I ∧ yX3 = (scriptX (a) X) := by
    subst eyX3
    subst eyI2
    subst eyX1
    exact ⟨rfl, rfl⟩
  rw [← eF.1, ← eF.2]
  exact x_vret C0 hr hw dX6_init_43
set_option maxHeartbeats 4000000 in
set_option maxRecDepth 100000 in
theorem w4_init_87 {p : Program} {l : Launch} {e : Env} {s : State} {m : MethodId} {args : Array Value} {below : List Frame} {meth : Method} {c : Code} {E : EN} {n : Nat} {K len : Nat → Nat} {I : Im} {X : Xm} {Q : State → Prop} {a : Nat} (C0 : CX p s m args meth c E cX4_init RX4 2) (hB : eB E ≤ s.heap.size) (hs : s.heap.size = eB E + n) (ha : a + 1 = eB E + n) (ha0 : eB E ≤ a) (hKa : K a = 4) (hLY : LY K len a layPlay) (hg : ∀ i, gR (lpX reelX (a + 28) (a + 36) 8 X i) 66 a = some (a + 28)) (hZI : ZI (a + 36) I) (hZX : ZX (a + 36) X)
    (kx : ∀ (H : Heap) (locs : List Loc) (ls : Array Slot), WD E (n + 67, K, len) (lpI reelI (a + 36) 8 I 4) (lpX reelX (a + 28) (a + 36) 8 X 4) s.heap H locs → ZI (a + 68) (lpI reelI (a + 36) 8 I 4) → ZX (a + 68) (lpX reelX (a + 28) (a + 36) 8 X 4) → lv_has ls 2 [(1, .int (nI 4)), (0, .ref a)] → W p l e ({ frames := 3, cells := 71, slots := 1607, locals := 61 } : Room) s m args below meth c H locs 67 1599 Q (F0 m 115 ls [])) :
    ∀ (j i : Nat), i + j = 4 → ∀ (cells slots : Nat) (H : Heap) (locs : List Loc) (ls : Array Slot), cells = 35 + 8 * i → slots = 1459 + 35 * i → WD E (n + (35 + 8 * i), K, len) (lpI reelI (a + 36) 8 I i) (lpX reelX (a + 28) (a + 36) 8 X i) s.heap H locs → lv_has ls 2 [(1, .int (nI i)), (0, .ref a)] → W p l e ({ frames := 3, cells := 71, slots := 1607, locals := 61 } : Room) s m args below meth c H locs cells slots Q (F0 m 87 ls []) := by
  have hx := C0.1; have hb := C0.2.1; have hml := C0.2.2.1; have hown := C0.2.2.2.1; have hts := C0.2.2.2.2.1
  intro j
  induction j with
  | zero =>
    intro i hij cells slots H locs ls hc hsl hw hl
    obtain rfl : i = 4 := by omega
    subst hc; subst hsl
    refine lv_iload_n hx hb dX4_init_87 rfl (lv_at hl 0 rfl) ?_
    refine lv_aload_n hx hb dX4_init_88 rfl (lv_at hl 1 rfl) ?_
    refine xg_4_2 C0 hw (okq (by omega) (by omega) hKa) wd149 (hg _) dX4_init_89 ?_
    refine x_alen C0 hw 16 (okq (by omega) (by omega) (show K (a + 28) = 16 from (hLY 28 (by decide)).1)) (by decide) rfl dX4_init_92 ?_
    rw [show (n + (35 + 8 * 4), K, len).2.2 (a + 28) = 4 from (hLY 28 (by decide)).2]
    refine lv_icmp_ge (tgt := 115) hx hb dX4_init_93 (by decide) (fun _ => ?_) (fun q => absurd (Int32.le_refl _) q)
    exact kx H locs ls hw (ZI_lpI (fun c I hc h => ZI_reelI h (by omega)) (hZI.mono (by omega)) 4 (by omega)) (ZX_lpX (fun c X hc h => ZX_reelX h (by omega)) (hZX.mono (by omega)) (by omega) 4 (by omega)) hl
  | succ j ih =>
    intro i hij cells slots H locs ls hc hsl hw hl
    have hi : i < 4 := by omega
    refine lv_iload_n hx hb dX4_init_87 rfl (lv_at hl 0 rfl) ?_
    refine lv_aload_n hx hb dX4_init_88 rfl (lv_at hl 1 rfl) ?_
    refine xg_4_2 C0 hw (okq (by omega) (by omega) hKa) wd149 (hg _) dX4_init_89 ?_
    refine x_alen C0 hw 16 (okq (by omega) (by omega) (show K (a + 28) = 16 from (hLY 28 (by decide)).1)) (by decide) rfl dX4_init_92 ?_
    rw [show (n + (35 + 8 * i), K, len).2.2 (a + 28) = 4 from (hLY 28 (by decide)).2]
    refine lv_icmp_ge (tgt := 115) hx hb dX4_init_93 (by decide) (fun q => absurd q (by rw [nI_leI (by omega) (by omega)]; omega)) (fun _ => ?_)
    refine lv_aload_n hx hb dX4_init_96 rfl (lv_at hl 1 rfl) ?_
    refine xg_4_2 C0 hw (okq (by omega) (by omega) hKa) wd149 (hg _) dX4_init_97 ?_
    refine lv_iload_n hx hb dX4_init_100 rfl (lv_at hl 0 rfl) ?_
    have hZIi : ZI (a + (36 + 8 * i)) (lpI reelI (a + 36) 8 I i) := ZI_lpI (fun c I hc h => ZI_reelI h (by omega)) (hZI.mono (by omega)) i (by omega)
    have hZXi : ZX (a + (36 + 8 * i)) (lpX reelX (a + 28) (a + 36) 8 X i) := ZX_lpX (fun c X hc h => ZX_reelX h (by omega)) (hZX.mono (by omega)) (by omega) i (by omega)
    have hLe : LY K len (a + (36 + 8 * i)) layReel := LY.sub hLY (36 + 8 * i) layReel (by show _ + 8 ≤ (72 : Nat); omega) (fun q hq => (show ∀ i < 4, ∀ q < 8, layPlay.getD (36 + 8 * i + q) (99, 0) = layReel.getD q (99, 0) by decide +kernel) i hi q hq)
    have hKe : K (a + (36 + 8 * i)) = 5 := (hLe 0 (by decide)).1
    refine x_new C0 (n := n + (35 + 8 * i)) (q := a + (36 + 8 * i)) (show s.heap.size + cells = eB E + (n + (35 + 8 * i)) by omega) hB hw (by omega) hZIi hZXi 5 (by decide) rfl inG5 tyX5 tyX5_ok (by decide) hKe wd148 wd158 wd159 (show cells + 1 ≤ (71 : Nat) by omega) (show slots + 5 ≤ (1607 : Nat) by omega) dX4_init_101 (fun H locs hw => ?_)
    refine lv_dup hx hb dX4_init_104 rfl ?_
    refine x_cv (I1 := (reelI (a + (36 + 8 * i)) (lpI reelI (a + 36) 8 I i))) (X1 := (reelX (a + (36 + 8 * i)) (lpX reelX (a + 28) (a + 36) 8 X i))) (x_runI (As := []) (rest := [.ref (a + (36 + 8 * i)), .int (nI i), .ref (a + 28)]) C0 (c5_init l E (n + (35 + 8 * i) + 1) K len (lpI reelI (a + 36) 8 I i) (lpX reelX (a + 28) (a + 36) 8 X i) (a + (36 + 8 * i)) (okq (by omega) (by omega) hKe) (by omega) (hZIi.mono (by omega)) (hZXi.mono (by omega)) hLe) hw wd13 wd165 wd166 wd159 rfl ⟨rfl, rfl⟩ hyc5 ⟨Nat.le_of_ble_eq_true rfl, Nat.le_of_ble_eq_true rfl⟩ rfl hl.1 (Nat.le_of_ble_eq_true rfl) ⟨(show cells + 1 + 7 ≤ (71 : Nat) by omega), (show slots + 5 + 30 ≤ (1607 : Nat) by omega)⟩ dX4_init_105) hw (fun H locs hw => ?_)
    obtain ⟨X2, eX2⟩ : ∃ y : Xm, y = pQ (reelX (a + (36 + 8 * i)) (lpX reelX (a + 28) (a + 36) 8 X i)) (a + 28) (nI i).toNatClampNeg (some (a + (36 + 8 * i))) := ⟨_, rfl⟩
    refine x_qast C0 (G := (n + (35 + 8 * i) + 1 + 7, K, len)) (show s.heap.size + (cells + 1 + 7) ≤ eB E + (n + (35 + 8 * i) + 1 + 7) by omega) hw 16 (okq (by omega) (by omega) (show K (a + 28) = 16 from (hLY 28 (by decide)).1)) (by decide) (okq (by omega) (by omega) hKe) (by decide) (r := (RX5, TX5, 5)) rfl rfl (by show inb (nI i) (len (a + 28)) = true; rw [show len (a + 28) = 4 from (hLY 28 (by decide)).2]; exact decide_eq_true (by rw [nI_toInt (by omega)]; omega)) dX4_init_108 eX2 (fun H locs hw => ?_)
    rw [nI_clamp (by omega)] at eX2
    refine lv_iinc (v := nI (i + 1)) (lv' := [(1, .int (nI (i + 1))), (0, .ref a)]) hx hb dX4_init_109 hl (k := 0) rfl (by rw [← nI_add]; rfl) (by decide) rfl (fun ls hl => ?_)
    refine lv_goto (tgt := 87) hx hb dX4_init_112 (by decide) ?_
    have eX3 : X2 = lpX reelX (a + 28) (a + 36) 8 X (i + 1) := by rw [eX2, show a + (36 + 8 * i) = a + 36 + 8 * i by omega]; rfl
    have eI3 : (reelI (a + (36 + 8 * i)) (lpI reelI (a + 36) 8 I i)) = lpI reelI (a + 36) 8 I (i + 1) := by rw [show a + (36 + 8 * i) = a + 36 + 8 * i by omega]; rfl
    rw [eX3, eI3, show n + (35 + 8 * i) + 1 + 7 = n + (35 + 8 * (i + 1)) by omega] at hw
    exact ih (i + 1) (by omega) _ _ H locs ls (by omega) (by omega) hw hl
set_option maxHeartbeats 4000000 in
set_option maxRecDepth 100000 in
theorem w4_init_117 {p : Program} {l : Launch} {e : Env} {s : State} {m : MethodId} {args : Array Value} {below : List Frame} {meth : Method} {c : Code} {E : EN} {n : Nat} {K len : Nat → Nat} {I : Im} {X : Xm} {Q : State → Prop} {a : Nat} (C0 : CX p s m args meth c E cX4_init RX4 2) (hB : eB E ≤ s.heap.size) (hs : s.heap.size = eB E + n) (ha : a + 1 = eB E + n) (ha0 : eB E ≤ a) (hKa : K a = 4) (hLY : LY K len a layPlay) (hg : ∀ i, gR (lpX noX (a + 29) (a + 68) 1 X i) 67 a = some (a + 29)) (hZI : ZI (a + 68) I) (hZX : ZX (a + 68) X)
    (kx : ∀ (H : Heap) (locs : List Loc) (ls : Array Slot), WD E (n + 71, K, len) (lpI chanI (a + 68) 1 I 4) (lpX noX (a + 29) (a + 68) 1 X 4) s.heap H locs → ZI (a + 72) (lpI chanI (a + 68) 1 I 4) → ZX (a + 72) (lpX noX (a + 29) (a + 68) 1 X 4) → lv_has ls 2 [(1, .int (nI 4)), (0, .ref a)] → W p l e ({ frames := 3, cells := 71, slots := 1607, locals := 61 } : Room) s m args below meth c H locs 71 1607 Q (F0 m 145 ls [])) :
    ∀ (j i : Nat), i + j = 4 → ∀ (cells slots : Nat) (H : Heap) (locs : List Loc) (ls : Array Slot), cells = 67 + 1 * i → slots = 1599 + 2 * i → WD E (n + (67 + 1 * i), K, len) (lpI chanI (a + 68) 1 I i) (lpX noX (a + 29) (a + 68) 1 X i) s.heap H locs → lv_has ls 2 [(1, .int (nI i)), (0, .ref a)] → W p l e ({ frames := 3, cells := 71, slots := 1607, locals := 61 } : Room) s m args below meth c H locs cells slots Q (F0 m 117 ls []) := by
  have hx := C0.1; have hb := C0.2.1; have hml := C0.2.2.1; have hown := C0.2.2.2.1; have hts := C0.2.2.2.2.1
  intro j
  induction j with
  | zero =>
    intro i hij cells slots H locs ls hc hsl hw hl
    obtain rfl : i = 4 := by omega
    subst hc; subst hsl
    refine lv_iload_n hx hb dX4_init_117 rfl (lv_at hl 0 rfl) ?_
    refine lv_aload_n hx hb dX4_init_118 rfl (lv_at hl 1 rfl) ?_
    refine xg_4_3 C0 hw (okq (by omega) (by omega) hKa) wd151 (hg _) dX4_init_119 ?_
    refine x_alen C0 hw 13 (okq (by omega) (by omega) (show K (a + 29) = 13 from (hLY 29 (by decide)).1)) (by decide) rfl dX4_init_122 ?_
    rw [show (n + (67 + 1 * 4), K, len).2.2 (a + 29) = 4 from (hLY 29 (by decide)).2]
    refine lv_icmp_ge (tgt := 145) hx hb dX4_init_123 (by decide) (fun _ => ?_) (fun q => absurd (Int32.le_refl _) q)
    exact kx H locs ls hw (ZI_lpI (fun c I hc h => ZI_chanI h (by omega)) (hZI.mono (by omega)) 4 (by omega)) (ZX_lpX (fun c X hc h => h) (hZX.mono (by omega)) (by omega) 4 (by omega)) hl
  | succ j ih =>
    intro i hij cells slots H locs ls hc hsl hw hl
    have hi : i < 4 := by omega
    refine lv_iload_n hx hb dX4_init_117 rfl (lv_at hl 0 rfl) ?_
    refine lv_aload_n hx hb dX4_init_118 rfl (lv_at hl 1 rfl) ?_
    refine xg_4_3 C0 hw (okq (by omega) (by omega) hKa) wd151 (hg _) dX4_init_119 ?_
    refine x_alen C0 hw 13 (okq (by omega) (by omega) (show K (a + 29) = 13 from (hLY 29 (by decide)).1)) (by decide) rfl dX4_init_122 ?_
    rw [show (n + (67 + 1 * i), K, len).2.2 (a + 29) = 4 from (hLY 29 (by decide)).2]
    refine lv_icmp_ge (tgt := 145) hx hb dX4_init_123 (by decide) (fun q => absurd q (by rw [nI_leI (by omega) (by omega)]; omega)) (fun _ => ?_)
    refine lv_aload_n hx hb dX4_init_126 rfl (lv_at hl 1 rfl) ?_
    refine xg_4_3 C0 hw (okq (by omega) (by omega) hKa) wd151 (hg _) dX4_init_127 ?_
    refine lv_iload_n hx hb dX4_init_130 rfl (lv_at hl 0 rfl) ?_
    have hZIi : ZI (a + (68 + 1 * i)) (lpI chanI (a + 68) 1 I i) := ZI_lpI (fun c I hc h => ZI_chanI h (by omega)) (hZI.mono (by omega)) i (by omega)
    have hZXi : ZX (a + (68 + 1 * i)) (lpX noX (a + 29) (a + 68) 1 X i) := ZX_lpX (fun c X hc h => h) (hZX.mono (by omega)) (by omega) i (by omega)
    have hKe : K (a + (68 + 1 * i)) = 0 := by rw [(hLY (68 + 1 * i) (by show _ < (72 : Nat); omega)).1]; exact (show ∀ i < 4, (layPlay.getD (68 + 1 * i) (99, 0)).1 = 0 by decide) i hi
    refine x_new C0 (n := n + (67 + 1 * i)) (q := a + (68 + 1 * i)) (show s.heap.size + cells = eB E + (n + (67 + 1 * i)) by omega) hB hw (by omega) hZIi hZXi 0 (by decide) rfl inG0 tyX0 tyX0_ok (by decide) hKe wd150 wd160 wd161 (show cells + 1 ≤ (71 : Nat) by omega) (show slots + 2 ≤ (1607 : Nat) by omega) dX4_init_131 (fun H locs hw => ?_)
    refine lv_dup hx hb dX4_init_134 rfl ?_
    refine x_cv (I1 := (chanI (a + (68 + 1 * i)) (lpI chanI (a + 68) 1 I i))) (X1 := (lpX noX (a + 29) (a + 68) 1 X i)) (x_runIN (As := []) (rest := [.ref (a + (68 + 1 * i)), .int (nI i), .ref (a + 29)]) C0 (c0_init l E (n + (67 + 1 * i) + 1) K len (lpI chanI (a + 68) 1 I i) (lpX noX (a + 29) (a + 68) 1 X i) (a + (68 + 1 * i)) (okq (by omega) (by omega) hKe) (by omega) (hZIi.mono (by omega)) (hZXi.mono (by omega))) hw wd0 (show ("RadioCues$Play", 48, yX0_init, "RadioCues") ∈ nwM by decide +kernel) wd167 wd161 rfl ⟨rfl, rfl⟩ hyc0 ⟨Nat.le_of_ble_eq_true rfl, Nat.le_of_ble_eq_true rfl⟩ rfl hl.1 (Nat.le_of_ble_eq_true rfl) ⟨(show cells + 1 + 0 ≤ (71 : Nat) by omega), (show slots + 2 + 0 ≤ (1607 : Nat) by omega)⟩ dX4_init_135) hw (fun H locs hw => ?_)
    obtain ⟨X2, eX2⟩ : ∃ y : Xm, y = pQ (lpX noX (a + 29) (a + 68) 1 X i) (a + 29) (nI i).toNatClampNeg (some (a + (68 + 1 * i))) := ⟨_, rfl⟩
    refine x_qast C0 (G := (n + (67 + 1 * i) + 1 + 0, K, len)) (show s.heap.size + (cells + 1 + 0) ≤ eB E + (n + (67 + 1 * i) + 1 + 0) by omega) hw 13 (okq (by omega) (by omega) (show K (a + 29) = 13 from (hLY 29 (by decide)).1)) (by decide) (okq (by omega) (by omega) hKe) (by decide) (r := (RX0, TX0, 2)) rfl rfl (by show inb (nI i) (len (a + 29)) = true; rw [show len (a + 29) = 4 from (hLY 29 (by decide)).2]; exact decide_eq_true (by rw [nI_toInt (by omega)]; omega)) dX4_init_138 eX2 (fun H locs hw => ?_)
    rw [nI_clamp (by omega)] at eX2
    refine lv_iinc (v := nI (i + 1)) (lv' := [(1, .int (nI (i + 1))), (0, .ref a)]) hx hb dX4_init_139 hl (k := 0) rfl (by rw [← nI_add]; rfl) (by decide) rfl (fun ls hl => ?_)
    refine lv_goto (tgt := 117) hx hb dX4_init_142 (by decide) ?_
    have eX3 : X2 = lpX noX (a + 29) (a + 68) 1 X (i + 1) := by rw [eX2, show a + (68 + 1 * i) = a + 68 + 1 * i by omega]; rfl
    have eI3 : (chanI (a + (68 + 1 * i)) (lpI chanI (a + 68) 1 I i)) = lpI chanI (a + 68) 1 I (i + 1) := by rw [show a + (68 + 1 * i) = a + 68 + 1 * i by omega]; rfl
    rw [eX3, eI3, show n + (67 + 1 * i) + 1 + 0 = n + (67 + 1 * (i + 1)) by omega] at hw
    exact ih (i + 1) (by omega) _ _ H locs ls (by omega) (by omega) hw hl
set_option maxHeartbeats 4000000 in
set_option maxRecDepth 100000 in
theorem c4_init (l : Launch) (E : EN) (n : Nat) (K len : Nat → Nat) (I : Im) (X : Xm) (a : Nat) (ta : okA E (n, K, len) 4 a) (ha : a + 1 = eB E + n) (hZI : ZI (a + 1) I) (hZX : ZX (a + 1) X) (hLY : LY K len a layPlay) : MT l yX4_init cX4_init 2 none ({ frames := 3, cells := 71, slots := 1607, locals := 61 } : Room) E (n, K, len) I X [.ref a] (QV E (n + 71, K, len) (playI (a) I) (playX (a) X)) 71 1607 := by
  refine Met.ofW (cc := cX4_init) (maxL := 2) (ret := none) (by decide +kernel) rfl ?_
  intro p e s m args below meth c s₁ B hml hv
  obtain ⟨rfl, hw0, hSE⟩ := hv
  have C0 : CX p s m ([.ref a] : List Value).toArray meth c E cX4_init RX4 2 := ⟨B.exec, B.bytes, hml, findClass_of_methodNamed B.named, fun w hw => atoms_spec (ws := WS yX4_init cX4_init 2 none) B.pre w (List.mem_cons_of_mem _ hw), B.notSynchronized, hSE⟩
  have hs : s.heap.size = eB E + n := hw0.2.1
  have hB : eB E ≤ s.heap.size := by omega
  have hw : WD E (n, K, len) I X s.heap s.heap [] := ⟨hw0, va_S.rf⟩
  have hr := B.returns
  have hin2 : meth.name = "<init>" := (name_of_methodNamed B.named B.method).1
  have ha0 : eB E ≤ a := ta.1
  have hKa : K a = 4 := ta.2.2
  have hx := C0.1; have hb := C0.2.1; have hml := C0.2.2.1; have hown := C0.2.2.2.1; have hts := C0.2.2.2.2.1
  have hl := lv_entry ([.ref a]) (n := 2) (Nat.le_of_ble_eq_true rfl)
  rw [lg_entry_eq]
  generalize (lg_sl ([.ref a]) ++ List.replicate (2 - (lg_sl ([.ref a])).length) Slot.unset).toArray = ls at hl ⊢
  have hl : lv_has ls 2 [(0, .ref a)] := hl
  refine lv_aload_n hx hb dX4_init_0 rfl (lv_at hl 0 rfl) ?_
  refine x_obj C0 hl.1 wd142 (Nat.le_of_ble_eq_true rfl) (Nat.le_of_ble_eq_true rfl) dX4_init_1 ?_
  refine lv_aload_n hx hb dX4_init_4 rfl (lv_at hl 0 rfl) ?_
  refine lv_iconst (v := (4 : Int32)) hx hb dX4_init_5 (by decide) ?_
  refine x_newI C0 (atype := .int) (n := n + 0) (q := a + 1) (show s.heap.size + 0 = eB E + (n + 0) by omega) hB hw (by omega) hZI 11 (by decide) (by decide) (ty := .int) rfl (fun _ => rfl) rfl rfl wd115 (N := 4) (by decide) (by decide) (by decide) (show K (a + 1) = 11 from (hLY 1 (by decide)).1) (show len (a + 1) = 4 from (hLY 1 (by decide)).2) (Nat.le_of_ble_eq_true rfl) (Nat.le_of_ble_eq_true rfl) dX4_init_6 (fun H locs hw => ?_)
  have hZI := hZI.mono (Nat.le_succ _); have hZX := hZX.mono (Nat.le_succ _)
  refine lv_dup hx hb dX4_init_8 rfl ?_
  refine lv_iconst (v := (0 : Int32)) hx hb dX4_init_9 (by decide) ?_
  refine lv_iconst (v := (4 : Int32)) hx hb dX4_init_10 (by decide) ?_
  obtain ⟨yI1, eyI1⟩ : ∃ y : Im, y = pA I (a + 1) 0 (4 : Int32) := ⟨_, rfl⟩
  refine x_iast C0 (show s.heap.size + 1 ≤ eB E + (n + 1) by omega) hw (okq (by omega) (by omega) (show K (a + 1) = 11 from (hLY 1 (by decide)).1)) (by show inb (0 : Int32) (len (a + 1)) = true; rw [show len (a + 1) = _ from (hLY 1 (by decide)).2]; decide) dX4_init_11 eyI1 (fun H locs hw => ?_)
  have hZI : ZI (a + 2) yI1 := by rw [eyI1]; exact hZI.pA (by omega)
  refine lv_dup hx hb dX4_init_12 rfl ?_
  refine lv_iconst (v := (1 : Int32)) hx hb dX4_init_13 (by decide) ?_
  refine lv_iconst (v := (2 : Int32)) hx hb dX4_init_14 (by decide) ?_
  obtain ⟨yI2, eyI2⟩ : ∃ y : Im, y = pA yI1 (a + 1) 1 (2 : Int32) := ⟨_, rfl⟩
  refine x_iast C0 (show s.heap.size + 1 ≤ eB E + (n + 1) by omega) hw (okq (by omega) (by omega) (show K (a + 1) = 11 from (hLY 1 (by decide)).1)) (by show inb (1 : Int32) (len (a + 1)) = true; rw [show len (a + 1) = _ from (hLY 1 (by decide)).2]; decide) dX4_init_15 eyI2 (fun H locs hw => ?_)
  have hZI : ZI (a + 2) yI2 := by rw [eyI2]; exact hZI.pA (by omega)
  refine lv_dup hx hb dX4_init_16 rfl ?_
  refine lv_iconst (v := (2 : Int32)) hx hb dX4_init_17 (by decide) ?_
  refine lv_bipush (v := (10 : Int32)) hx hb dX4_init_18 (by decide) ?_
  obtain ⟨yI3, eyI3⟩ : ∃ y : Im, y = pA yI2 (a + 1) 2 (10 : Int32) := ⟨_, rfl⟩
  refine x_iast C0 (show s.heap.size + 1 ≤ eB E + (n + 1) by omega) hw (okq (by omega) (by omega) (show K (a + 1) = 11 from (hLY 1 (by decide)).1)) (by show inb (2 : Int32) (len (a + 1)) = true; rw [show len (a + 1) = _ from (hLY 1 (by decide)).2]; decide) dX4_init_20 eyI3 (fun H locs hw => ?_)
  have hZI : ZI (a + 2) yI3 := by rw [eyI3]; exact hZI.pA (by omega)
  refine lv_dup hx hb dX4_init_21 rfl ?_
  refine lv_iconst (v := (3 : Int32)) hx hb dX4_init_22 (by decide) ?_
  refine lv_sipush (v := (150 : Int32)) hx hb dX4_init_23 (by decide) ?_
  obtain ⟨yI4, eyI4⟩ : ∃ y : Im, y = pA yI3 (a + 1) 3 (150 : Int32) := ⟨_, rfl⟩
  refine x_iast C0 (show s.heap.size + 1 ≤ eB E + (n + 1) by omega) hw (okq (by omega) (by omega) (show K (a + 1) = 11 from (hLY 1 (by decide)).1)) (by show inb (3 : Int32) (len (a + 1)) = true; rw [show len (a + 1) = _ from (hLY 1 (by decide)).2]; decide) dX4_init_26 eyI4 (fun H locs hw => ?_)
  have hZI : ZI (a + 2) yI4 := by rw [eyI4]; exact hZI.pA (by omega)
  obtain ⟨yX5, eyX5⟩ : ∃ y : Xm, y = pR X 64 a (some (a + 1)) := ⟨_, rfl⟩
  refine xp_4_0 C0 (show s.heap.size + 1 ≤ eB E + (n + 1) by omega) hw hin2 rfl (okq (by omega) (by omega) hKa) (okq (by omega) (by omega) (show K (a + 1) = 11 from (hLY 1 (by decide)).1)) wd143 dX4_init_27 eyX5 (fun H locs hw => ?_)
  have hZX : ZX (a + 2) yX5 := by rw [eyX5]; exact hZX.pR (by omega)
  refine lv_aload_n hx hb dX4_init_30 rfl (lv_at hl 0 rfl) ?_
  refine x_new C0 (n := n + 1) (q := a + 2) (show s.heap.size + 1 = eB E + (n + 1) by omega) hB hw (by omega) hZI hZX 6 (by decide) rfl inG6 tyX6 tyX6_ok (by decide) (show K (a + 2) = 6 from (hLY 2 (by decide)).1) wd144 wd145 wd146 (Nat.le_of_ble_eq_true rfl) (Nat.le_of_ble_eq_true rfl) dX4_init_31 (fun H locs hw => ?_)
  have hZI := hZI.mono (Nat.le_succ _); have hZX := hZX.mono (Nat.le_succ _)
  refine lv_dup hx hb dX4_init_34 rfl ?_
  refine x_cv (I1 := yI4) (X1 := (scriptX (a + 2) yX5)) (x_runI (As := []) (rest := [.ref (a + 2), .ref a]) C0 (c6_init l E (n + 2) K len yI4 yX5 (a + 2) (okq (by omega) (by omega) (show K (a + 2) = 6 from (hLY 2 (by decide)).1)) (by omega) (hZI.mono (by omega)) (hZX.mono (by omega)) (LY.sub hLY 2 layScript (by decide) (by decide))) hw wd11 wd162 wd163 wd146 rfl ⟨rfl, rfl⟩ hyc6 ⟨Nat.le_of_ble_eq_true rfl, Nat.le_of_ble_eq_true rfl⟩ rfl hl.1 (Nat.le_of_ble_eq_true rfl) ⟨Nat.le_of_ble_eq_true rfl, Nat.le_of_ble_eq_true rfl⟩ dX4_init_35) hw (fun H locs hw => ?_)
  have hZI : ZI (a + 28) yI4 := hZI.mono (by omega)
  have hZX : ZX (a + 28) (scriptX (a + 2) yX5) := ZX_scriptX (hZX.mono (by omega)) (by omega)
  generalize eyX6 : (scriptX (a + 2) yX5) = yX6 at hw hZX ⊢
  obtain ⟨yX7, eyX7⟩ : ∃ y : Xm, y = pR yX6 65 a (some (a + 2)) := ⟨_, rfl⟩
  refine xp_4_1 C0 (show s.heap.size + 27 ≤ eB E + (n + 27) by omega) hw hin2 rfl (okq (by omega) (by omega) hKa) (okq (by omega) (by omega) (show K (a + 2) = 6 from (hLY 2 (by decide)).1)) wd147 dX4_init_38 eyX7 (fun H locs hw => ?_)
  have hZX : ZX (a + 28) yX7 := by rw [eyX7]; exact hZX.pR (by omega)
  refine lv_aload_n hx hb dX4_init_41 rfl (lv_at hl 0 rfl) ?_
  refine lv_iconst (v := (4 : Int32)) hx hb dX4_init_42 (by decide) ?_
  refine x_newQ C0 (n := n + 27) (q := a + 28) (show s.heap.size + 27 = eB E + (n + 27) by omega) hB hw (by omega) hZX 16 (by decide) rfl (by decide) wd148 (N := 4) (by decide) (by decide) (by decide) (show K (a + 28) = 16 from (hLY 28 (by decide)).1) (show len (a + 28) = 4 from (hLY 28 (by decide)).2) (Nat.le_of_ble_eq_true rfl) (Nat.le_of_ble_eq_true rfl) dX4_init_43 (fun H locs hw => ?_)
  have hZI := hZI.mono (Nat.le_succ _); have hZX := hZX.mono (Nat.le_succ _)
  obtain ⟨yX8, eyX8⟩ : ∃ y : Xm, y = pR yX7 66 a (some (a + 28)) := ⟨_, rfl⟩
  refine xp_4_2 C0 (show s.heap.size + 28 ≤ eB E + (n + 28) by omega) hw hin2 rfl (okq (by omega) (by omega) hKa) (okq (by omega) (by omega) (show K (a + 28) = 16 from (hLY 28 (by decide)).1)) wd149 dX4_init_46 eyX8 (fun H locs hw => ?_)
  have hZX : ZX (a + 29) yX8 := by rw [eyX8]; exact hZX.pR (by omega)
  refine lv_aload_n hx hb dX4_init_49 rfl (lv_at hl 0 rfl) ?_
  refine lv_iconst (v := (4 : Int32)) hx hb dX4_init_50 (by decide) ?_
  refine x_newQ C0 (n := n + 28) (q := a + 29) (show s.heap.size + 28 = eB E + (n + 28) by omega) hB hw (by omega) hZX 13 (by decide) rfl (by decide) wd150 (N := 4) (by decide) (by decide) (by decide) (show K (a + 29) = 13 from (hLY 29 (by decide)).1) (show len (a + 29) = 4 from (hLY 29 (by decide)).2) (Nat.le_of_ble_eq_true rfl) (Nat.le_of_ble_eq_true rfl) dX4_init_51 (fun H locs hw => ?_)
  have hZI := hZI.mono (Nat.le_succ _); have hZX := hZX.mono (Nat.le_succ _)
  obtain ⟨yX9, eyX9⟩ : ∃ y : Xm, y = pR yX8 67 a (some (a + 29)) := ⟨_, rfl⟩
  refine xp_4_3 C0 (show s.heap.size + 29 ≤ eB E + (n + 29) by omega) hw hin2 rfl (okq (by omega) (by omega) hKa) (okq (by omega) (by omega) (show K (a + 29) = 13 from (hLY 29 (by decide)).1)) wd151 dX4_init_54 eyX9 (fun H locs hw => ?_)
  have hZX : ZX (a + 30) yX9 := by rw [eyX9]; exact hZX.pR (by omega)
  refine lv_aload_n hx hb dX4_init_57 rfl (lv_at hl 0 rfl) ?_
  refine x_new C0 (n := n + 29) (q := a + 30) (show s.heap.size + 29 = eB E + (n + 29) by omega) hB hw (by omega) hZI hZX 2 (by decide) rfl inG2 tyX2 tyX2_ok (by decide) (show K (a + 30) = 2 from (hLY 30 (by decide)).1) wd152 wd153 wd154 (Nat.le_of_ble_eq_true rfl) (Nat.le_of_ble_eq_true rfl) dX4_init_58 (fun H locs hw => ?_)
  have hZI := hZI.mono (Nat.le_succ _); have hZX := hZX.mono (Nat.le_succ _)
  refine lv_dup hx hb dX4_init_61 rfl ?_
  refine x_cv (I1 := yI4) (X1 := (doorsX (a + 30) yX9)) (x_runIN (As := []) (rest := [.ref (a + 30), .ref a]) C0 (c2_init l E (n + 30) K len yI4 yX9 (a + 30) (okq (by omega) (by omega) (show K (a + 30) = 2 from (hLY 30 (by decide)).1)) (by omega) (hZI.mono (by omega)) (hZX.mono (by omega)) (LY.sub hLY 30 layDoors (by decide) (by decide))) hw wd5 (show ("RadioCues$Play", 36, yX2_init, "RadioCues") ∈ nwM by decide +kernel) wd164 wd154 rfl ⟨rfl, rfl⟩ hyc2 ⟨Nat.le_of_ble_eq_true rfl, Nat.le_of_ble_eq_true rfl⟩ rfl hl.1 (Nat.le_of_ble_eq_true rfl) ⟨Nat.le_of_ble_eq_true rfl, Nat.le_of_ble_eq_true rfl⟩ dX4_init_62) hw (fun H locs hw => ?_)
  have hZI : ZI (a + 34) yI4 := hZI.mono (by omega)
  have hZX : ZX (a + 34) (doorsX (a + 30) yX9) := ZX_doorsX (hZX.mono (by omega)) (by omega)
  generalize eyX10 : (doorsX (a + 30) yX9) = yX10 at hw hZX ⊢
  obtain ⟨yX11, eyX11⟩ : ∃ y : Xm, y = pR yX10 68 a (some (a + 30)) := ⟨_, rfl⟩
  refine xp_4_4 C0 (show s.heap.size + 33 ≤ eB E + (n + 33) by omega) hw hin2 rfl (okq (by omega) (by omega) hKa) (okq (by omega) (by omega) (show K (a + 30) = 2 from (hLY 30 (by decide)).1)) wd155 dX4_init_65 eyX11 (fun H locs hw => ?_)
  have hZX : ZX (a + 34) yX11 := by rw [eyX11]; exact hZX.pR (by omega)
  refine lv_aload_n hx hb dX4_init_68 rfl (lv_at hl 0 rfl) ?_
  refine lv_bipush (v := (24 : Int32)) hx hb dX4_init_69 (by decide) ?_
  refine x_newI C0 (atype := .int) (n := n + 33) (q := a + 34) (show s.heap.size + 33 = eB E + (n + 33) by omega) hB hw (by omega) hZI 11 (by decide) (by decide) (ty := .int) rfl (fun _ => rfl) rfl rfl wd115 (N := 24) (by decide) (by decide) (by decide) (show K (a + 34) = 11 from (hLY 34 (by decide)).1) (show len (a + 34) = 24 from (hLY 34 (by decide)).2) (Nat.le_of_ble_eq_true rfl) (Nat.le_of_ble_eq_true rfl) dX4_init_71 (fun H locs hw => ?_)
  have hZI := hZI.mono (Nat.le_succ _); have hZX := hZX.mono (Nat.le_succ _)
  obtain ⟨yX12, eyX12⟩ : ∃ y : Xm, y = pR yX11 69 a (some (a + 34)) := ⟨_, rfl⟩
  refine xp_4_5 C0 (show s.heap.size + 34 ≤ eB E + (n + 34) by omega) hw hin2 rfl (okq (by omega) (by omega) hKa) (okq (by omega) (by omega) (show K (a + 34) = 11 from (hLY 34 (by decide)).1)) wd156 dX4_init_73 eyX12 (fun H locs hw => ?_)
  have hZX : ZX (a + 35) yX12 := by rw [eyX12]; exact hZX.pR (by omega)
  refine lv_aload_n hx hb dX4_init_76 rfl (lv_at hl 0 rfl) ?_
  refine lv_sipush (v := (1200 : Int32)) hx hb dX4_init_77 (by decide) ?_
  refine x_newI C0 (atype := .int) (n := n + 34) (q := a + 35) (show s.heap.size + 34 = eB E + (n + 34) by omega) hB hw (by omega) hZI 11 (by decide) (by decide) (ty := .int) rfl (fun _ => rfl) rfl rfl wd115 (N := 1200) (by decide) (by decide) (by decide) (show K (a + 35) = 11 from (hLY 35 (by decide)).1) (show len (a + 35) = 1200 from (hLY 35 (by decide)).2) (Nat.le_of_ble_eq_true rfl) (Nat.le_of_ble_eq_true rfl) dX4_init_80 (fun H locs hw => ?_)
  have hZI := hZI.mono (Nat.le_succ _); have hZX := hZX.mono (Nat.le_succ _)
  obtain ⟨yX13, eyX13⟩ : ∃ y : Xm, y = pR yX12 71 a (some (a + 35)) := ⟨_, rfl⟩
  refine xp_4_7 C0 (show s.heap.size + 35 ≤ eB E + (n + 35) by omega) hw hin2 rfl (okq (by omega) (by omega) hKa) (okq (by omega) (by omega) (show K (a + 35) = 11 from (hLY 35 (by decide)).1)) wd157 dX4_init_82 eyX13 (fun H locs hw => ?_)
  have hZX : ZX (a + 36) yX13 := by rw [eyX13]; exact hZX.pR (by omega)
  refine lv_iconst (v := (0 : Int32)) hx hb dX4_init_85 (by decide) ?_
  refine lv_istore_n (lv' := [(1, .int (0 : Int32)), (0, .ref a)]) hx hb dX4_init_86 rfl hl (by decide) rfl (fun ls hl => ?_)
  have hg66 : ∀ i, gR (lpX reelX (a + 28) (a + 36) 8 yX13 i) 66 a = some (a + 28) := by
    intro i
    rw [gR_lpX (eX := reelX) (fun _ _ hc => gR_reelX hc) (by omega)]
    rw [eyX13, gR_pR, if_neg (by omega)]; rw [eyX12, gR_pR, if_neg (by omega)]; rw [eyX11, gR_pR, if_neg (by omega)]; rw [← eyX10, gR_doorsX (by omega)]; rw [eyX9, gR_pR, if_neg (by omega)]; rw [eyX8, gR_pR, if_pos ⟨rfl, rfl⟩]
  refine w4_init_87 C0 (I := yI4) (X := yX13) hB hs ha ha0 hKa hLY hg66 (hZI.mono (by omega)) (hZX.mono (by omega)) (fun H locs ls hw hZI hZX hl => ?_) 4 0 (by decide) _ _ H locs ls rfl rfl hw hl
  generalize eyI14 : (lpI reelI (a + 36) 8 yI4 4) = yI14 at hw hZI ⊢
  generalize eyX15 : (lpX reelX (a + 28) (a + 36) 8 yX13 4) = yX15 at hw hZX ⊢
  refine lv_iconst (v := (0 : Int32)) hx hb dX4_init_115 (by decide) ?_
  refine lv_istore_n (lv' := [(1, .int (0 : Int32)), (0, .ref a)]) hx hb dX4_init_116 rfl hl (by decide) rfl (fun ls hl => ?_)
  have hg67 : ∀ i, gR (lpX noX (a + 29) (a + 68) 1 yX15 i) 67 a = some (a + 29) := by
    intro i
    rw [gR_lpX (eX := noX) (fun _ _ _ => rfl) (by omega)]
    rw [← eyX15, gR_lpX (eX := reelX) (fun _ _ hc => gR_reelX hc) (by omega)]; rw [eyX13, gR_pR, if_neg (by omega)]; rw [eyX12, gR_pR, if_neg (by omega)]; rw [eyX11, gR_pR, if_neg (by omega)]; rw [← eyX10, gR_doorsX (by omega)]; rw [eyX9, gR_pR, if_pos ⟨rfl, rfl⟩]
  refine w4_init_117 C0 (I := yI14) (X := yX15) hB hs ha ha0 hKa hLY hg67 (hZI.mono (by omega)) (hZX.mono (by omega)) (fun H locs ls hw hZI hZX hl => ?_) 4 0 (by decide) _ _ H locs ls rfl rfl hw hl
  generalize eyI16 : (lpI chanI (a + 68) 1 yI14 4) = yI16 at hw hZI ⊢
  generalize eyX17 : (lpX noX (a + 29) (a + 68) 1 yX15 4) = yX17 at hw hZX ⊢
  have eF : yI16 = (playI (a) I) ∧ yX17 = (playX (a) X) := by
    subst eyX17
    subst eyI16
    subst eyX15
    subst eyI14
    subst eyX13
    subst eyX12
    subst eyX11
    subst eyX10
    subst eyX9
    subst eyX8
    subst eyX7
    subst eyX6
    subst eyX5
    subst eyI4
    subst eyI3
    subst eyI2
    subst eyI1
    exact ⟨rfl, rfl⟩
  rw [← eF.1, ← eF.2]
  exact x_vret C0 hr hw dX4_init_145
set_option maxHeartbeats 4000000 in
set_option maxRecDepth 100000 in
theorem w8_init_63 {p : Program} {l : Launch} {e : Env} {s : State} {m : MethodId} {args : Array Value} {below : List Frame} {meth : Method} {c : Code} {E : EN} {n : Nat} {K len : Nat → Nat} {I : Im} {X : Xm} {Q : State → Prop} {a : Nat} (C0 : CX p s m args meth c E cX8_init RX8 2) (hB : eB E ≤ s.heap.size) (hs : s.heap.size = eB E + n) (ha : a + 1 = eB E + n) (ha0 : eB E ≤ a) (hKa : K a = 8) (hLY : LY K len a layAll) (hg : ∀ i, gR (lpX playX (a + 145) (a + 151) 72 X i) 130 a = some (a + 145)) (hZI : ZI (a + 151) I) (hZX : ZX (a + 151) X)
    (kx : ∀ (H : Heap) (locs : List Loc) (ls : Array Slot), WD E (n + 654, K, len) (lpI playI (a + 151) 72 I 7) (lpX playX (a + 145) (a + 151) 72 X 7) s.heap H locs → ZI (a + 655) (lpI playI (a + 151) 72 I 7) → ZX (a + 655) (lpX playX (a + 145) (a + 151) 72 X 7) → lv_has ls 2 [(1, .int (nI 7)), (0, .ref a)] → W p l e ({ frames := 4, cells := 798, slots := 17876, locals := 82 } : Room) s m args below meth c H locs 654 14644 Q (F0 m 91 ls [])) :
    ∀ (j i : Nat), i + j = 7 → ∀ (cells slots : Nat) (H : Heap) (locs : List Loc) (ls : Array Slot), cells = 150 + 72 * i → slots = 3332 + 1616 * i → WD E (n + (150 + 72 * i), K, len) (lpI playI (a + 151) 72 I i) (lpX playX (a + 145) (a + 151) 72 X i) s.heap H locs → lv_has ls 2 [(1, .int (nI i)), (0, .ref a)] → W p l e ({ frames := 4, cells := 798, slots := 17876, locals := 82 } : Room) s m args below meth c H locs cells slots Q (F0 m 63 ls []) := by
  have hx := C0.1; have hb := C0.2.1; have hml := C0.2.2.1; have hown := C0.2.2.2.1; have hts := C0.2.2.2.2.1
  intro j
  induction j with
  | zero =>
    intro i hij cells slots H locs ls hc hsl hw hl
    obtain rfl : i = 7 := by omega
    subst hc; subst hsl
    refine lv_iload_n hx hb dX8_init_63 rfl (lv_at hl 0 rfl) ?_
    refine lv_aload_n hx hb dX8_init_64 rfl (lv_at hl 1 rfl) ?_
    refine xg_8_2 C0 hw (okq (by omega) (by omega) hKa) wd321 (hg _) dX8_init_65 ?_
    refine x_alen C0 hw 15 (okq (by omega) (by omega) (show K (a + 145) = 15 from (hLY 145 (by decide)).1)) (by decide) rfl dX8_init_68 ?_
    rw [show (n + (150 + 72 * 7), K, len).2.2 (a + 145) = 7 from (hLY 145 (by decide)).2]
    refine lv_icmp_ge (tgt := 91) hx hb dX8_init_69 (by decide) (fun _ => ?_) (fun q => absurd (Int32.le_refl _) q)
    exact kx H locs ls hw (ZI_lpI (fun c I hc h => ZI_playI h (by omega)) (hZI.mono (by omega)) 7 (by omega)) (ZX_lpX (fun c X hc h => ZX_playX h (by omega)) (hZX.mono (by omega)) (by omega) 7 (by omega)) hl
  | succ j ih =>
    intro i hij cells slots H locs ls hc hsl hw hl
    have hi : i < 7 := by omega
    refine lv_iload_n hx hb dX8_init_63 rfl (lv_at hl 0 rfl) ?_
    refine lv_aload_n hx hb dX8_init_64 rfl (lv_at hl 1 rfl) ?_
    refine xg_8_2 C0 hw (okq (by omega) (by omega) hKa) wd321 (hg _) dX8_init_65 ?_
    refine x_alen C0 hw 15 (okq (by omega) (by omega) (show K (a + 145) = 15 from (hLY 145 (by decide)).1)) (by decide) rfl dX8_init_68 ?_
    rw [show (n + (150 + 72 * i), K, len).2.2 (a + 145) = 7 from (hLY 145 (by decide)).2]
    refine lv_icmp_ge (tgt := 91) hx hb dX8_init_69 (by decide) (fun q => absurd q (by rw [nI_leI (by omega) (by omega)]; omega)) (fun _ => ?_)
    refine lv_aload_n hx hb dX8_init_72 rfl (lv_at hl 1 rfl) ?_
    refine xg_8_2 C0 hw (okq (by omega) (by omega) hKa) wd321 (hg _) dX8_init_73 ?_
    refine lv_iload_n hx hb dX8_init_76 rfl (lv_at hl 0 rfl) ?_
    have hZIi : ZI (a + (151 + 72 * i)) (lpI playI (a + 151) 72 I i) := ZI_lpI (fun c I hc h => ZI_playI h (by omega)) (hZI.mono (by omega)) i (by omega)
    have hZXi : ZX (a + (151 + 72 * i)) (lpX playX (a + 145) (a + 151) 72 X i) := ZX_lpX (fun c X hc h => ZX_playX h (by omega)) (hZX.mono (by omega)) (by omega) i (by omega)
    have hLe : LY K len (a + (151 + 72 * i)) layPlay := LY.sub hLY (151 + 72 * i) layPlay (by show _ + 72 ≤ (799 : Nat); omega) (fun q hq => (show ∀ i < 7, ∀ q < 72, layAll.getD (151 + 72 * i + q) (99, 0) = layPlay.getD q (99, 0) by decide +kernel) i hi q hq)
    have hKe : K (a + (151 + 72 * i)) = 4 := (hLe 0 (by decide)).1
    refine x_new C0 (n := n + (150 + 72 * i)) (q := a + (151 + 72 * i)) (show s.heap.size + cells = eB E + (n + (150 + 72 * i)) by omega) hB hw (by omega) hZIi hZXi 4 (by decide) rfl inG4 tyX4 tyX4_ok (by decide) hKe wd317 wd318 wd202 (show cells + 1 ≤ (798 : Nat) by omega) (show slots + 9 ≤ (17876 : Nat) by omega) dX8_init_77 (fun H locs hw => ?_)
    refine lv_dup hx hb dX8_init_80 rfl ?_
    refine x_cv (I1 := (playI (a + (151 + 72 * i)) (lpI playI (a + 151) 72 I i))) (X1 := (playX (a + (151 + 72 * i)) (lpX playX (a + 145) (a + 151) 72 X i))) (x_runI (As := []) (rest := [.ref (a + (151 + 72 * i)), .int (nI i), .ref (a + 145)]) C0 (c4_init l E (n + (150 + 72 * i) + 1) K len (lpI playI (a + 151) 72 I i) (lpX playX (a + 145) (a + 151) 72 X i) (a + (151 + 72 * i)) (okq (by omega) (by omega) hKe) (by omega) (hZIi.mono (by omega)) (hZXi.mono (by omega)) hLe) hw wd14 wd329 wd330 wd202 rfl ⟨rfl, rfl⟩ hyc4 ⟨Nat.le_of_ble_eq_true rfl, Nat.le_of_ble_eq_true rfl⟩ rfl hl.1 (Nat.le_of_ble_eq_true rfl) ⟨(show cells + 1 + 71 ≤ (798 : Nat) by omega), (show slots + 9 + 1607 ≤ (17876 : Nat) by omega)⟩ dX8_init_81) hw (fun H locs hw => ?_)
    obtain ⟨X2, eX2⟩ : ∃ y : Xm, y = pQ (playX (a + (151 + 72 * i)) (lpX playX (a + 145) (a + 151) 72 X i)) (a + 145) (nI i).toNatClampNeg (some (a + (151 + 72 * i))) := ⟨_, rfl⟩
    refine x_qast C0 (G := (n + (150 + 72 * i) + 1 + 71, K, len)) (show s.heap.size + (cells + 1 + 71) ≤ eB E + (n + (150 + 72 * i) + 1 + 71) by omega) hw 15 (okq (by omega) (by omega) (show K (a + 145) = 15 from (hLY 145 (by decide)).1)) (by decide) (okq (by omega) (by omega) hKe) (by decide) (r := (RX4, TX4, 9)) rfl rfl (by show inb (nI i) (len (a + 145)) = true; rw [show len (a + 145) = 7 from (hLY 145 (by decide)).2]; exact decide_eq_true (by rw [nI_toInt (by omega)]; omega)) dX8_init_84 eX2 (fun H locs hw => ?_)
    rw [nI_clamp (by omega)] at eX2
    refine lv_iinc (v := nI (i + 1)) (lv' := [(1, .int (nI (i + 1))), (0, .ref a)]) hx hb dX8_init_85 hl (k := 0) rfl (by rw [← nI_add]; rfl) (by decide) rfl (fun ls hl => ?_)
    refine lv_goto (tgt := 63) hx hb dX8_init_88 (by decide) ?_
    have eX3 : X2 = lpX playX (a + 145) (a + 151) 72 X (i + 1) := by rw [eX2, show a + (151 + 72 * i) = a + 151 + 72 * i by omega]; rfl
    have eI3 : (playI (a + (151 + 72 * i)) (lpI playI (a + 151) 72 I i)) = lpI playI (a + 151) 72 I (i + 1) := by rw [show a + (151 + 72 * i) = a + 151 + 72 * i by omega]; rfl
    rw [eX3, eI3, show n + (150 + 72 * i) + 1 + 71 = n + (150 + 72 * (i + 1)) by omega] at hw
    exact ih (i + 1) (by omega) _ _ H locs ls (by omega) (by omega) hw hl
set_option maxHeartbeats 4000000 in
set_option maxRecDepth 100000 in
theorem w8_init_93 {p : Program} {l : Launch} {e : Env} {s : State} {m : MethodId} {args : Array Value} {below : List Frame} {meth : Method} {c : Code} {E : EN} {n : Nat} {K len : Nat → Nat} {I : Im} {X : Xm} {Q : State → Prop} {a : Nat} (C0 : CX p s m args meth c E cX8_init RX8 2) (hB : eB E ≤ s.heap.size) (hs : s.heap.size = eB E + n) (ha : a + 1 = eB E + n) (ha0 : eB E ≤ a) (hKa : K a = 8) (hLY : LY K len a layAll) (hg : ∀ i, gR (lpX playX (a + 146) (a + 655) 72 X i) 132 a = some (a + 146)) (hZI : ZI (a + 655) I) (hZX : ZX (a + 655) X)
    (kx : ∀ (H : Heap) (locs : List Loc) (ls : Array Slot), WD E (n + 798, K, len) (lpI playI (a + 655) 72 I 2) (lpX playX (a + 146) (a + 655) 72 X 2) s.heap H locs → ZI (a + 799) (lpI playI (a + 655) 72 I 2) → ZX (a + 799) (lpX playX (a + 146) (a + 655) 72 X 2) → lv_has ls 2 [(1, .int (nI 2)), (0, .ref a)] → W p l e ({ frames := 4, cells := 798, slots := 17876, locals := 82 } : Room) s m args below meth c H locs 798 17876 Q (F0 m 121 ls [])) :
    ∀ (j i : Nat), i + j = 2 → ∀ (cells slots : Nat) (H : Heap) (locs : List Loc) (ls : Array Slot), cells = 654 + 72 * i → slots = 14644 + 1616 * i → WD E (n + (654 + 72 * i), K, len) (lpI playI (a + 655) 72 I i) (lpX playX (a + 146) (a + 655) 72 X i) s.heap H locs → lv_has ls 2 [(1, .int (nI i)), (0, .ref a)] → W p l e ({ frames := 4, cells := 798, slots := 17876, locals := 82 } : Room) s m args below meth c H locs cells slots Q (F0 m 93 ls []) := by
  have hx := C0.1; have hb := C0.2.1; have hml := C0.2.2.1; have hown := C0.2.2.2.1; have hts := C0.2.2.2.2.1
  intro j
  induction j with
  | zero =>
    intro i hij cells slots H locs ls hc hsl hw hl
    obtain rfl : i = 2 := by omega
    subst hc; subst hsl
    refine lv_iload_n hx hb dX8_init_93 rfl (lv_at hl 0 rfl) ?_
    refine lv_aload_n hx hb dX8_init_94 rfl (lv_at hl 1 rfl) ?_
    refine xg_8_4 C0 hw (okq (by omega) (by omega) hKa) wd322 (hg _) dX8_init_95 ?_
    refine x_alen C0 hw 15 (okq (by omega) (by omega) (show K (a + 146) = 15 from (hLY 146 (by decide)).1)) (by decide) rfl dX8_init_98 ?_
    rw [show (n + (654 + 72 * 2), K, len).2.2 (a + 146) = 2 from (hLY 146 (by decide)).2]
    refine lv_icmp_ge (tgt := 121) hx hb dX8_init_99 (by decide) (fun _ => ?_) (fun q => absurd (Int32.le_refl _) q)
    exact kx H locs ls hw (ZI_lpI (fun c I hc h => ZI_playI h (by omega)) (hZI.mono (by omega)) 2 (by omega)) (ZX_lpX (fun c X hc h => ZX_playX h (by omega)) (hZX.mono (by omega)) (by omega) 2 (by omega)) hl
  | succ j ih =>
    intro i hij cells slots H locs ls hc hsl hw hl
    have hi : i < 2 := by omega
    refine lv_iload_n hx hb dX8_init_93 rfl (lv_at hl 0 rfl) ?_
    refine lv_aload_n hx hb dX8_init_94 rfl (lv_at hl 1 rfl) ?_
    refine xg_8_4 C0 hw (okq (by omega) (by omega) hKa) wd322 (hg _) dX8_init_95 ?_
    refine x_alen C0 hw 15 (okq (by omega) (by omega) (show K (a + 146) = 15 from (hLY 146 (by decide)).1)) (by decide) rfl dX8_init_98 ?_
    rw [show (n + (654 + 72 * i), K, len).2.2 (a + 146) = 2 from (hLY 146 (by decide)).2]
    refine lv_icmp_ge (tgt := 121) hx hb dX8_init_99 (by decide) (fun q => absurd q (by rw [nI_leI (by omega) (by omega)]; omega)) (fun _ => ?_)
    refine lv_aload_n hx hb dX8_init_102 rfl (lv_at hl 1 rfl) ?_
    refine xg_8_4 C0 hw (okq (by omega) (by omega) hKa) wd322 (hg _) dX8_init_103 ?_
    refine lv_iload_n hx hb dX8_init_106 rfl (lv_at hl 0 rfl) ?_
    have hZIi : ZI (a + (655 + 72 * i)) (lpI playI (a + 655) 72 I i) := ZI_lpI (fun c I hc h => ZI_playI h (by omega)) (hZI.mono (by omega)) i (by omega)
    have hZXi : ZX (a + (655 + 72 * i)) (lpX playX (a + 146) (a + 655) 72 X i) := ZX_lpX (fun c X hc h => ZX_playX h (by omega)) (hZX.mono (by omega)) (by omega) i (by omega)
    have hLe : LY K len (a + (655 + 72 * i)) layPlay := LY.sub hLY (655 + 72 * i) layPlay (by show _ + 72 ≤ (799 : Nat); omega) (fun q hq => (show ∀ i < 2, ∀ q < 72, layAll.getD (655 + 72 * i + q) (99, 0) = layPlay.getD q (99, 0) by decide +kernel) i hi q hq)
    have hKe : K (a + (655 + 72 * i)) = 4 := (hLe 0 (by decide)).1
    refine x_new C0 (n := n + (654 + 72 * i)) (q := a + (655 + 72 * i)) (show s.heap.size + cells = eB E + (n + (654 + 72 * i)) by omega) hB hw (by omega) hZIi hZXi 4 (by decide) rfl inG4 tyX4 tyX4_ok (by decide) hKe wd317 wd318 wd202 (show cells + 1 ≤ (798 : Nat) by omega) (show slots + 9 ≤ (17876 : Nat) by omega) dX8_init_107 (fun H locs hw => ?_)
    refine lv_dup hx hb dX8_init_110 rfl ?_
    refine x_cv (I1 := (playI (a + (655 + 72 * i)) (lpI playI (a + 655) 72 I i))) (X1 := (playX (a + (655 + 72 * i)) (lpX playX (a + 146) (a + 655) 72 X i))) (x_runI (As := []) (rest := [.ref (a + (655 + 72 * i)), .int (nI i), .ref (a + 146)]) C0 (c4_init l E (n + (654 + 72 * i) + 1) K len (lpI playI (a + 655) 72 I i) (lpX playX (a + 146) (a + 655) 72 X i) (a + (655 + 72 * i)) (okq (by omega) (by omega) hKe) (by omega) (hZIi.mono (by omega)) (hZXi.mono (by omega)) hLe) hw wd14 wd329 wd330 wd202 rfl ⟨rfl, rfl⟩ hyc4 ⟨Nat.le_of_ble_eq_true rfl, Nat.le_of_ble_eq_true rfl⟩ rfl hl.1 (Nat.le_of_ble_eq_true rfl) ⟨(show cells + 1 + 71 ≤ (798 : Nat) by omega), (show slots + 9 + 1607 ≤ (17876 : Nat) by omega)⟩ dX8_init_111) hw (fun H locs hw => ?_)
    obtain ⟨X2, eX2⟩ : ∃ y : Xm, y = pQ (playX (a + (655 + 72 * i)) (lpX playX (a + 146) (a + 655) 72 X i)) (a + 146) (nI i).toNatClampNeg (some (a + (655 + 72 * i))) := ⟨_, rfl⟩
    refine x_qast C0 (G := (n + (654 + 72 * i) + 1 + 71, K, len)) (show s.heap.size + (cells + 1 + 71) ≤ eB E + (n + (654 + 72 * i) + 1 + 71) by omega) hw 15 (okq (by omega) (by omega) (show K (a + 146) = 15 from (hLY 146 (by decide)).1)) (by decide) (okq (by omega) (by omega) hKe) (by decide) (r := (RX4, TX4, 9)) rfl rfl (by show inb (nI i) (len (a + 146)) = true; rw [show len (a + 146) = 2 from (hLY 146 (by decide)).2]; exact decide_eq_true (by rw [nI_toInt (by omega)]; omega)) dX8_init_114 eX2 (fun H locs hw => ?_)
    rw [nI_clamp (by omega)] at eX2
    refine lv_iinc (v := nI (i + 1)) (lv' := [(1, .int (nI (i + 1))), (0, .ref a)]) hx hb dX8_init_115 hl (k := 0) rfl (by rw [← nI_add]; rfl) (by decide) rfl (fun ls hl => ?_)
    refine lv_goto (tgt := 93) hx hb dX8_init_118 (by decide) ?_
    have eX3 : X2 = lpX playX (a + 146) (a + 655) 72 X (i + 1) := by rw [eX2, show a + (655 + 72 * i) = a + 655 + 72 * i by omega]; rfl
    have eI3 : (playI (a + (655 + 72 * i)) (lpI playI (a + 655) 72 I i)) = lpI playI (a + 655) 72 I (i + 1) := by rw [show a + (655 + 72 * i) = a + 655 + 72 * i by omega]; rfl
    rw [eX3, eI3, show n + (654 + 72 * i) + 1 + 71 = n + (654 + 72 * (i + 1)) by omega] at hw
    exact ih (i + 1) (by omega) _ _ H locs ls (by omega) (by omega) hw hl
set_option maxHeartbeats 4000000 in
set_option maxRecDepth 100000 in
theorem c8_init (l : Launch) (E : EN) (n : Nat) (K len : Nat → Nat) (I : Im) (X : Xm) (a : Nat) (ta : okA E (n, K, len) 8 a) (ha : a + 1 = eB E + n) (hZI : ZI (a + 1) I) (hZX : ZX (a + 1) X) (hLY : LY K len a layAll) : MT l yX8_init cX8_init 2 none ({ frames := 4, cells := 798, slots := 17876, locals := 82 } : Room) E (n, K, len) I X [.ref a] (QV E (n + 798, K, len) (rcI (a) I) (rcX (a) X)) 798 17876 := by
  refine Met.ofW (cc := cX8_init) (maxL := 2) (ret := none) (by decide +kernel) rfl ?_
  intro p e s m args below meth c s₁ B hml hv
  obtain ⟨rfl, hw0, hSE⟩ := hv
  have C0 : CX p s m ([.ref a] : List Value).toArray meth c E cX8_init RX8 2 := ⟨B.exec, B.bytes, hml, findClass_of_methodNamed B.named, fun w hw => atoms_spec (ws := WS yX8_init cX8_init 2 none) B.pre w (List.mem_cons_of_mem _ hw), B.notSynchronized, hSE⟩
  have hs : s.heap.size = eB E + n := hw0.2.1
  have hB : eB E ≤ s.heap.size := by omega
  have hw : WD E (n, K, len) I X s.heap s.heap [] := ⟨hw0, va_S.rf⟩
  have hr := B.returns
  have hin2 : meth.name = "<init>" := (name_of_methodNamed B.named B.method).1
  have ha0 : eB E ≤ a := ta.1
  have hKa : K a = 8 := ta.2.2
  have hx := C0.1; have hb := C0.2.1; have hml := C0.2.2.1; have hown := C0.2.2.2.1; have hts := C0.2.2.2.2.1
  have hl := lv_entry ([.ref a]) (n := 2) (Nat.le_of_ble_eq_true rfl)
  rw [lg_entry_eq]
  generalize (lg_sl ([.ref a]) ++ List.replicate (2 - (lg_sl ([.ref a])).length) Slot.unset).toArray = ls at hl ⊢
  have hl : lv_has ls 2 [(0, .ref a)] := hl
  refine lv_aload_n hx hb dX8_init_0 rfl (lv_at hl 0 rfl) ?_
  refine x_obj C0 hl.1 wd316 (Nat.le_of_ble_eq_true rfl) (Nat.le_of_ble_eq_true rfl) dX8_init_1 ?_
  refine lv_aload_n hx hb dX8_init_4 rfl (lv_at hl 0 rfl) ?_
  refine x_new C0 (n := n + 0) (q := a + 1) (show s.heap.size + 0 = eB E + (n + 0) by omega) hB hw (by omega) hZI hZX 4 (by decide) rfl inG4 tyX4 tyX4_ok (by decide) (show K (a + 1) = 4 from (hLY 1 (by decide)).1) wd317 wd318 wd202 (Nat.le_of_ble_eq_true rfl) (Nat.le_of_ble_eq_true rfl) dX8_init_5 (fun H locs hw => ?_)
  have hZI := hZI.mono (Nat.le_succ _); have hZX := hZX.mono (Nat.le_succ _)
  refine lv_dup hx hb dX8_init_8 rfl ?_
  refine x_cv (I1 := (playI (a + 1) I)) (X1 := (playX (a + 1) X)) (x_runI (As := []) (rest := [.ref (a + 1), .ref a]) C0 (c4_init l E (n + 1) K len I X (a + 1) (okq (by omega) (by omega) (show K (a + 1) = 4 from (hLY 1 (by decide)).1)) (by omega) (hZI.mono (by omega)) (hZX.mono (by omega)) (LY.sub hLY 1 layPlay (by decide) (by decide))) hw wd14 wd329 wd330 wd202 rfl ⟨rfl, rfl⟩ hyc4 ⟨Nat.le_of_ble_eq_true rfl, Nat.le_of_ble_eq_true rfl⟩ rfl hl.1 (Nat.le_of_ble_eq_true rfl) ⟨Nat.le_of_ble_eq_true rfl, Nat.le_of_ble_eq_true rfl⟩ dX8_init_9) hw (fun H locs hw => ?_)
  have hZI : ZI (a + 73) (playI (a + 1) I) := ZI_playI (hZI.mono (by omega)) (by omega)
  generalize eyI1 : (playI (a + 1) I) = yI1 at hw hZI ⊢
  have hZX : ZX (a + 73) (playX (a + 1) X) := ZX_playX (hZX.mono (by omega)) (by omega)
  generalize eyX2 : (playX (a + 1) X) = yX2 at hw hZX ⊢
  obtain ⟨yX3, eyX3⟩ : ∃ y : Xm, y = pR yX2 128 a (some (a + 1)) := ⟨_, rfl⟩
  refine xp_8_0 C0 (show s.heap.size + 72 ≤ eB E + (n + 72) by omega) hw (okq (by omega) (by omega) hKa) (okq (by omega) (by omega) (show K (a + 1) = 4 from (hLY 1 (by decide)).1)) wd319 dX8_init_12 eyX3 (fun H locs hw => ?_)
  have hZX : ZX (a + 73) yX3 := by rw [eyX3]; exact hZX.pR (by omega)
  refine lv_aload_n hx hb dX8_init_15 rfl (lv_at hl 0 rfl) ?_
  refine x_new C0 (n := n + 72) (q := a + 73) (show s.heap.size + 72 = eB E + (n + 72) by omega) hB hw (by omega) hZI hZX 4 (by decide) rfl inG4 tyX4 tyX4_ok (by decide) (show K (a + 73) = 4 from (hLY 73 (by decide)).1) wd317 wd318 wd202 (Nat.le_of_ble_eq_true rfl) (Nat.le_of_ble_eq_true rfl) dX8_init_16 (fun H locs hw => ?_)
  have hZI := hZI.mono (Nat.le_succ _); have hZX := hZX.mono (Nat.le_succ _)
  refine lv_dup hx hb dX8_init_19 rfl ?_
  refine x_cv (I1 := (playI (a + 73) yI1)) (X1 := (playX (a + 73) yX3)) (x_runI (As := []) (rest := [.ref (a + 73), .ref a]) C0 (c4_init l E (n + 73) K len yI1 yX3 (a + 73) (okq (by omega) (by omega) (show K (a + 73) = 4 from (hLY 73 (by decide)).1)) (by omega) (hZI.mono (by omega)) (hZX.mono (by omega)) (LY.sub hLY 73 layPlay (by decide) (by decide))) hw wd14 wd329 wd330 wd202 rfl ⟨rfl, rfl⟩ hyc4 ⟨Nat.le_of_ble_eq_true rfl, Nat.le_of_ble_eq_true rfl⟩ rfl hl.1 (Nat.le_of_ble_eq_true rfl) ⟨Nat.le_of_ble_eq_true rfl, Nat.le_of_ble_eq_true rfl⟩ dX8_init_20) hw (fun H locs hw => ?_)
  have hZI : ZI (a + 145) (playI (a + 73) yI1) := ZI_playI (hZI.mono (by omega)) (by omega)
  generalize eyI4 : (playI (a + 73) yI1) = yI4 at hw hZI ⊢
  have hZX : ZX (a + 145) (playX (a + 73) yX3) := ZX_playX (hZX.mono (by omega)) (by omega)
  generalize eyX5 : (playX (a + 73) yX3) = yX5 at hw hZX ⊢
  obtain ⟨yX6, eyX6⟩ : ∃ y : Xm, y = pR yX5 129 a (some (a + 73)) := ⟨_, rfl⟩
  refine xp_8_1 C0 (show s.heap.size + 144 ≤ eB E + (n + 144) by omega) hw hin2 rfl (okq (by omega) (by omega) hKa) (okq (by omega) (by omega) (show K (a + 73) = 4 from (hLY 73 (by decide)).1)) wd320 dX8_init_23 eyX6 (fun H locs hw => ?_)
  have hZX : ZX (a + 145) yX6 := by rw [eyX6]; exact hZX.pR (by omega)
  refine lv_aload_n hx hb dX8_init_26 rfl (lv_at hl 0 rfl) ?_
  refine lv_bipush (v := (7 : Int32)) hx hb dX8_init_27 (by decide) ?_
  refine x_newQ C0 (n := n + 144) (q := a + 145) (show s.heap.size + 144 = eB E + (n + 144) by omega) hB hw (by omega) hZX 15 (by decide) rfl (by decide) wd317 (N := 7) (by decide) (by decide) (by decide) (show K (a + 145) = 15 from (hLY 145 (by decide)).1) (show len (a + 145) = 7 from (hLY 145 (by decide)).2) (Nat.le_of_ble_eq_true rfl) (Nat.le_of_ble_eq_true rfl) dX8_init_29 (fun H locs hw => ?_)
  have hZI := hZI.mono (Nat.le_succ _); have hZX := hZX.mono (Nat.le_succ _)
  obtain ⟨yX7, eyX7⟩ : ∃ y : Xm, y = pR yX6 130 a (some (a + 145)) := ⟨_, rfl⟩
  refine xp_8_2 C0 (show s.heap.size + 145 ≤ eB E + (n + 145) by omega) hw hin2 rfl (okq (by omega) (by omega) hKa) (okq (by omega) (by omega) (show K (a + 145) = 15 from (hLY 145 (by decide)).1)) wd321 dX8_init_32 eyX7 (fun H locs hw => ?_)
  have hZX : ZX (a + 146) yX7 := by rw [eyX7]; exact hZX.pR (by omega)
  refine lv_aload_n hx hb dX8_init_35 rfl (lv_at hl 0 rfl) ?_
  refine lv_iconst (v := (2 : Int32)) hx hb dX8_init_36 (by decide) ?_
  refine x_newQ C0 (n := n + 145) (q := a + 146) (show s.heap.size + 145 = eB E + (n + 145) by omega) hB hw (by omega) hZX 15 (by decide) rfl (by decide) wd317 (N := 2) (by decide) (by decide) (by decide) (show K (a + 146) = 15 from (hLY 146 (by decide)).1) (show len (a + 146) = 2 from (hLY 146 (by decide)).2) (Nat.le_of_ble_eq_true rfl) (Nat.le_of_ble_eq_true rfl) dX8_init_37 (fun H locs hw => ?_)
  have hZI := hZI.mono (Nat.le_succ _); have hZX := hZX.mono (Nat.le_succ _)
  obtain ⟨yX8, eyX8⟩ : ∃ y : Xm, y = pR yX7 132 a (some (a + 146)) := ⟨_, rfl⟩
  refine xp_8_4 C0 (show s.heap.size + 146 ≤ eB E + (n + 146) by omega) hw hin2 rfl (okq (by omega) (by omega) hKa) (okq (by omega) (by omega) (show K (a + 146) = 15 from (hLY 146 (by decide)).1)) wd322 dX8_init_40 eyX8 (fun H locs hw => ?_)
  have hZX : ZX (a + 147) yX8 := by rw [eyX8]; exact hZX.pR (by omega)
  refine lv_aload_n hx hb dX8_init_43 rfl (lv_at hl 0 rfl) ?_
  refine lv_iconst (v := (2 : Int32)) hx hb dX8_init_44 (by decide) ?_
  refine x_newI C0 (atype := .boolean) (n := n + 146) (q := a + 147) (show s.heap.size + 146 = eB E + (n + 146) by omega) hB hw (by omega) hZI 12 (by decide) (by decide) (ty := .boolean) rfl (fun _ => rfl) rfl rfl wd323 (N := 2) (by decide) (by decide) (by decide) (show K (a + 147) = 12 from (hLY 147 (by decide)).1) (show len (a + 147) = 2 from (hLY 147 (by decide)).2) (Nat.le_of_ble_eq_true rfl) (Nat.le_of_ble_eq_true rfl) dX8_init_45 (fun H locs hw => ?_)
  have hZI := hZI.mono (Nat.le_succ _); have hZX := hZX.mono (Nat.le_succ _)
  obtain ⟨yX9, eyX9⟩ : ∃ y : Xm, y = pR yX8 133 a (some (a + 147)) := ⟨_, rfl⟩
  refine xp_8_5 C0 (show s.heap.size + 147 ≤ eB E + (n + 147) by omega) hw hin2 rfl (okq (by omega) (by omega) hKa) (okq (by omega) (by omega) (show K (a + 147) = 12 from (hLY 147 (by decide)).1)) wd324 dX8_init_47 eyX9 (fun H locs hw => ?_)
  have hZX : ZX (a + 148) yX9 := by rw [eyX9]; exact hZX.pR (by omega)
  refine lv_aload_n hx hb dX8_init_50 rfl (lv_at hl 0 rfl) ?_
  refine x_new C0 (n := n + 147) (q := a + 148) (show s.heap.size + 147 = eB E + (n + 147) by omega) hB hw (by omega) hZI hZX 3 (by decide) rfl inG3 tyX3 tyX3_ok (by decide) (show K (a + 148) = 3 from (hLY 148 (by decide)).1) wd325 wd326 wd327 (Nat.le_of_ble_eq_true rfl) (Nat.le_of_ble_eq_true rfl) dX8_init_51 (fun H locs hw => ?_)
  have hZI := hZI.mono (Nat.le_succ _); have hZX := hZX.mono (Nat.le_succ _)
  refine lv_dup hx hb dX8_init_54 rfl ?_
  refine x_cv (I1 := yI4) (X1 := (padX (a + 148) yX9)) (x_runIN (As := []) (rest := [.ref (a + 148), .ref a]) C0 (c3_init l E (n + 148) K len yI4 yX9 (a + 148) (okq (by omega) (by omega) (show K (a + 148) = 3 from (hLY 148 (by decide)).1)) (by omega) (hZI.mono (by omega)) (hZX.mono (by omega)) (LY.sub hLY 148 layPad (by decide) (by decide))) hw wd10 (show ("RadioCues", 32, yX3_init, "RadioCues") ∈ nwM by decide +kernel) wd331 wd327 rfl ⟨rfl, rfl⟩ hyc3 ⟨Nat.le_of_ble_eq_true rfl, Nat.le_of_ble_eq_true rfl⟩ rfl hl.1 (Nat.le_of_ble_eq_true rfl) ⟨Nat.le_of_ble_eq_true rfl, Nat.le_of_ble_eq_true rfl⟩ dX8_init_55) hw (fun H locs hw => ?_)
  have hZI : ZI (a + 151) yI4 := hZI.mono (by omega)
  have hZX : ZX (a + 151) (padX (a + 148) yX9) := ZX_padX (hZX.mono (by omega)) (by omega)
  generalize eyX10 : (padX (a + 148) yX9) = yX10 at hw hZX ⊢
  obtain ⟨yX11, eyX11⟩ : ∃ y : Xm, y = pR yX10 134 a (some (a + 148)) := ⟨_, rfl⟩
  refine xp_8_6 C0 (show s.heap.size + 150 ≤ eB E + (n + 150) by omega) hw hin2 rfl (okq (by omega) (by omega) hKa) (okq (by omega) (by omega) (show K (a + 148) = 3 from (hLY 148 (by decide)).1)) wd328 dX8_init_58 eyX11 (fun H locs hw => ?_)
  have hZX : ZX (a + 151) yX11 := by rw [eyX11]; exact hZX.pR (by omega)
  refine lv_iconst (v := (0 : Int32)) hx hb dX8_init_61 (by decide) ?_
  refine lv_istore_n (lv' := [(1, .int (0 : Int32)), (0, .ref a)]) hx hb dX8_init_62 rfl hl (by decide) rfl (fun ls hl => ?_)
  have hg130 : ∀ i, gR (lpX playX (a + 145) (a + 151) 72 yX11 i) 130 a = some (a + 145) := by
    intro i
    rw [gR_lpX (eX := playX) (fun _ _ hc => gR_playX hc) (by omega)]
    rw [eyX11, gR_pR, if_neg (by omega)]; rw [← eyX10, gR_padX (by omega)]; rw [eyX9, gR_pR, if_neg (by omega)]; rw [eyX8, gR_pR, if_neg (by omega)]; rw [eyX7, gR_pR, if_pos ⟨rfl, rfl⟩]
  refine w8_init_63 C0 (I := yI4) (X := yX11) hB hs ha ha0 hKa hLY hg130 (hZI.mono (by omega)) (hZX.mono (by omega)) (fun H locs ls hw hZI hZX hl => ?_) 7 0 (by decide) _ _ H locs ls rfl rfl hw hl
  generalize eyI12 : (lpI playI (a + 151) 72 yI4 7) = yI12 at hw hZI ⊢
  generalize eyX13 : (lpX playX (a + 145) (a + 151) 72 yX11 7) = yX13 at hw hZX ⊢
  refine lv_iconst (v := (0 : Int32)) hx hb dX8_init_91 (by decide) ?_
  refine lv_istore_n (lv' := [(1, .int (0 : Int32)), (0, .ref a)]) hx hb dX8_init_92 rfl hl (by decide) rfl (fun ls hl => ?_)
  have hg132 : ∀ i, gR (lpX playX (a + 146) (a + 655) 72 yX13 i) 132 a = some (a + 146) := by
    intro i
    rw [gR_lpX (eX := playX) (fun _ _ hc => gR_playX hc) (by omega)]
    rw [← eyX13, gR_lpX (eX := playX) (fun _ _ hc => gR_playX hc) (by omega)]; rw [eyX11, gR_pR, if_neg (by omega)]; rw [← eyX10, gR_padX (by omega)]; rw [eyX9, gR_pR, if_neg (by omega)]; rw [eyX8, gR_pR, if_pos ⟨rfl, rfl⟩]
  refine w8_init_93 C0 (I := yI12) (X := yX13) hB hs ha ha0 hKa hLY hg132 (hZI.mono (by omega)) (hZX.mono (by omega)) (fun H locs ls hw hZI hZX hl => ?_) 2 0 (by decide) _ _ H locs ls rfl rfl hw hl
  generalize eyI14 : (lpI playI (a + 655) 72 yI12 2) = yI14 at hw hZI ⊢
  generalize eyX15 : (lpX playX (a + 146) (a + 655) 72 yX13 2) = yX15 at hw hZX ⊢
  have eF : yI14 = (rcI (a) I) ∧ yX15 = (rcX (a) X) := by
    subst eyX15
    subst eyI14
    subst eyX13
    subst eyI12
    subst eyX11
    subst eyX10
    subst eyX9
    subst eyX8
    subst eyX7
    subst eyX6
    subst eyX5
    subst eyI4
    subst eyX3
    subst eyX2
    subst eyI1
    exact ⟨rfl, rfl⟩
  rw [← eF.1, ← eF.2]
  exact x_vret C0 hr hw dX8_init_121
