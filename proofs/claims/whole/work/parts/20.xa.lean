noncomputable def m8_nearer_22 (fl : Nat) (len : Nat → Nat) (X : Xm) (I : Im) (zs0 : Int32) : Option (Int32) :=
  some (zs0)
set_option maxHeartbeats 4000000 in
set_option maxRecDepth 100000 in
theorem w8_nearer_22 {p : Program} {l : Launch} {e : Env} {s : State} {m : MethodId} {args : Array Value} {below : List Frame} {meth : Method} {c : Code} {E : EN} {G : GM} {X : Xm} {I : Im} (C0 : CX p s m args meth c E cX8_nearer RX8 3) (hr : meth.sig.returnType = (some .int)) (hz : s.heap.size + 0 ≤ eB E + G.1) {rr : Int32} (fl : Nat) : ∀ (H : Heap) (locs : List Loc) (ls : Array Slot) (zs0 : Int32) , WD E G I X s.heap H locs → lv_has ls 3 [] → m8_nearer_22 fl G.2.2 X I zs0 = some rr → W p l e ({ frames := 1, cells := 0, slots := 0, locals := 21 } : Room) s m args below meth c H locs 0 0 (MQ below (QI E G rr I X) args s 0 0 (eA E)) (F0 m 22 ls [.int zs0]) := by
  intro H locs ls zs0 hw hl hf
  unfold m8_nearer_22 at hf
  have hx := C0.1; have hb := C0.2.1; have hml := C0.2.2.1; have hown := C0.2.2.2.1; have hts := C0.2.2.2.2.1
  obtain rfl := Option.some.inj hf
  exact x_iret C0 hr hw dX8_nearer_22
noncomputable def m8_nearer (fl : Nat) (len : Nat → Nat) (X : Xm) (I : Im) (zx0 : Int32) (zx1 : Int32) (zx2 : Int32) : Option (Int32) :=
  if zx1 ≤ zx0 then
    m8_nearer_22 fl len X I (if zx1 < (zx0 - zx2) then (zx0 - zx2) else zx1)
  else
    m8_nearer_22 fl len X I (if (zx0 + zx2) < zx1 then (zx0 + zx2) else zx1)
theorem hy8_nearer : yX8_nearer.cls = RX8 ∧ yX8_nearer.cls ≠ "java/lang/invoke/MethodHandle" ∧ yX8_nearer.cls ≠ "java/lang/invoke/VarHandle" ∧ (parseMethodDescriptor yX8_nearer.desc).map (fun d => d.parameters.length) = some 3 := ⟨rfl, by decide +kernel, by decide +kernel, by decide +kernel⟩
set_option maxHeartbeats 4000000 in
set_option maxRecDepth 100000 in
theorem c8_nearer (l : Launch) (E : EN) (G : GM) (fl : Nat) (X : Xm) (I : Im) (zx0 : Int32) (zx1 : Int32) (zx2 : Int32) {rr : Int32} (hf : m8_nearer fl G.2.2 X I zx0 zx1 zx2 = some rr) : MT l yX8_nearer cX8_nearer 3 (some .int) ({ frames := 1, cells := 0, slots := 0, locals := 21 } : Room) E G I X [.int zx0, .int zx1, .int zx2] (QI E G rr I X) 0 0 := by
  refine Met.ofW (cc := cX8_nearer) (maxL := 3) (ret := (some .int)) (by decide +kernel) rfl ?_
  intro p e s m args below meth c s₁ B hml hv
  obtain ⟨rfl, hw0, hSE⟩ := hv
  have C0 : CX p s m ([.int zx0, .int zx1, .int zx2] : List Value).toArray meth c E cX8_nearer RX8 3 := ⟨B.exec, B.bytes, hml, findClass_of_methodNamed B.named, fun w hw => atoms_spec (ws := WS yX8_nearer cX8_nearer 3 (some .int)) B.pre w (List.mem_cons_of_mem _ hw), B.notSynchronized, hSE⟩
  have hz : s.heap.size + 0 ≤ eB E + G.1 := Nat.le_of_eq hw0.2.1
  have hw : WD E G I X s.heap s.heap [] := ⟨hw0, va_S.rf⟩
  have hr := B.returns
  have hx := C0.1; have hb := C0.2.1; have hml := C0.2.2.1; have hown := C0.2.2.2.1; have hts := C0.2.2.2.2.1
  have hl := lv_entry ([.int zx0, .int zx1, .int zx2]) (n := 3) (Nat.le_of_ble_eq_true rfl)
  rw [lg_entry_eq]
  generalize (lg_sl ([.int zx0, .int zx1, .int zx2]) ++ List.replicate (3 - (lg_sl ([.int zx0, .int zx1, .int zx2])).length) Slot.unset).toArray = ls at hl ⊢
  have hl : lv_has ls 3 [(0, .int zx0), (1, .int zx1), (2, .int zx2)] := hl
  unfold m8_nearer at hf
  refine lv_iload_n hx hb dX8_nearer_0 rfl (lv_at hl 0 rfl) ?_
  refine lv_iload_n hx hb dX8_nearer_1 rfl (lv_at hl 1 rfl) ?_
  refine lv_icmp_ge (tgt := 15) hx hb dX8_nearer_2 (by decide) (fun zc1 => ?_) (fun zc1 => ?_)
  · have hf := ite_t hf zc1
    refine lv_iload_n hx hb dX8_nearer_15 rfl (lv_at hl 1 rfl) ?_
    refine lv_iload_n hx hb dX8_nearer_16 rfl (lv_at hl 0 rfl) ?_
    refine lv_iload_n hx hb dX8_nearer_17 rfl (lv_at hl 2 rfl) ?_
    refine lv_isub hx hb dX8_nearer_18 ?_
    refine va_mmax hx hb (hml.trans hl.1.symm) hown (hts _ wd193) (hts _ wd194) (hts _ wd191) (hts _ wd195) (Nat.le_of_ble_eq_true rfl) (Nat.le_of_ble_eq_true rfl) (Nat.zero_le _) (Nat.zero_le _) dX8_nearer_19 ?_
    exact w8_nearer_22 C0 hr hz fl _ _ _ (if zx1 < (zx0 - zx2) then (zx0 - zx2) else zx1) hw (lv_sub hl [] rfl) hf
  · have hf := ite_f hf zc1
    refine lv_iload_n hx hb dX8_nearer_5 rfl (lv_at hl 1 rfl) ?_
    refine lv_iload_n hx hb dX8_nearer_6 rfl (lv_at hl 0 rfl) ?_
    refine lv_iload_n hx hb dX8_nearer_7 rfl (lv_at hl 2 rfl) ?_
    refine lv_iadd hx hb dX8_nearer_8 ?_
    refine va_mmin hx hb (hml.trans hl.1.symm) hown (hts _ wd189) (hts _ wd190) (hts _ wd191) (hts _ wd192) (Nat.le_of_ble_eq_true rfl) (Nat.le_of_ble_eq_true rfl) (Nat.zero_le _) (Nat.zero_le _) dX8_nearer_9 ?_
    refine lv_goto (tgt := 22) hx hb dX8_nearer_12 (by decide) ?_
    exact w8_nearer_22 C0 hr hz fl _ _ _ (if (zx0 + zx2) < zx1 then (zx0 + zx2) else zx1) hw (lv_sub hl [] rfl) hf
noncomputable def m0_fade (fl : Nat) (len : Nat → Nat) (X : Xm) (I : Im) (zx0 : Nat) (zx1 : Int32) : Option (Im) :=
  nn (m8_nearer fl len X I (gF I 0 zx0) (gF I 1 zx0) zx1) fun zv1 =>
  lt (pF I 0 zx0 zv1) fun zI3 =>
  some (zI3)
theorem hy0_fade : yX0_fade.cls = RX0 ∧ yX0_fade.cls ≠ "java/lang/invoke/MethodHandle" ∧ yX0_fade.cls ≠ "java/lang/invoke/VarHandle" ∧ (parseMethodDescriptor yX0_fade.desc).map (fun d => d.parameters.length) = some 1 := ⟨rfl, by decide +kernel, by decide +kernel, by decide +kernel⟩
set_option maxHeartbeats 4000000 in
set_option maxRecDepth 100000 in
theorem c0_fade (l : Launch) (E : EN) (G : GM) (fl : Nat) (X : Xm) (I : Im) (zx0 : Nat) (zx1 : Int32) (zt0 : okA E G 0 zx0) {rr : Im} (hf : m0_fade fl G.2.2 X I zx0 zx1 = some rr) : MT l yX0_fade cX0_fade 2 none ({ frames := 2, cells := 0, slots := 0, locals := 43 } : Room) E G I X [.ref zx0, .int zx1] (QV E G rr X) 0 0 := by
  refine Met.ofW (cc := cX0_fade) (maxL := 2) (ret := none) (by decide +kernel) rfl ?_
  intro p e s m args below meth c s₁ B hml hv
  obtain ⟨rfl, hw0, hSE⟩ := hv
  have C0 : CX p s m ([.ref zx0, .int zx1] : List Value).toArray meth c E cX0_fade RX0 2 := ⟨B.exec, B.bytes, hml, findClass_of_methodNamed B.named, fun w hw => atoms_spec (ws := WS yX0_fade cX0_fade 2 none) B.pre w (List.mem_cons_of_mem _ hw), B.notSynchronized, hSE⟩
  have hz : s.heap.size + 0 ≤ eB E + G.1 := Nat.le_of_eq hw0.2.1
  have hw : WD E G I X s.heap s.heap [] := ⟨hw0, va_S.rf⟩
  have hr := B.returns
  have hx := C0.1; have hb := C0.2.1; have hml := C0.2.2.1; have hown := C0.2.2.2.1; have hts := C0.2.2.2.2.1
  have hl := lv_entry ([.ref zx0, .int zx1]) (n := 2) (Nat.le_of_ble_eq_true rfl)
  rw [lg_entry_eq]
  generalize (lg_sl ([.ref zx0, .int zx1]) ++ List.replicate (2 - (lg_sl ([.ref zx0, .int zx1])).length) Slot.unset).toArray = ls at hl ⊢
  have hl : lv_has ls 2 [(0, .ref zx0), (1, .int zx1)] := hl
  unfold m0_fade at hf
  refine lv_aload_n hx hb dX0_fade_0 rfl (lv_at hl 0 rfl) ?_
  refine lv_aload_n hx hb dX0_fade_1 rfl (lv_at hl 0 rfl) ?_
  refine xg_0_0 C0 hw zt0 wd187 dX0_fade_2 ?_
  refine lv_aload_n hx hb dX0_fade_5 rfl (lv_at hl 0 rfl) ?_
  refine xg_0_1 C0 hw zt0 wd188 dX0_fade_6 ?_
  refine lv_iload_n hx hb dX0_fade_9 rfl (lv_at hl 1 rfl) ?_
  obtain ⟨zv1, ze2, hf⟩ := nn_some hf
  refine x_ci (r := zv1) (I1 := I) (X1 := X) (x_runSN (As := [.int (gF I 0 zx0), .int (gF I 1 zx0), .int zx1]) (rest := [.ref zx0]) (host := "RadioCues") C0 (c8_nearer l E G fl X I (gF I 0 zx0) (gF I 1 zx0) zx1 ze2) hw wd1 (List.mem_of_getElem? (i := 1) rfl) wd196 wd197 ⟨rfl, rfl⟩ hy8_nearer.2 ⟨Nat.le_of_ble_eq_true rfl, Nat.le_of_ble_eq_true rfl⟩ rfl hl.1 (Nat.le_of_ble_eq_true rfl) ⟨Nat.zero_le _, Nat.zero_le _⟩ dX0_fade_10) hw (fun H locs hw => ?_)
  obtain ⟨zI3, ezI3⟩ : ∃ y : Im, y = pF I 0 zx0 zv1 := ⟨_, rfl⟩
  have hf := lt_at hf ezI3
  refine xp_0_0 C0 hz hw zt0 rfl rfl wd187 dX0_fade_13 ezI3 (fun H locs hw => ?_)
  obtain rfl := Option.some.inj hf
  exact x_vret C0 hr hw dX0_fade_16
noncomputable def m1_copyFrom (fl : Nat) (len : Nat → Nat) (X : Xm) (I : Im) (zx0 : Nat) (zx1 : Nat) : Option (Im) :=
  lt (pF I 16 zx0 (gF I 16 zx1)) fun zI1 =>
  lt (pF zI1 17 zx0 (gF zI1 17 zx1)) fun zI2 =>
  lt (pF zI2 18 zx0 (gF zI2 18 zx1)) fun zI3 =>
  lt (pF zI3 19 zx0 (gF zI3 19 zx1)) fun zI4 =>
  lt (pF zI4 20 zx0 (gF zI4 20 zx1)) fun zI5 =>
  some (zI5)
theorem hy1_copyFrom : yX1_copyFrom.cls = RX1 ∧ yX1_copyFrom.cls ≠ "java/lang/invoke/MethodHandle" ∧ yX1_copyFrom.cls ≠ "java/lang/invoke/VarHandle" ∧ (parseMethodDescriptor yX1_copyFrom.desc).map (fun d => d.parameters.length) = some 1 := ⟨rfl, by decide +kernel, by decide +kernel, by decide +kernel⟩
set_option maxHeartbeats 4000000 in
set_option maxRecDepth 100000 in
theorem c1_copyFrom (l : Launch) (E : EN) (G : GM) (fl : Nat) (X : Xm) (I : Im) (zx0 : Nat) (zx1 : Nat) (zt0 : okA E G 1 zx0) (zt1 : okA E G 1 zx1) {rr : Im} (hf : m1_copyFrom fl G.2.2 X I zx0 zx1 = some rr) : MT l yX1_copyFrom cX1_copyFrom 2 none ({ frames := 0, cells := 0, slots := 0, locals := 0 } : Room) E G I X [.ref zx0, .ref zx1] (QV E G rr X) 0 0 := by
  refine Met.ofW (cc := cX1_copyFrom) (maxL := 2) (ret := none) (by decide +kernel) rfl ?_
  intro p e s m args below meth c s₁ B hml hv
  obtain ⟨rfl, hw0, hSE⟩ := hv
  have C0 : CX p s m ([.ref zx0, .ref zx1] : List Value).toArray meth c E cX1_copyFrom RX1 2 := ⟨B.exec, B.bytes, hml, findClass_of_methodNamed B.named, fun w hw => atoms_spec (ws := WS yX1_copyFrom cX1_copyFrom 2 none) B.pre w (List.mem_cons_of_mem _ hw), B.notSynchronized, hSE⟩
  have hz : s.heap.size + 0 ≤ eB E + G.1 := Nat.le_of_eq hw0.2.1
  have hw : WD E G I X s.heap s.heap [] := ⟨hw0, va_S.rf⟩
  have hr := B.returns
  have hx := C0.1; have hb := C0.2.1; have hml := C0.2.2.1; have hown := C0.2.2.2.1; have hts := C0.2.2.2.2.1
  have hl := lv_entry ([.ref zx0, .ref zx1]) (n := 2) (Nat.le_of_ble_eq_true rfl)
  rw [lg_entry_eq]
  generalize (lg_sl ([.ref zx0, .ref zx1]) ++ List.replicate (2 - (lg_sl ([.ref zx0, .ref zx1])).length) Slot.unset).toArray = ls at hl ⊢
  have hl : lv_has ls 2 [(0, .ref zx0), (1, .ref zx1)] := hl
  unfold m1_copyFrom at hf
  refine lv_aload_n hx hb dX1_copyFrom_0 rfl (lv_at hl 0 rfl) ?_
  refine lv_aload_n hx hb dX1_copyFrom_1 rfl (lv_at hl 1 rfl) ?_
  refine xg_1_0 C0 hw zt1 wd199 dX1_copyFrom_2 ?_
  obtain ⟨zI1, ezI1⟩ : ∃ y : Im, y = pF I 16 zx0 (gF I 16 zx1) := ⟨_, rfl⟩
  have hf := lt_at hf ezI1
  refine xp_1_0 C0 hz hw zt0 rfl rfl wd199 dX1_copyFrom_5 ezI1 (fun H locs hw => ?_)
  refine lv_aload_n hx hb dX1_copyFrom_8 rfl (lv_at hl 0 rfl) ?_
  refine lv_aload_n hx hb dX1_copyFrom_9 rfl (lv_at hl 1 rfl) ?_
  refine xg_1_1 C0 hw zt1 wd200 dX1_copyFrom_10 ?_
  obtain ⟨zI2, ezI2⟩ : ∃ y : Im, y = pF zI1 17 zx0 (gF zI1 17 zx1) := ⟨_, rfl⟩
  have hf := lt_at hf ezI2
  refine xp_1_1 C0 hz hw zt0 rfl rfl wd200 dX1_copyFrom_13 ezI2 (fun H locs hw => ?_)
  refine lv_aload_n hx hb dX1_copyFrom_16 rfl (lv_at hl 0 rfl) ?_
  refine lv_aload_n hx hb dX1_copyFrom_17 rfl (lv_at hl 1 rfl) ?_
  refine xg_1_2 C0 hw zt1 wd201 dX1_copyFrom_18 ?_
  obtain ⟨zI3, ezI3⟩ : ∃ y : Im, y = pF zI2 18 zx0 (gF zI2 18 zx1) := ⟨_, rfl⟩
  have hf := lt_at hf ezI3
  refine xp_1_2 C0 hz hw zt0 rfl rfl wd201 dX1_copyFrom_21 ezI3 (fun H locs hw => ?_)
  refine lv_aload_n hx hb dX1_copyFrom_24 rfl (lv_at hl 0 rfl) ?_
  refine lv_aload_n hx hb dX1_copyFrom_25 rfl (lv_at hl 1 rfl) ?_
  refine xg_1_3 C0 hw zt1 wd202 dX1_copyFrom_26 ?_
  obtain ⟨zI4, ezI4⟩ : ∃ y : Im, y = pF zI3 19 zx0 (gF zI3 19 zx1) := ⟨_, rfl⟩
  have hf := lt_at hf ezI4
  refine xp_1_3 C0 hz hw zt0 rfl rfl wd202 dX1_copyFrom_29 ezI4 (fun H locs hw => ?_)
  refine lv_aload_n hx hb dX1_copyFrom_32 rfl (lv_at hl 0 rfl) ?_
  refine lv_aload_n hx hb dX1_copyFrom_33 rfl (lv_at hl 1 rfl) ?_
  refine xg_1_4 C0 hw zt1 wd203 dX1_copyFrom_34 ?_
  obtain ⟨zI5, ezI5⟩ : ∃ y : Im, y = pF zI4 20 zx0 (gF zI4 20 zx1) := ⟨_, rfl⟩
  have hf := lt_at hf ezI5
  refine xp_1_4 C0 hz hw zt0 rfl rfl wd203 dX1_copyFrom_37 ezI5 (fun H locs hw => ?_)
  obtain rfl := Option.some.inj hf
  exact x_vret C0 hr hw dX1_copyFrom_40
noncomputable def m2_copyFrom (fl : Nat) (len : Nat → Nat) (X : Xm) (I : Im) (zx0 : Nat) (zx1 : Nat) : Option (Im) :=
  lt (pF I 35 zx0 (gF I 35 zx1)) fun zI1 =>
  nn (gR X 32 zx1) fun zv2 =>
  nn (gR X 32 zx0) fun zv3 =>
  ck (cpok (0 : Int32) (0 : Int32) (nI (len zv3)) (len zv2) (len zv3) = true) <|
  lt (pAr zI1 zv3 (va_cpy (gA zI1 zv2) (gA zI1 zv3) ((0 : Int32)).toNatClampNeg ((0 : Int32)).toNatClampNeg ((nI (len zv3))).toNatClampNeg)) fun zI5 =>
  nn (gR X 33 zx1) fun zv6 =>
  nn (gR X 33 zx0) fun zv7 =>
  ck (cpok (0 : Int32) (0 : Int32) (nI (len zv7)) (len zv6) (len zv7) = true) <|
  lt (pAr zI5 zv7 (va_cpy (gA zI5 zv6) (gA zI5 zv7) ((0 : Int32)).toNatClampNeg ((0 : Int32)).toNatClampNeg ((nI (len zv7))).toNatClampNeg)) fun zI9 =>
  nn (gR X 34 zx1) fun zv10 =>
  nn (gR X 34 zx0) fun zv11 =>
  ck (cpok (0 : Int32) (0 : Int32) (nI (len zv11)) (len zv10) (len zv11) = true) <|
  lt (pAr zI9 zv11 (va_cpy (gA zI9 zv10) (gA zI9 zv11) ((0 : Int32)).toNatClampNeg ((0 : Int32)).toNatClampNeg ((nI (len zv11))).toNatClampNeg)) fun zI13 =>
  some (zI13)
theorem hy2_copyFrom : yX2_copyFrom.cls = RX2 ∧ yX2_copyFrom.cls ≠ "java/lang/invoke/MethodHandle" ∧ yX2_copyFrom.cls ≠ "java/lang/invoke/VarHandle" ∧ (parseMethodDescriptor yX2_copyFrom.desc).map (fun d => d.parameters.length) = some 1 := ⟨rfl, by decide +kernel, by decide +kernel, by decide +kernel⟩
set_option maxHeartbeats 4000000 in
set_option maxRecDepth 100000 in
theorem c2_copyFrom (l : Launch) (E : EN) (G : GM) (fl : Nat) (X : Xm) (I : Im) (zx0 : Nat) (zx1 : Nat) (zt0 : okA E G 2 zx0) (zt1 : okA E G 2 zx1) {rr : Im} (hf : m2_copyFrom fl G.2.2 X I zx0 zx1 = some rr) : MT l yX2_copyFrom cX2_copyFrom 2 none ({ frames := 1, cells := 0, slots := 0, locals := 27 } : Room) E G I X [.ref zx0, .ref zx1] (QV E G rr X) 0 0 := by
  refine Met.ofW (cc := cX2_copyFrom) (maxL := 2) (ret := none) (by decide +kernel) rfl ?_
  intro p e s m args below meth c s₁ B hml hv
  obtain ⟨rfl, hw0, hSE⟩ := hv
  have C0 : CX p s m ([.ref zx0, .ref zx1] : List Value).toArray meth c E cX2_copyFrom RX2 2 := ⟨B.exec, B.bytes, hml, findClass_of_methodNamed B.named, fun w hw => atoms_spec (ws := WS yX2_copyFrom cX2_copyFrom 2 none) B.pre w (List.mem_cons_of_mem _ hw), B.notSynchronized, hSE⟩
  have hz : s.heap.size + 0 ≤ eB E + G.1 := Nat.le_of_eq hw0.2.1
  have hw : WD E G I X s.heap s.heap [] := ⟨hw0, va_S.rf⟩
  have hr := B.returns
  have hx := C0.1; have hb := C0.2.1; have hml := C0.2.2.1; have hown := C0.2.2.2.1; have hts := C0.2.2.2.2.1
  have hl := lv_entry ([.ref zx0, .ref zx1]) (n := 2) (Nat.le_of_ble_eq_true rfl)
  rw [lg_entry_eq]
  generalize (lg_sl ([.ref zx0, .ref zx1]) ++ List.replicate (2 - (lg_sl ([.ref zx0, .ref zx1])).length) Slot.unset).toArray = ls at hl ⊢
  have hl : lv_has ls 2 [(0, .ref zx0), (1, .ref zx1)] := hl
  unfold m2_copyFrom at hf
  refine lv_aload_n hx hb dX2_copyFrom_0 rfl (lv_at hl 0 rfl) ?_
  refine lv_aload_n hx hb dX2_copyFrom_1 rfl (lv_at hl 1 rfl) ?_
  refine xg_2_3 C0 hw zt1 wd209 dX2_copyFrom_2 ?_
  obtain ⟨zI1, ezI1⟩ : ∃ y : Im, y = pF I 35 zx0 (gF I 35 zx1) := ⟨_, rfl⟩
  have hf := lt_at hf ezI1
  refine xp_2_3 C0 hz hw zt0 rfl rfl wd209 dX2_copyFrom_5 ezI1 (fun H locs hw => ?_)
  refine lv_aload_n hx hb dX2_copyFrom_8 rfl (lv_at hl 1 rfl) ?_
  obtain ⟨zv2, ezv2, hf⟩ := nn_some hf
  have tzv2 : okA E G 11 zv2 := wt_r hw ezv2
  refine xg_2_0 C0 hw zt1 wd206 ezv2 dX2_copyFrom_9 ?_
  refine lv_iconst (v := (0 : Int32)) hx hb dX2_copyFrom_12 (by decide) ?_
  refine lv_aload_n hx hb dX2_copyFrom_13 rfl (lv_at hl 0 rfl) ?_
  obtain ⟨zv3, ezv3, hf⟩ := nn_some hf
  have tzv3 : okA E G 11 zv3 := wt_r hw ezv3
  refine xg_2_0 C0 hw zt0 wd206 ezv3 dX2_copyFrom_14 ?_
  refine lv_iconst (v := (0 : Int32)) hx hb dX2_copyFrom_17 (by decide) ?_
  refine lv_aload_n hx hb dX2_copyFrom_18 rfl (lv_at hl 0 rfl) ?_
  refine xg_2_0 C0 hw zt0 wd206 ezv3 dX2_copyFrom_19 ?_
  refine x_alen C0 hw 11 tzv3 (by decide) rfl dX2_copyFrom_22 ?_
  obtain ⟨zhc4, hf⟩ := ck_some hf
  obtain ⟨zI5, ezI5⟩ : ∃ y : Im, y = pAr zI1 zv3 (va_cpy (gA zI1 zv2) (gA zI1 zv3) ((0 : Int32)).toNatClampNeg ((0 : Int32)).toNatClampNeg ((nI (G.2.2 zv3))).toNatClampNeg) := ⟨_, rfl⟩
  have hf := lt_at hf ezI5
  refine x_copy C0 hz hw tzv2 tzv3 zhc4 (hml.trans hl.1.symm) wd210 (Nat.le_of_ble_eq_true rfl) (Nat.le_of_ble_eq_true rfl) dX2_copyFrom_23 ezI5 (fun H locs hw => ?_)
  refine lv_aload_n hx hb dX2_copyFrom_26 rfl (lv_at hl 1 rfl) ?_
  obtain ⟨zv6, ezv6, hf⟩ := nn_some hf
  have tzv6 : okA E G 11 zv6 := wt_r hw ezv6
  refine xg_2_1 C0 hw zt1 wd207 ezv6 dX2_copyFrom_27 ?_
  refine lv_iconst (v := (0 : Int32)) hx hb dX2_copyFrom_30 (by decide) ?_
  refine lv_aload_n hx hb dX2_copyFrom_31 rfl (lv_at hl 0 rfl) ?_
  obtain ⟨zv7, ezv7, hf⟩ := nn_some hf
  have tzv7 : okA E G 11 zv7 := wt_r hw ezv7
  refine xg_2_1 C0 hw zt0 wd207 ezv7 dX2_copyFrom_32 ?_
  refine lv_iconst (v := (0 : Int32)) hx hb dX2_copyFrom_35 (by decide) ?_
  refine lv_aload_n hx hb dX2_copyFrom_36 rfl (lv_at hl 0 rfl) ?_
  refine xg_2_1 C0 hw zt0 wd207 ezv7 dX2_copyFrom_37 ?_
  refine x_alen C0 hw 11 tzv7 (by decide) rfl dX2_copyFrom_40 ?_
  obtain ⟨zhc8, hf⟩ := ck_some hf
  obtain ⟨zI9, ezI9⟩ : ∃ y : Im, y = pAr zI5 zv7 (va_cpy (gA zI5 zv6) (gA zI5 zv7) ((0 : Int32)).toNatClampNeg ((0 : Int32)).toNatClampNeg ((nI (G.2.2 zv7))).toNatClampNeg) := ⟨_, rfl⟩
  have hf := lt_at hf ezI9
  refine x_copy C0 hz hw tzv6 tzv7 zhc8 (hml.trans hl.1.symm) wd210 (Nat.le_of_ble_eq_true rfl) (Nat.le_of_ble_eq_true rfl) dX2_copyFrom_41 ezI9 (fun H locs hw => ?_)
  refine lv_aload_n hx hb dX2_copyFrom_44 rfl (lv_at hl 1 rfl) ?_
  obtain ⟨zv10, ezv10, hf⟩ := nn_some hf
  have tzv10 : okA E G 11 zv10 := wt_r hw ezv10
  refine xg_2_2 C0 hw zt1 wd208 ezv10 dX2_copyFrom_45 ?_
  refine lv_iconst (v := (0 : Int32)) hx hb dX2_copyFrom_48 (by decide) ?_
  refine lv_aload_n hx hb dX2_copyFrom_49 rfl (lv_at hl 0 rfl) ?_
  obtain ⟨zv11, ezv11, hf⟩ := nn_some hf
  have tzv11 : okA E G 11 zv11 := wt_r hw ezv11
  refine xg_2_2 C0 hw zt0 wd208 ezv11 dX2_copyFrom_50 ?_
  refine lv_iconst (v := (0 : Int32)) hx hb dX2_copyFrom_53 (by decide) ?_
  refine lv_aload_n hx hb dX2_copyFrom_54 rfl (lv_at hl 0 rfl) ?_
  refine xg_2_2 C0 hw zt0 wd208 ezv11 dX2_copyFrom_55 ?_
  refine x_alen C0 hw 11 tzv11 (by decide) rfl dX2_copyFrom_58 ?_
  obtain ⟨zhc12, hf⟩ := ck_some hf
  obtain ⟨zI13, ezI13⟩ : ∃ y : Im, y = pAr zI9 zv11 (va_cpy (gA zI9 zv10) (gA zI9 zv11) ((0 : Int32)).toNatClampNeg ((0 : Int32)).toNatClampNeg ((nI (G.2.2 zv11))).toNatClampNeg) := ⟨_, rfl⟩
  have hf := lt_at hf ezI13
  refine x_copy C0 hz hw tzv10 tzv11 zhc12 (hml.trans hl.1.symm) wd210 (Nat.le_of_ble_eq_true rfl) (Nat.le_of_ble_eq_true rfl) dX2_copyFrom_59 ezI13 (fun H locs hw => ?_)
  obtain rfl := Option.some.inj hf
  exact x_vret C0 hr hw dX2_copyFrom_62
noncomputable def m2_slam_56 (fl : Nat) (len : Nat → Nat) (X : Xm) (I : Im) : Option (Im) :=
  some (I)
set_option maxHeartbeats 4000000 in
set_option maxRecDepth 100000 in
theorem w2_slam_56 {p : Program} {l : Launch} {e : Env} {s : State} {m : MethodId} {args : Array Value} {below : List Frame} {meth : Method} {c : Code} {E : EN} {G : GM} {X : Xm} (C0 : CX p s m args meth c E cX2_slam RX2 4) (hr : meth.sig.returnType = none) (hz : s.heap.size + 0 ≤ eB E + G.1) {rr : Im} (fl : Nat) : ∀ (I : Im) (H : Heap) (locs : List Loc) (ls : Array Slot) , WD E G I X s.heap H locs → lv_has ls 4 [] → m2_slam_56 fl G.2.2 X I = some rr → W p l e ({ frames := 0, cells := 0, slots := 0, locals := 0 } : Room) s m args below meth c H locs 0 0 (MQ below (QV E G rr X) args s 0 0 (eA E)) (F0 m 56 ls []) := by
  intro I H locs ls hw hl hf
  unfold m2_slam_56 at hf
  have hx := C0.1; have hb := C0.2.1; have hml := C0.2.2.1; have hown := C0.2.2.2.1; have hts := C0.2.2.2.2.1
  obtain rfl := Option.some.inj hf
  exact x_vret C0 hr hw dX2_slam_56
noncomputable def m2_slam (fl : Nat) (len : Nat → Nat) (X : Xm) (I : Im) (zx0 : Nat) (zx1 : Int32) (zx2 : Int32) (zx3 : Int32) : Option (Im) :=
  if (gF I 35 zx0) < 0 then
    m2_slam_56 fl len X I
  else
    if (24 : Int32) ≤ (gF I 35 zx0) then
      m2_slam_56 fl len X I
    else
      nn (gR X 32 zx0) fun zv3 =>
      ck (inb (gF I 35 zx0) (len zv3) = true) <|
      lt (pA I zv3 ((gF I 35 zx0)).toNatClampNeg zx1) fun zI5 =>
      nn (gR X 33 zx0) fun zv6 =>
      ck (inb (gF zI5 35 zx0) (len zv6) = true) <|
      lt (pA zI5 zv6 ((gF zI5 35 zx0)).toNatClampNeg zx2) fun zI8 =>
      nn (gR X 34 zx0) fun zv9 =>
      ck (inb (gF zI8 35 zx0) (len zv9) = true) <|
      lt (pA zI8 zv9 ((gF zI8 35 zx0)).toNatClampNeg zx3) fun zI11 =>
      lt (pF zI11 35 zx0 ((gF zI11 35 zx0) + (1 : Int32))) fun zI12 =>
      m2_slam_56 fl len X zI12
theorem hy2_slam : yX2_slam.cls = RX2 ∧ yX2_slam.cls ≠ "java/lang/invoke/MethodHandle" ∧ yX2_slam.cls ≠ "java/lang/invoke/VarHandle" ∧ (parseMethodDescriptor yX2_slam.desc).map (fun d => d.parameters.length) = some 3 := ⟨rfl, by decide +kernel, by decide +kernel, by decide +kernel⟩
set_option maxHeartbeats 4000000 in
set_option maxRecDepth 100000 in
theorem c2_slam (l : Launch) (E : EN) (G : GM) (fl : Nat) (X : Xm) (I : Im) (zx0 : Nat) (zx1 : Int32) (zx2 : Int32) (zx3 : Int32) (zt0 : okA E G 2 zx0) {rr : Im} (hf : m2_slam fl G.2.2 X I zx0 zx1 zx2 zx3 = some rr) : MT l yX2_slam cX2_slam 4 none ({ frames := 0, cells := 0, slots := 0, locals := 0 } : Room) E G I X [.ref zx0, .int zx1, .int zx2, .int zx3] (QV E G rr X) 0 0 := by
  refine Met.ofW (cc := cX2_slam) (maxL := 4) (ret := none) (by decide +kernel) rfl ?_
  intro p e s m args below meth c s₁ B hml hv
  obtain ⟨rfl, hw0, hSE⟩ := hv
  have C0 : CX p s m ([.ref zx0, .int zx1, .int zx2, .int zx3] : List Value).toArray meth c E cX2_slam RX2 4 := ⟨B.exec, B.bytes, hml, findClass_of_methodNamed B.named, fun w hw => atoms_spec (ws := WS yX2_slam cX2_slam 4 none) B.pre w (List.mem_cons_of_mem _ hw), B.notSynchronized, hSE⟩
  have hz : s.heap.size + 0 ≤ eB E + G.1 := Nat.le_of_eq hw0.2.1
  have hw : WD E G I X s.heap s.heap [] := ⟨hw0, va_S.rf⟩
  have hr := B.returns
  have hx := C0.1; have hb := C0.2.1; have hml := C0.2.2.1; have hown := C0.2.2.2.1; have hts := C0.2.2.2.2.1
  have hl := lv_entry ([.ref zx0, .int zx1, .int zx2, .int zx3]) (n := 4) (Nat.le_of_ble_eq_true rfl)
  rw [lg_entry_eq]
  generalize (lg_sl ([.ref zx0, .int zx1, .int zx2, .int zx3]) ++ List.replicate (4 - (lg_sl ([.ref zx0, .int zx1, .int zx2, .int zx3])).length) Slot.unset).toArray = ls at hl ⊢
  have hl : lv_has ls 4 [(0, .ref zx0), (1, .int zx1), (2, .int zx2), (3, .int zx3)] := hl
  unfold m2_slam at hf
  refine lv_aload_n hx hb dX2_slam_0 rfl (lv_at hl 0 rfl) ?_
  refine xg_2_3 C0 hw zt0 wd209 dX2_slam_1 ?_
  refine lv_if_lt (tgt := 56) hx hb dX2_slam_4 (by decide) (fun zc1 => ?_) (fun zc1 => ?_)
  · have hf := ite_t hf zc1
    exact w2_slam_56 C0 hr hz fl I _ _ _ hw (lv_sub hl [] rfl) hf
  · have hf := ite_f hf zc1
    refine lv_aload_n hx hb dX2_slam_7 rfl (lv_at hl 0 rfl) ?_
    refine xg_2_3 C0 hw zt0 wd209 dX2_slam_8 ?_
    refine lv_bipush (v := (24 : Int32)) hx hb dX2_slam_11 (by decide) ?_
    refine lv_icmp_ge (tgt := 56) hx hb dX2_slam_13 (by decide) (fun zc2 => ?_) (fun zc2 => ?_)
    · have hf := ite_t hf zc2
      exact w2_slam_56 C0 hr hz fl I _ _ _ hw (lv_sub hl [] rfl) hf
    · have hf := ite_f hf zc2
      refine lv_aload_n hx hb dX2_slam_16 rfl (lv_at hl 0 rfl) ?_
      obtain ⟨zv3, ezv3, hf⟩ := nn_some hf
      have tzv3 : okA E G 11 zv3 := wt_r hw ezv3
      refine xg_2_0 C0 hw zt0 wd206 ezv3 dX2_slam_17 ?_
      refine lv_aload_n hx hb dX2_slam_20 rfl (lv_at hl 0 rfl) ?_
      refine xg_2_3 C0 hw zt0 wd209 dX2_slam_21 ?_
      refine lv_iload_n hx hb dX2_slam_24 rfl (lv_at hl 1 rfl) ?_
      obtain ⟨zhb4, hf⟩ := ck_some hf
      obtain ⟨zI5, ezI5⟩ : ∃ y : Im, y = pA I zv3 ((gF I 35 zx0)).toNatClampNeg zx1 := ⟨_, rfl⟩
      have hf := lt_at hf ezI5
      refine x_iast C0 hz hw tzv3 zhb4 dX2_slam_25 ezI5 (fun H locs hw => ?_)
      refine lv_aload_n hx hb dX2_slam_26 rfl (lv_at hl 0 rfl) ?_
      obtain ⟨zv6, ezv6, hf⟩ := nn_some hf
      have tzv6 : okA E G 11 zv6 := wt_r hw ezv6
      refine xg_2_1 C0 hw zt0 wd207 ezv6 dX2_slam_27 ?_
      refine lv_aload_n hx hb dX2_slam_30 rfl (lv_at hl 0 rfl) ?_
      refine xg_2_3 C0 hw zt0 wd209 dX2_slam_31 ?_
      refine lv_iload_n hx hb dX2_slam_34 rfl (lv_at hl 2 rfl) ?_
      obtain ⟨zhb7, hf⟩ := ck_some hf
      obtain ⟨zI8, ezI8⟩ : ∃ y : Im, y = pA zI5 zv6 ((gF zI5 35 zx0)).toNatClampNeg zx2 := ⟨_, rfl⟩
      have hf := lt_at hf ezI8
      refine x_iast C0 hz hw tzv6 zhb7 dX2_slam_35 ezI8 (fun H locs hw => ?_)
      refine lv_aload_n hx hb dX2_slam_36 rfl (lv_at hl 0 rfl) ?_
      obtain ⟨zv9, ezv9, hf⟩ := nn_some hf
      have tzv9 : okA E G 11 zv9 := wt_r hw ezv9
      refine xg_2_2 C0 hw zt0 wd208 ezv9 dX2_slam_37 ?_
      refine lv_aload_n hx hb dX2_slam_40 rfl (lv_at hl 0 rfl) ?_
      refine xg_2_3 C0 hw zt0 wd209 dX2_slam_41 ?_
      refine lv_iload_n hx hb dX2_slam_44 rfl (lv_at hl 3 rfl) ?_
      obtain ⟨zhb10, hf⟩ := ck_some hf
      obtain ⟨zI11, ezI11⟩ : ∃ y : Im, y = pA zI8 zv9 ((gF zI8 35 zx0)).toNatClampNeg zx3 := ⟨_, rfl⟩
      have hf := lt_at hf ezI11
      refine x_iast C0 hz hw tzv9 zhb10 dX2_slam_45 ezI11 (fun H locs hw => ?_)
      refine lv_aload_n hx hb dX2_slam_46 rfl (lv_at hl 0 rfl) ?_
      refine lv_dup hx hb dX2_slam_47 rfl ?_
      refine xg_2_3 C0 hw zt0 wd209 dX2_slam_48 ?_
      refine lv_iconst (v := (1 : Int32)) hx hb dX2_slam_51 (by decide) ?_
      refine lv_iadd hx hb dX2_slam_52 ?_
      obtain ⟨zI12, ezI12⟩ : ∃ y : Im, y = pF zI11 35 zx0 ((gF zI11 35 zx0) + (1 : Int32)) := ⟨_, rfl⟩
      have hf := lt_at hf ezI12
      refine xp_2_3 C0 hz hw zt0 rfl rfl wd209 dX2_slam_53 ezI12 (fun H locs hw => ?_)
      exact w2_slam_56 C0 hr hz fl zI12 _ _ _ hw (lv_sub hl [] rfl) hf
noncomputable def m2_hearSecond_75 (fl : Nat) (len : Nat → Nat) (X : Xm) (I : Im) (zx0 : Nat) (zx1 : Int32) : Option (Im) :=
  lt (pF I 35 zx0 zx1) fun zI1 =>
  some (zI1)
set_option maxHeartbeats 4000000 in
set_option maxRecDepth 100000 in
theorem w2_hearSecond_75 {p : Program} {l : Launch} {e : Env} {s : State} {m : MethodId} {args : Array Value} {below : List Frame} {meth : Method} {c : Code} {E : EN} {G : GM} {X : Xm} (C0 : CX p s m args meth c E cX2_hearSecond RX2 3) (hr : meth.sig.returnType = none) (hz : s.heap.size + 0 ≤ eB E + G.1) {rr : Im} (fl : Nat) : ∀ (I : Im) (H : Heap) (locs : List Loc) (ls : Array Slot) (zx0 : Nat) (zx1 : Int32) (zt0 : okA E G 2 zx0), WD E G I X s.heap H locs → lv_has ls 3 [(0, .ref zx0), (1, .int zx1)] → m2_hearSecond_75 fl G.2.2 X I zx0 zx1 = some rr → W p l e ({ frames := 0, cells := 0, slots := 0, locals := 0 } : Room) s m args below meth c H locs 0 0 (MQ below (QV E G rr X) args s 0 0 (eA E)) (F0 m 75 ls []) := by
  intro I H locs ls zx0 zx1 zt0 hw hl hf
  unfold m2_hearSecond_75 at hf
  have hx := C0.1; have hb := C0.2.1; have hml := C0.2.2.1; have hown := C0.2.2.2.1; have hts := C0.2.2.2.2.1
  refine lv_aload_n hx hb dX2_hearSecond_75 rfl (lv_at hl 0 rfl) ?_
  refine lv_iload_n hx hb dX2_hearSecond_76 rfl (lv_at hl 1 rfl) ?_
  obtain ⟨zI1, ezI1⟩ : ∃ y : Im, y = pF I 35 zx0 zx1 := ⟨_, rfl⟩
  have hf := lt_at hf ezI1
  refine xp_2_3 C0 hz hw zt0 rfl rfl wd209 dX2_hearSecond_77 ezI1 (fun H locs hw => ?_)
  obtain rfl := Option.some.inj hf
  exact x_vret C0 hr hw dX2_hearSecond_80
noncomputable def m2_hearSecond_69 (fl : Nat) (len : Nat → Nat) (X : Xm) (zr4 : Im → Nat → Int32 → Int32 → Option (Im)) (I : Im) (zx0 : Nat) (zx1 : Int32) (zx2 : Int32) (p_34 : Nat) : Option (Im) :=
  lt (zx2 + 1) fun zv1 =>
  zr4 I zx0 zx1 zv1
set_option maxHeartbeats 4000000 in
set_option maxRecDepth 100000 in
theorem w2_hearSecond_69 {p : Program} {l : Launch} {e : Env} {s : State} {m : MethodId} {args : Array Value} {below : List Frame} {meth : Method} {c : Code} {E : EN} {G : GM} {X : Xm} (C0 : CX p s m args meth c E cX2_hearSecond RX2 3) (hr : meth.sig.returnType = none) (hz : s.heap.size + 0 ≤ eB E + G.1) {rr : Im} (fl : Nat) (zr4 : Im → Nat → Int32 → Int32 → Option (Im)) (zhr4 : ∀ (I : Im) (H : Heap) (locs : List Loc) (ls : Array Slot) (zx0 : Nat) (zx1 : Int32) (zx2 : Int32) (zt0 : okA E G 2 zx0), WD E G I X s.heap H locs → lv_has ls 3 [(0, .ref zx0), (1, .int zx1), (2, .int zx2)] → zr4 I zx0 zx1 zx2 = some rr → W p l e ({ frames := 0, cells := 0, slots := 0, locals := 0 } : Room) s m args below meth c H locs 0 0 (MQ below (QV E G rr X) args s 0 0 (eA E)) (F0 m 4 ls [])) : ∀ (I : Im) (H : Heap) (locs : List Loc) (ls : Array Slot) (zx0 : Nat) (zx1 : Int32) (zx2 : Int32) (p_34 : Nat) (zt0 : okA E G 2 zx0) (ep_34 : gR X 34 zx0 = some p_34) (tp_34 : okA E G 11 p_34), WD E G I X s.heap H locs → lv_has ls 3 [(0, .ref zx0), (1, .int zx1), (2, .int zx2)] → m2_hearSecond_69 fl G.2.2 X zr4 I zx0 zx1 zx2 p_34 = some rr → W p l e ({ frames := 0, cells := 0, slots := 0, locals := 0 } : Room) s m args below meth c H locs 0 0 (MQ below (QV E G rr X) args s 0 0 (eA E)) (F0 m 69 ls []) := by
  intro I H locs ls zx0 zx1 zx2 p_34 zt0 ep_34 tp_34 hw hl hf
  unfold m2_hearSecond_69 at hf
  have hx := C0.1; have hb := C0.2.1; have hml := C0.2.2.1; have hown := C0.2.2.2.1; have hts := C0.2.2.2.2.1
  obtain ⟨zv1, ezv1⟩ : ∃ y : Int32, y = zx2 + 1 := ⟨_, rfl⟩
  have hf := lt_at hf ezv1
  refine lv_iinc (v := zv1) (lv' := [(2, .int zv1), (0, .ref zx0), (1, .int zx1)]) hx hb dX2_hearSecond_69 hl (k := 2) rfl (by rw [ezv1]; rfl) (by decide) rfl (fun ls hl => ?_)
  refine lv_goto (tgt := 4) hx hb dX2_hearSecond_72 (by decide) ?_
  exact zhr4 I _ _ _ zx0 zx1 zv1 zt0 hw (lv_sub hl [1, 2, 0] rfl) hf
noncomputable def m2_hearSecond_4b (fl : Nat) (len : Nat → Nat) (X : Xm) (zr4 : Im → Nat → Int32 → Int32 → Option (Im)) (I : Im) (zx0 : Nat) (zx1 : Int32) (zx2 : Int32) : Option (Im) :=
  if (gF I 35 zx0) ≤ zx2 then
    m2_hearSecond_75 fl len X I zx0 zx1
  else
    if (24 : Int32) ≤ zx2 then
      m2_hearSecond_75 fl len X I zx0 zx1
    else
      nn (gR X 34 zx0) fun zv3 =>
      ck (inb zx2 (len zv3) = true) <|
      if (gA I zv3 (zx2).toNatClampNeg) ≤ (1 : Int32) then
        m2_hearSecond_69 fl len X zr4 I zx0 zx1 zx2 zv3
      else
        nn (gR X 32 zx0) fun zv6 =>
        ck (inb zx2 (len zv6) = true) <|
        ck (inb zx1 (len zv6) = true) <|
        lt (pA I zv6 (zx1).toNatClampNeg (gA I zv6 (zx2).toNatClampNeg)) fun zI9 =>
        nn (gR X 33 zx0) fun zv10 =>
        ck (inb zx2 (len zv10) = true) <|
        ck (inb zx1 (len zv10) = true) <|
        lt (pA zI9 zv10 (zx1).toNatClampNeg (gA zI9 zv10 (zx2).toNatClampNeg)) fun zI13 =>
        ck (inb zx1 (len zv3) = true) <|
        lt (pA zI13 zv3 (zx1).toNatClampNeg ((gA zI13 zv3 (zx2).toNatClampNeg) - (1 : Int32))) fun zI15 =>
        lt (zx1 + 1) fun zv16 =>
        m2_hearSecond_69 fl len X zr4 zI15 zx0 zv16 zx2 zv3
noncomputable def m2_hearSecond_4 (fl : Nat) (len : Nat → Nat) (X : Xm) (n : Nat) : Im → Nat → Int32 → Int32 → Option (Im) :=
  Nat.rec (fun _ _ _ _ => none) (fun _ r => m2_hearSecond_4b fl len X r) n
set_option maxHeartbeats 4000000 in
set_option maxRecDepth 100000 in
theorem w2_hearSecond_4b {p : Program} {l : Launch} {e : Env} {s : State} {m : MethodId} {args : Array Value} {below : List Frame} {meth : Method} {c : Code} {E : EN} {G : GM} {X : Xm} (C0 : CX p s m args meth c E cX2_hearSecond RX2 3) (hr : meth.sig.returnType = none) (hz : s.heap.size + 0 ≤ eB E + G.1) {rr : Im} (fl : Nat) (zr4 : Im → Nat → Int32 → Int32 → Option (Im)) (zhr4 : ∀ (I : Im) (H : Heap) (locs : List Loc) (ls : Array Slot) (zx0 : Nat) (zx1 : Int32) (zx2 : Int32) (zt0 : okA E G 2 zx0), WD E G I X s.heap H locs → lv_has ls 3 [(0, .ref zx0), (1, .int zx1), (2, .int zx2)] → zr4 I zx0 zx1 zx2 = some rr → W p l e ({ frames := 0, cells := 0, slots := 0, locals := 0 } : Room) s m args below meth c H locs 0 0 (MQ below (QV E G rr X) args s 0 0 (eA E)) (F0 m 4 ls [])) : ∀ (I : Im) (H : Heap) (locs : List Loc) (ls : Array Slot) (zx0 : Nat) (zx1 : Int32) (zx2 : Int32) (zt0 : okA E G 2 zx0), WD E G I X s.heap H locs → lv_has ls 3 [(0, .ref zx0), (1, .int zx1), (2, .int zx2)] → m2_hearSecond_4b fl G.2.2 X zr4 I zx0 zx1 zx2 = some rr → W p l e ({ frames := 0, cells := 0, slots := 0, locals := 0 } : Room) s m args below meth c H locs 0 0 (MQ below (QV E G rr X) args s 0 0 (eA E)) (F0 m 4 ls []) := by
  intro I H locs ls zx0 zx1 zx2 zt0 hw hl hf
  unfold m2_hearSecond_4b at hf
  have hx := C0.1; have hb := C0.2.1; have hml := C0.2.2.1; have hown := C0.2.2.2.1; have hts := C0.2.2.2.2.1
  refine lv_iload_n hx hb dX2_hearSecond_4 rfl (lv_at hl 2 rfl) ?_
  refine lv_aload_n hx hb dX2_hearSecond_5 rfl (lv_at hl 0 rfl) ?_
  refine xg_2_3 C0 hw zt0 wd209 dX2_hearSecond_6 ?_
  refine lv_icmp_ge (tgt := 75) hx hb dX2_hearSecond_9 (by decide) (fun zc1 => ?_) (fun zc1 => ?_)
  · have hf := ite_t hf zc1
    exact w2_hearSecond_75 C0 hr hz fl I _ _ _ zx0 zx1 zt0 hw (lv_sub hl [0, 1] rfl) hf
  · have hf := ite_f hf zc1
    refine lv_iload_n hx hb dX2_hearSecond_12 rfl (lv_at hl 2 rfl) ?_
    refine lv_bipush (v := (24 : Int32)) hx hb dX2_hearSecond_13 (by decide) ?_
    refine lv_icmp_ge (tgt := 75) hx hb dX2_hearSecond_15 (by decide) (fun zc2 => ?_) (fun zc2 => ?_)
    · have hf := ite_t hf zc2
      exact w2_hearSecond_75 C0 hr hz fl I _ _ _ zx0 zx1 zt0 hw (lv_sub hl [0, 1] rfl) hf
    · have hf := ite_f hf zc2
      refine lv_aload_n hx hb dX2_hearSecond_18 rfl (lv_at hl 0 rfl) ?_
      obtain ⟨zv3, ezv3, hf⟩ := nn_some hf
      have tzv3 : okA E G 11 zv3 := wt_r hw ezv3
      refine xg_2_2 C0 hw zt0 wd208 ezv3 dX2_hearSecond_19 ?_
      refine lv_iload_n hx hb dX2_hearSecond_22 rfl (lv_at hl 2 rfl) ?_
      obtain ⟨zhb4, hf⟩ := ck_some hf
      refine x_iald C0 hw tzv3 zhb4 dX2_hearSecond_23 ?_
      refine lv_iconst (v := (1 : Int32)) hx hb dX2_hearSecond_24 (by decide) ?_
      refine lv_icmp_le (tgt := 69) hx hb dX2_hearSecond_25 (by decide) (fun zc5 => ?_) (fun zc5 => ?_)
      · have hf := ite_t hf zc5
        exact w2_hearSecond_69 C0 hr hz fl zr4 zhr4 I _ _ _ zx0 zx1 zx2 zv3 zt0 ezv3 tzv3 hw (lv_sub hl [0, 1, 2] rfl) hf
      · have hf := ite_f hf zc5
        refine lv_aload_n hx hb dX2_hearSecond_28 rfl (lv_at hl 0 rfl) ?_
        obtain ⟨zv6, ezv6, hf⟩ := nn_some hf
        have tzv6 : okA E G 11 zv6 := wt_r hw ezv6
        refine xg_2_0 C0 hw zt0 wd206 ezv6 dX2_hearSecond_29 ?_
        refine lv_iload_n hx hb dX2_hearSecond_32 rfl (lv_at hl 1 rfl) ?_
        refine lv_aload_n hx hb dX2_hearSecond_33 rfl (lv_at hl 0 rfl) ?_
        refine xg_2_0 C0 hw zt0 wd206 ezv6 dX2_hearSecond_34 ?_
        refine lv_iload_n hx hb dX2_hearSecond_37 rfl (lv_at hl 2 rfl) ?_
        obtain ⟨zhb7, hf⟩ := ck_some hf
        refine x_iald C0 hw tzv6 zhb7 dX2_hearSecond_38 ?_
        obtain ⟨zhb8, hf⟩ := ck_some hf
        obtain ⟨zI9, ezI9⟩ : ∃ y : Im, y = pA I zv6 (zx1).toNatClampNeg (gA I zv6 (zx2).toNatClampNeg) := ⟨_, rfl⟩
        have hf := lt_at hf ezI9
        refine x_iast C0 hz hw tzv6 zhb8 dX2_hearSecond_39 ezI9 (fun H locs hw => ?_)
        refine lv_aload_n hx hb dX2_hearSecond_40 rfl (lv_at hl 0 rfl) ?_
        obtain ⟨zv10, ezv10, hf⟩ := nn_some hf
        have tzv10 : okA E G 11 zv10 := wt_r hw ezv10
        refine xg_2_1 C0 hw zt0 wd207 ezv10 dX2_hearSecond_41 ?_
        refine lv_iload_n hx hb dX2_hearSecond_44 rfl (lv_at hl 1 rfl) ?_
        refine lv_aload_n hx hb dX2_hearSecond_45 rfl (lv_at hl 0 rfl) ?_
        refine xg_2_1 C0 hw zt0 wd207 ezv10 dX2_hearSecond_46 ?_
        refine lv_iload_n hx hb dX2_hearSecond_49 rfl (lv_at hl 2 rfl) ?_
        obtain ⟨zhb11, hf⟩ := ck_some hf
        refine x_iald C0 hw tzv10 zhb11 dX2_hearSecond_50 ?_
        obtain ⟨zhb12, hf⟩ := ck_some hf
        obtain ⟨zI13, ezI13⟩ : ∃ y : Im, y = pA zI9 zv10 (zx1).toNatClampNeg (gA zI9 zv10 (zx2).toNatClampNeg) := ⟨_, rfl⟩
        have hf := lt_at hf ezI13
        refine x_iast C0 hz hw tzv10 zhb12 dX2_hearSecond_51 ezI13 (fun H locs hw => ?_)
        refine lv_aload_n hx hb dX2_hearSecond_52 rfl (lv_at hl 0 rfl) ?_
        refine xg_2_2 C0 hw zt0 wd208 ezv3 dX2_hearSecond_53 ?_
        refine lv_iload_n hx hb dX2_hearSecond_56 rfl (lv_at hl 1 rfl) ?_
        refine lv_aload_n hx hb dX2_hearSecond_57 rfl (lv_at hl 0 rfl) ?_
        refine xg_2_2 C0 hw zt0 wd208 ezv3 dX2_hearSecond_58 ?_
        refine lv_iload_n hx hb dX2_hearSecond_61 rfl (lv_at hl 2 rfl) ?_
        refine x_iald C0 hw tzv3 zhb4 dX2_hearSecond_62 ?_
        refine lv_iconst (v := (1 : Int32)) hx hb dX2_hearSecond_63 (by decide) ?_
        refine lv_isub hx hb dX2_hearSecond_64 ?_
        obtain ⟨zhb14, hf⟩ := ck_some hf
        obtain ⟨zI15, ezI15⟩ : ∃ y : Im, y = pA zI13 zv3 (zx1).toNatClampNeg ((gA zI13 zv3 (zx2).toNatClampNeg) - (1 : Int32)) := ⟨_, rfl⟩
        have hf := lt_at hf ezI15
        refine x_iast C0 hz hw tzv3 zhb14 dX2_hearSecond_65 ezI15 (fun H locs hw => ?_)
        obtain ⟨zv16, ezv16⟩ : ∃ y : Int32, y = zx1 + 1 := ⟨_, rfl⟩
        have hf := lt_at hf ezv16
        refine lv_iinc (v := zv16) (lv' := [(1, .int zv16), (0, .ref zx0), (2, .int zx2)]) hx hb dX2_hearSecond_66 hl (k := 1) rfl (by rw [ezv16]; rfl) (by decide) rfl (fun ls hl => ?_)
        exact w2_hearSecond_69 C0 hr hz fl zr4 zhr4 zI15 _ _ _ zx0 zv16 zx2 zv3 zt0 ezv3 tzv3 hw (lv_sub hl [1, 0, 2] rfl) hf
theorem w2_hearSecond_4 {p : Program} {l : Launch} {e : Env} {s : State} {m : MethodId} {args : Array Value} {below : List Frame} {meth : Method} {c : Code} {E : EN} {G : GM} {X : Xm} (C0 : CX p s m args meth c E cX2_hearSecond RX2 3) (hr : meth.sig.returnType = none) (hz : s.heap.size + 0 ≤ eB E + G.1) {rr : Im} (fl : Nat) : ∀ (n : Nat) (I : Im) (H : Heap) (locs : List Loc) (ls : Array Slot) (zx0 : Nat) (zx1 : Int32) (zx2 : Int32) (zt0 : okA E G 2 zx0), WD E G I X s.heap H locs → lv_has ls 3 [(0, .ref zx0), (1, .int zx1), (2, .int zx2)] → m2_hearSecond_4 fl G.2.2 X n I zx0 zx1 zx2 = some rr → W p l e ({ frames := 0, cells := 0, slots := 0, locals := 0 } : Room) s m args below meth c H locs 0 0 (MQ below (QV E G rr X) args s 0 0 (eA E)) (F0 m 4 ls []) := by
  intro n
  induction n with
  | zero => intro I H locs ls zx0 zx1 zx2 zt0 hw hl hf; exact absurd (show (none : Option (Im)) = some rr from hf) (by simp)
  | succ n ih => intro I H locs ls zx0 zx1 zx2 zt0 hw hl hf; exact w2_hearSecond_4b C0 hr hz fl _ ih I H locs ls zx0 zx1 zx2 zt0 hw hl hf
noncomputable def m2_hearSecond (fl : Nat) (len : Nat → Nat) (X : Xm) (I : Im) (zx0 : Nat) : Option (Im) :=
  m2_hearSecond_4 fl len X fl I zx0 (0 : Int32) (0 : Int32)
theorem hy2_hearSecond : yX2_hearSecond.cls = RX2 ∧ yX2_hearSecond.cls ≠ "java/lang/invoke/MethodHandle" ∧ yX2_hearSecond.cls ≠ "java/lang/invoke/VarHandle" ∧ (parseMethodDescriptor yX2_hearSecond.desc).map (fun d => d.parameters.length) = some 0 := ⟨rfl, by decide +kernel, by decide +kernel, by decide +kernel⟩
set_option maxHeartbeats 4000000 in
set_option maxRecDepth 100000 in
theorem c2_hearSecond (l : Launch) (E : EN) (G : GM) (fl : Nat) (X : Xm) (I : Im) (zx0 : Nat) (zt0 : okA E G 2 zx0) {rr : Im} (hf : m2_hearSecond fl G.2.2 X I zx0 = some rr) : MT l yX2_hearSecond cX2_hearSecond 3 none ({ frames := 0, cells := 0, slots := 0, locals := 0 } : Room) E G I X [.ref zx0] (QV E G rr X) 0 0 := by
  refine Met.ofW (cc := cX2_hearSecond) (maxL := 3) (ret := none) (by decide +kernel) rfl ?_
  intro p e s m args below meth c s₁ B hml hv
  obtain ⟨rfl, hw0, hSE⟩ := hv
  have C0 : CX p s m ([.ref zx0] : List Value).toArray meth c E cX2_hearSecond RX2 3 := ⟨B.exec, B.bytes, hml, findClass_of_methodNamed B.named, fun w hw => atoms_spec (ws := WS yX2_hearSecond cX2_hearSecond 3 none) B.pre w (List.mem_cons_of_mem _ hw), B.notSynchronized, hSE⟩
  have hz : s.heap.size + 0 ≤ eB E + G.1 := Nat.le_of_eq hw0.2.1
  have hw : WD E G I X s.heap s.heap [] := ⟨hw0, va_S.rf⟩
  have hr := B.returns
  have hx := C0.1; have hb := C0.2.1; have hml := C0.2.2.1; have hown := C0.2.2.2.1; have hts := C0.2.2.2.2.1
  have hl := lv_entry ([.ref zx0]) (n := 3) (Nat.le_of_ble_eq_true rfl)
  rw [lg_entry_eq]
  generalize (lg_sl ([.ref zx0]) ++ List.replicate (3 - (lg_sl ([.ref zx0])).length) Slot.unset).toArray = ls at hl ⊢
  have hl : lv_has ls 3 [(0, .ref zx0)] := hl
  unfold m2_hearSecond at hf
  refine lv_iconst (v := (0 : Int32)) hx hb dX2_hearSecond_0 (by decide) ?_
  refine lv_istore_n (lv' := [(1, .int (0 : Int32)), (0, .ref zx0)]) hx hb dX2_hearSecond_1 rfl hl (by decide) rfl (fun ls hl => ?_)
  refine lv_iconst (v := (0 : Int32)) hx hb dX2_hearSecond_2 (by decide) ?_
  refine lv_istore_n (lv' := [(2, .int (0 : Int32)), (1, .int (0 : Int32)), (0, .ref zx0)]) hx hb dX2_hearSecond_3 rfl hl (by decide) rfl (fun ls hl => ?_)
  exact w2_hearSecond_4 C0 hr hz fl fl I _ _ _ zx0 (0 : Int32) (0 : Int32) zt0 hw (lv_sub hl [2, 1, 0] rfl) hf
noncomputable def m2_countOn_37 (fl : Nat) (len : Nat → Nat) (X : Xm) (I : Im) (zx2 : Int32) : Option (Int32) :=
  some (zx2)
set_option maxHeartbeats 4000000 in
set_option maxRecDepth 100000 in
theorem w2_countOn_37 {p : Program} {l : Launch} {e : Env} {s : State} {m : MethodId} {args : Array Value} {below : List Frame} {meth : Method} {c : Code} {E : EN} {G : GM} {X : Xm} {I : Im} (C0 : CX p s m args meth c E cX2_countOn RX2 4) (hr : meth.sig.returnType = (some .int)) (hz : s.heap.size + 0 ≤ eB E + G.1) {rr : Int32} (fl : Nat) : ∀ (H : Heap) (locs : List Loc) (ls : Array Slot) (zx2 : Int32) , WD E G I X s.heap H locs → lv_has ls 4 [(2, .int zx2)] → m2_countOn_37 fl G.2.2 X I zx2 = some rr → W p l e ({ frames := 0, cells := 0, slots := 0, locals := 0 } : Room) s m args below meth c H locs 0 0 (MQ below (QI E G rr I X) args s 0 0 (eA E)) (F0 m 37 ls []) := by
  intro H locs ls zx2 hw hl hf
  unfold m2_countOn_37 at hf
  have hx := C0.1; have hb := C0.2.1; have hml := C0.2.2.1; have hown := C0.2.2.2.1; have hts := C0.2.2.2.2.1
  refine lv_iload_n hx hb dX2_countOn_37 rfl (lv_at hl 0 rfl) ?_
  obtain rfl := Option.some.inj hf
  exact x_iret C0 hr hw dX2_countOn_38
noncomputable def m2_countOn_31 (fl : Nat) (len : Nat → Nat) (X : Xm) (I : Im) (zr4 : Nat → Int32 → Int32 → Int32 → Option (Int32)) (zx0 : Nat) (zx1 : Int32) (zx2 : Int32) (zx3 : Int32) (p_32 : Nat) : Option (Int32) :=
  lt (zx3 + 1) fun zv1 =>
  zr4 zx0 zx1 zx2 zv1
set_option maxHeartbeats 4000000 in
set_option maxRecDepth 100000 in
theorem w2_countOn_31 {p : Program} {l : Launch} {e : Env} {s : State} {m : MethodId} {args : Array Value} {below : List Frame} {meth : Method} {c : Code} {E : EN} {G : GM} {X : Xm} {I : Im} (C0 : CX p s m args meth c E cX2_countOn RX2 4) (hr : meth.sig.returnType = (some .int)) (hz : s.heap.size + 0 ≤ eB E + G.1) {rr : Int32} (fl : Nat) (zr4 : Nat → Int32 → Int32 → Int32 → Option (Int32)) (zhr4 : ∀ (H : Heap) (locs : List Loc) (ls : Array Slot) (zx0 : Nat) (zx1 : Int32) (zx2 : Int32) (zx3 : Int32) (zt0 : okA E G 2 zx0), WD E G I X s.heap H locs → lv_has ls 4 [(0, .ref zx0), (1, .int zx1), (2, .int zx2), (3, .int zx3)] → zr4 zx0 zx1 zx2 zx3 = some rr → W p l e ({ frames := 0, cells := 0, slots := 0, locals := 0 } : Room) s m args below meth c H locs 0 0 (MQ below (QI E G rr I X) args s 0 0 (eA E)) (F0 m 4 ls [])) : ∀ (H : Heap) (locs : List Loc) (ls : Array Slot) (zx0 : Nat) (zx1 : Int32) (zx2 : Int32) (zx3 : Int32) (p_32 : Nat) (zt0 : okA E G 2 zx0) (ep_32 : gR X 32 zx0 = some p_32) (tp_32 : okA E G 11 p_32), WD E G I X s.heap H locs → lv_has ls 4 [(0, .ref zx0), (1, .int zx1), (2, .int zx2), (3, .int zx3)] → m2_countOn_31 fl G.2.2 X I zr4 zx0 zx1 zx2 zx3 p_32 = some rr → W p l e ({ frames := 0, cells := 0, slots := 0, locals := 0 } : Room) s m args below meth c H locs 0 0 (MQ below (QI E G rr I X) args s 0 0 (eA E)) (F0 m 31 ls []) := by
  intro H locs ls zx0 zx1 zx2 zx3 p_32 zt0 ep_32 tp_32 hw hl hf
  unfold m2_countOn_31 at hf
  have hx := C0.1; have hb := C0.2.1; have hml := C0.2.2.1; have hown := C0.2.2.2.1; have hts := C0.2.2.2.2.1
  obtain ⟨zv1, ezv1⟩ : ∃ y : Int32, y = zx3 + 1 := ⟨_, rfl⟩
  have hf := lt_at hf ezv1
  refine lv_iinc (v := zv1) (lv' := [(3, .int zv1), (0, .ref zx0), (1, .int zx1), (2, .int zx2)]) hx hb dX2_countOn_31 hl (k := 3) rfl (by rw [ezv1]; rfl) (by decide) rfl (fun ls hl => ?_)
  refine lv_goto (tgt := 4) hx hb dX2_countOn_34 (by decide) ?_
  exact zhr4 _ _ _ zx0 zx1 zx2 zv1 zt0 hw (lv_sub hl [1, 2, 3, 0] rfl) hf
noncomputable def m2_countOn_4b (fl : Nat) (len : Nat → Nat) (X : Xm) (I : Im) (zr4 : Nat → Int32 → Int32 → Int32 → Option (Int32)) (zx0 : Nat) (zx1 : Int32) (zx2 : Int32) (zx3 : Int32) : Option (Int32) :=
  if (gF I 35 zx0) ≤ zx3 then
    m2_countOn_37 fl len X I zx2
  else
    if (24 : Int32) ≤ zx3 then
      m2_countOn_37 fl len X I zx2
    else
      nn (gR X 32 zx0) fun zv3 =>
      ck (inb zx3 (len zv3) = true) <|
      if (gA I zv3 (zx3).toNatClampNeg) = zx1 then
        lt (zx2 + 1) fun zv6 =>
        m2_countOn_31 fl len X I zr4 zx0 zx1 zv6 zx3 zv3
      else
        m2_countOn_31 fl len X I zr4 zx0 zx1 zx2 zx3 zv3
noncomputable def m2_countOn_4 (fl : Nat) (len : Nat → Nat) (X : Xm) (I : Im) (n : Nat) : Nat → Int32 → Int32 → Int32 → Option (Int32) :=
  Nat.rec (fun _ _ _ _ => none) (fun _ r => m2_countOn_4b fl len X I r) n
set_option maxHeartbeats 4000000 in
set_option maxRecDepth 100000 in
theorem w2_countOn_4b {p : Program} {l : Launch} {e : Env} {s : State} {m : MethodId} {args : Array Value} {below : List Frame} {meth : Method} {c : Code} {E : EN} {G : GM} {X : Xm} {I : Im} (C0 : CX p s m args meth c E cX2_countOn RX2 4) (hr : meth.sig.returnType = (some .int)) (hz : s.heap.size + 0 ≤ eB E + G.1) {rr : Int32} (fl : Nat) (zr4 : Nat → Int32 → Int32 → Int32 → Option (Int32)) (zhr4 : ∀ (H : Heap) (locs : List Loc) (ls : Array Slot) (zx0 : Nat) (zx1 : Int32) (zx2 : Int32) (zx3 : Int32) (zt0 : okA E G 2 zx0), WD E G I X s.heap H locs → lv_has ls 4 [(0, .ref zx0), (1, .int zx1), (2, .int zx2), (3, .int zx3)] → zr4 zx0 zx1 zx2 zx3 = some rr → W p l e ({ frames := 0, cells := 0, slots := 0, locals := 0 } : Room) s m args below meth c H locs 0 0 (MQ below (QI E G rr I X) args s 0 0 (eA E)) (F0 m 4 ls [])) : ∀ (H : Heap) (locs : List Loc) (ls : Array Slot) (zx0 : Nat) (zx1 : Int32) (zx2 : Int32) (zx3 : Int32) (zt0 : okA E G 2 zx0), WD E G I X s.heap H locs → lv_has ls 4 [(0, .ref zx0), (1, .int zx1), (2, .int zx2), (3, .int zx3)] → m2_countOn_4b fl G.2.2 X I zr4 zx0 zx1 zx2 zx3 = some rr → W p l e ({ frames := 0, cells := 0, slots := 0, locals := 0 } : Room) s m args below meth c H locs 0 0 (MQ below (QI E G rr I X) args s 0 0 (eA E)) (F0 m 4 ls []) := by
  intro H locs ls zx0 zx1 zx2 zx3 zt0 hw hl hf
  unfold m2_countOn_4b at hf
  have hx := C0.1; have hb := C0.2.1; have hml := C0.2.2.1; have hown := C0.2.2.2.1; have hts := C0.2.2.2.2.1
  refine lv_iload_n hx hb dX2_countOn_4 rfl (lv_at hl 3 rfl) ?_
  refine lv_aload_n hx hb dX2_countOn_5 rfl (lv_at hl 0 rfl) ?_
  refine xg_2_3 C0 hw zt0 wd209 dX2_countOn_6 ?_
  refine lv_icmp_ge (tgt := 37) hx hb dX2_countOn_9 (by decide) (fun zc1 => ?_) (fun zc1 => ?_)
  · have hf := ite_t hf zc1
    exact w2_countOn_37 C0 hr hz fl _ _ _ zx2 hw (lv_sub hl [2] rfl) hf
  · have hf := ite_f hf zc1
    refine lv_iload_n hx hb dX2_countOn_12 rfl (lv_at hl 3 rfl) ?_
    refine lv_bipush (v := (24 : Int32)) hx hb dX2_countOn_13 (by decide) ?_
    refine lv_icmp_ge (tgt := 37) hx hb dX2_countOn_15 (by decide) (fun zc2 => ?_) (fun zc2 => ?_)
    · have hf := ite_t hf zc2
      exact w2_countOn_37 C0 hr hz fl _ _ _ zx2 hw (lv_sub hl [2] rfl) hf
    · have hf := ite_f hf zc2
      refine lv_aload_n hx hb dX2_countOn_18 rfl (lv_at hl 0 rfl) ?_
      obtain ⟨zv3, ezv3, hf⟩ := nn_some hf
      have tzv3 : okA E G 11 zv3 := wt_r hw ezv3
      refine xg_2_0 C0 hw zt0 wd206 ezv3 dX2_countOn_19 ?_
      refine lv_iload_n hx hb dX2_countOn_22 rfl (lv_at hl 3 rfl) ?_
      obtain ⟨zhb4, hf⟩ := ck_some hf
      refine x_iald C0 hw tzv3 zhb4 dX2_countOn_23 ?_
      refine lv_iload_n hx hb dX2_countOn_24 rfl (lv_at hl 1 rfl) ?_
      refine lv_icmp_ne (tgt := 31) hx hb dX2_countOn_25 (by decide) (fun zc5 => ?_) (fun zc5 => ?_)
      · have hf := ite_f hf zc5
        exact w2_countOn_31 C0 hr hz fl zr4 zhr4 _ _ _ zx0 zx1 zx2 zx3 zv3 zt0 ezv3 tzv3 hw (lv_sub hl [0, 1, 2, 3] rfl) hf
      · have hf := ite_t hf zc5
        obtain ⟨zv6, ezv6⟩ : ∃ y : Int32, y = zx2 + 1 := ⟨_, rfl⟩
        have hf := lt_at hf ezv6
        refine lv_iinc (v := zv6) (lv' := [(2, .int zv6), (0, .ref zx0), (1, .int zx1), (3, .int zx3)]) hx hb dX2_countOn_28 hl (k := 2) rfl (by rw [ezv6]; rfl) (by decide) rfl (fun ls hl => ?_)
        exact w2_countOn_31 C0 hr hz fl zr4 zhr4 _ _ _ zx0 zx1 zv6 zx3 zv3 zt0 ezv3 tzv3 hw (lv_sub hl [1, 2, 0, 3] rfl) hf
theorem w2_countOn_4 {p : Program} {l : Launch} {e : Env} {s : State} {m : MethodId} {args : Array Value} {below : List Frame} {meth : Method} {c : Code} {E : EN} {G : GM} {X : Xm} {I : Im} (C0 : CX p s m args meth c E cX2_countOn RX2 4) (hr : meth.sig.returnType = (some .int)) (hz : s.heap.size + 0 ≤ eB E + G.1) {rr : Int32} (fl : Nat) : ∀ (n : Nat) (H : Heap) (locs : List Loc) (ls : Array Slot) (zx0 : Nat) (zx1 : Int32) (zx2 : Int32) (zx3 : Int32) (zt0 : okA E G 2 zx0), WD E G I X s.heap H locs → lv_has ls 4 [(0, .ref zx0), (1, .int zx1), (2, .int zx2), (3, .int zx3)] → m2_countOn_4 fl G.2.2 X I n zx0 zx1 zx2 zx3 = some rr → W p l e ({ frames := 0, cells := 0, slots := 0, locals := 0 } : Room) s m args below meth c H locs 0 0 (MQ below (QI E G rr I X) args s 0 0 (eA E)) (F0 m 4 ls []) := by
  intro n
  induction n with
  | zero => intro H locs ls zx0 zx1 zx2 zx3 zt0 hw hl hf; exact absurd (show (none : Option (Int32)) = some rr from hf) (by simp)
  | succ n ih => intro H locs ls zx0 zx1 zx2 zx3 zt0 hw hl hf; exact w2_countOn_4b C0 hr hz fl _ ih H locs ls zx0 zx1 zx2 zx3 zt0 hw hl hf
noncomputable def m2_countOn (fl : Nat) (len : Nat → Nat) (X : Xm) (I : Im) (zx0 : Nat) (zx1 : Int32) : Option (Int32) :=
  m2_countOn_4 fl len X I fl zx0 zx1 (0 : Int32) (0 : Int32)
theorem hy2_countOn : yX2_countOn.cls = RX2 ∧ yX2_countOn.cls ≠ "java/lang/invoke/MethodHandle" ∧ yX2_countOn.cls ≠ "java/lang/invoke/VarHandle" ∧ (parseMethodDescriptor yX2_countOn.desc).map (fun d => d.parameters.length) = some 1 := ⟨rfl, by decide +kernel, by decide +kernel, by decide +kernel⟩
set_option maxHeartbeats 4000000 in
set_option maxRecDepth 100000 in
theorem c2_countOn (l : Launch) (E : EN) (G : GM) (fl : Nat) (X : Xm) (I : Im) (zx0 : Nat) (zx1 : Int32) (zt0 : okA E G 2 zx0) {rr : Int32} (hf : m2_countOn fl G.2.2 X I zx0 zx1 = some rr) : MT l yX2_countOn cX2_countOn 4 (some .int) ({ frames := 0, cells := 0, slots := 0, locals := 0 } : Room) E G I X [.ref zx0, .int zx1] (QI E G rr I X) 0 0 := by
  refine Met.ofW (cc := cX2_countOn) (maxL := 4) (ret := (some .int)) (by decide +kernel) rfl ?_
  intro p e s m args below meth c s₁ B hml hv
  obtain ⟨rfl, hw0, hSE⟩ := hv
  have C0 : CX p s m ([.ref zx0, .int zx1] : List Value).toArray meth c E cX2_countOn RX2 4 := ⟨B.exec, B.bytes, hml, findClass_of_methodNamed B.named, fun w hw => atoms_spec (ws := WS yX2_countOn cX2_countOn 4 (some .int)) B.pre w (List.mem_cons_of_mem _ hw), B.notSynchronized, hSE⟩
  have hz : s.heap.size + 0 ≤ eB E + G.1 := Nat.le_of_eq hw0.2.1
  have hw : WD E G I X s.heap s.heap [] := ⟨hw0, va_S.rf⟩
  have hr := B.returns
  have hx := C0.1; have hb := C0.2.1; have hml := C0.2.2.1; have hown := C0.2.2.2.1; have hts := C0.2.2.2.2.1
  have hl := lv_entry ([.ref zx0, .int zx1]) (n := 4) (Nat.le_of_ble_eq_true rfl)
  rw [lg_entry_eq]
  generalize (lg_sl ([.ref zx0, .int zx1]) ++ List.replicate (4 - (lg_sl ([.ref zx0, .int zx1])).length) Slot.unset).toArray = ls at hl ⊢
  have hl : lv_has ls 4 [(0, .ref zx0), (1, .int zx1)] := hl
  unfold m2_countOn at hf
  refine lv_iconst (v := (0 : Int32)) hx hb dX2_countOn_0 (by decide) ?_
  refine lv_istore_n (lv' := [(2, .int (0 : Int32)), (0, .ref zx0), (1, .int zx1)]) hx hb dX2_countOn_1 rfl hl (by decide) rfl (fun ls hl => ?_)
  refine lv_iconst (v := (0 : Int32)) hx hb dX2_countOn_2 (by decide) ?_
  refine lv_istore_n (lv' := [(3, .int (0 : Int32)), (2, .int (0 : Int32)), (0, .ref zx0), (1, .int zx1)]) hx hb dX2_countOn_3 rfl hl (by decide) rfl (fun ls hl => ?_)
  exact w2_countOn_4 C0 hr hz fl fl _ _ _ zx0 zx1 (0 : Int32) (0 : Int32) zt0 hw (lv_sub hl [2, 3, 1, 0] rfl) hf
noncomputable def m3_countCharacters_58 (fl : Nat) (len : Nat → Nat) (X : Xm) (I : Im) (zx2 : Int32) : Option (Int32) :=
  some (zx2)
set_option maxHeartbeats 4000000 in
set_option maxRecDepth 100000 in
theorem w3_countCharacters_58 {p : Program} {l : Launch} {e : Env} {s : State} {m : MethodId} {args : Array Value} {below : List Frame} {meth : Method} {c : Code} {E : EN} {G : GM} {X : Xm} {I : Im} (C0 : CX p s m args meth c E cX3_countCharacters RX3 7) (hr : meth.sig.returnType = (some .int)) (hz : s.heap.size + 0 ≤ eB E + G.1) {rr : Int32} (fl : Nat) : ∀ (H : Heap) (locs : List Loc) (ls : Array Slot) (zx2 : Int32) , WD E G I X s.heap H locs → lv_has ls 7 [(2, .int zx2)] → m3_countCharacters_58 fl G.2.2 X I zx2 = some rr → W p l e ({ frames := 0, cells := 0, slots := 0, locals := 0 } : Room) s m args below meth c H locs 0 0 (MQ below (QI E G rr I X) args s 0 0 (eA E)) (F0 m 58 ls []) := by
  intro H locs ls zx2 hw hl hf
  unfold m3_countCharacters_58 at hf
  have hx := C0.1; have hb := C0.2.1; have hml := C0.2.2.1; have hown := C0.2.2.2.1; have hts := C0.2.2.2.2.1
  refine lv_iload_n hx hb dX3_countCharacters_58 rfl (lv_at hl 0 rfl) ?_
  obtain rfl := Option.some.inj hf
  exact x_iret C0 hr hw dX3_countCharacters_59
noncomputable def m3_countCharacters_42 (fl : Nat) (len : Nat → Nat) (X : Xm) (I : Im) : Option (Int32) :=
  some ((0 : Int32))
set_option maxHeartbeats 4000000 in
set_option maxRecDepth 100000 in
theorem w3_countCharacters_42 {p : Program} {l : Launch} {e : Env} {s : State} {m : MethodId} {args : Array Value} {below : List Frame} {meth : Method} {c : Code} {E : EN} {G : GM} {X : Xm} {I : Im} (C0 : CX p s m args meth c E cX3_countCharacters RX3 7) (hr : meth.sig.returnType = (some .int)) (hz : s.heap.size + 0 ≤ eB E + G.1) {rr : Int32} (fl : Nat) : ∀ (H : Heap) (locs : List Loc) (ls : Array Slot) , WD E G I X s.heap H locs → lv_has ls 7 [] → m3_countCharacters_42 fl G.2.2 X I = some rr → W p l e ({ frames := 0, cells := 0, slots := 0, locals := 0 } : Room) s m args below meth c H locs 0 0 (MQ below (QI E G rr I X) args s 0 0 (eA E)) (F0 m 42 ls []) := by
  intro H locs ls hw hl hf
  unfold m3_countCharacters_42 at hf
  have hx := C0.1; have hb := C0.2.1; have hml := C0.2.2.1; have hown := C0.2.2.2.1; have hts := C0.2.2.2.2.1
  refine lv_iconst (v := (0 : Int32)) hx hb dX3_countCharacters_42 (by decide) ?_
  obtain rfl := Option.some.inj hf
  exact x_iret C0 hr hw dX3_countCharacters_43
noncomputable def m3_countCharacters_7b (fl : Nat) (len : Nat → Nat) (X : Xm) (I : Im) (zr7 : Int32 → Int64 → Int32 → Option (Int32)) (zx2 : Int32) (zx3 : Int64) (zx5 : Int32) : Option (Int32) :=
  if (8 : Int32) ≤ zx5 then
    m3_countCharacters_58 fl len X I zx2
  else
    if (lg_cmp zx3 (0 : Int64)) = 0 then
      m3_countCharacters_58 fl len X I zx2
    else
      lt ((((zx3 &&& (255 : Int64))).toInt32)) fun zv3 =>
      if zv3 < (33 : Int32) then
        m3_countCharacters_42 fl len X I 
      else
        if zv3 ≤ (126 : Int32) then
          lt (zx2 + 1) fun zv6 =>
          lt ((((zx3).toUInt64 >>> (((8 : Int32)).toInt64.toUInt64 &&& Int64.toUInt64 63)).toInt64)) fun zv7 =>
          lt (zx5 + 1) fun zv8 =>
          zr7 zv6 zv7 zv8
        else
          m3_countCharacters_42 fl len X I 
noncomputable def m3_countCharacters_7 (fl : Nat) (len : Nat → Nat) (X : Xm) (I : Im) (n : Nat) : Int32 → Int64 → Int32 → Option (Int32) :=
  Nat.rec (fun _ _ _ => none) (fun _ r => m3_countCharacters_7b fl len X I r) n
set_option maxHeartbeats 4000000 in
set_option maxRecDepth 100000 in
theorem w3_countCharacters_7b {p : Program} {l : Launch} {e : Env} {s : State} {m : MethodId} {args : Array Value} {below : List Frame} {meth : Method} {c : Code} {E : EN} {G : GM} {X : Xm} {I : Im} (C0 : CX p s m args meth c E cX3_countCharacters RX3 7) (hr : meth.sig.returnType = (some .int)) (hz : s.heap.size + 0 ≤ eB E + G.1) {rr : Int32} (fl : Nat) (zr7 : Int32 → Int64 → Int32 → Option (Int32)) (zhr7 : ∀ (H : Heap) (locs : List Loc) (ls : Array Slot) (zx2 : Int32) (zx3 : Int64) (zx5 : Int32) , WD E G I X s.heap H locs → lv_has ls 7 [(2, .int zx2), (3, .long zx3), (5, .int zx5)] → zr7 zx2 zx3 zx5 = some rr → W p l e ({ frames := 0, cells := 0, slots := 0, locals := 0 } : Room) s m args below meth c H locs 0 0 (MQ below (QI E G rr I X) args s 0 0 (eA E)) (F0 m 7 ls [])) : ∀ (H : Heap) (locs : List Loc) (ls : Array Slot) (zx2 : Int32) (zx3 : Int64) (zx5 : Int32) , WD E G I X s.heap H locs → lv_has ls 7 [(2, .int zx2), (3, .long zx3), (5, .int zx5)] → m3_countCharacters_7b fl G.2.2 X I zr7 zx2 zx3 zx5 = some rr → W p l e ({ frames := 0, cells := 0, slots := 0, locals := 0 } : Room) s m args below meth c H locs 0 0 (MQ below (QI E G rr I X) args s 0 0 (eA E)) (F0 m 7 ls []) := by
  intro H locs ls zx2 zx3 zx5 hw hl hf
  unfold m3_countCharacters_7b at hf
  have hx := C0.1; have hb := C0.2.1; have hml := C0.2.2.1; have hown := C0.2.2.2.1; have hts := C0.2.2.2.2.1
  refine lv_iload hx hb dX3_countCharacters_7 (lv_at hl 2 rfl) ?_
  refine lv_bipush (v := (8 : Int32)) hx hb dX3_countCharacters_9 (by decide) ?_
  refine lv_icmp_ge (tgt := 58) hx hb dX3_countCharacters_11 (by decide) (fun zc1 => ?_) (fun zc1 => ?_)
  · have hf := ite_t hf zc1
    exact w3_countCharacters_58 C0 hr hz fl _ _ _ zx2 hw (lv_sub hl [0] rfl) hf
  · have hf := ite_f hf zc1
    refine lv_lload_n hx hb dX3_countCharacters_14 rfl (lv_at hl 1 rfl) ?_
    refine lv_lconst (v := (0 : Int64)) hx hb dX3_countCharacters_15 (by decide) ?_
    refine W.lcmp hx hb dX3_countCharacters_16 ?_
    refine lv_if_eq (tgt := 58) hx hb dX3_countCharacters_17 (by decide) (fun zc2 => ?_) (fun zc2 => ?_)
    · have hf := ite_t hf zc2
      exact w3_countCharacters_58 C0 hr hz fl _ _ _ zx2 hw (lv_sub hl [0] rfl) hf
    · have hf := ite_f hf zc2
      refine lv_lload_n hx hb dX3_countCharacters_20 rfl (lv_at hl 1 rfl) ?_
      refine lv_ldc2 (v := (255 : Int64)) hx hb hown (hts _ wd218) dX3_countCharacters_21 ?_
      refine lv_land hx hb dX3_countCharacters_24 ?_
      refine lv_l2i hx hb dX3_countCharacters_25 rfl ?_
      refine lv_topi (fun zv3 ezv3 => ?_)
      have hf := lt_at hf ezv3
      refine lv_istore (lv' := [(6, .int zv3), (2, .int zx2), (3, .long zx3), (5, .int zx5)]) hx hb dX3_countCharacters_26 hl (by decide) rfl (fun ls hl => ?_)
      refine lv_iload hx hb dX3_countCharacters_28 (lv_at hl 0 rfl) ?_
      refine lv_bipush (v := (33 : Int32)) hx hb dX3_countCharacters_30 (by decide) ?_
      refine lv_icmp_lt (tgt := 42) hx hb dX3_countCharacters_32 (by decide) (fun zc4 => ?_) (fun zc4 => ?_)
      · have hf := ite_t hf zc4
        exact w3_countCharacters_42 C0 hr hz fl _ _ _ hw (lv_sub hl [] rfl) hf
      · have hf := ite_f hf zc4
        refine lv_iload hx hb dX3_countCharacters_35 (lv_at hl 0 rfl) ?_
        refine lv_bipush (v := (126 : Int32)) hx hb dX3_countCharacters_37 (by decide) ?_
        refine lv_icmp_le (tgt := 44) hx hb dX3_countCharacters_39 (by decide) (fun zc5 => ?_) (fun zc5 => ?_)
        · have hf := ite_t hf zc5
          obtain ⟨zv6, ezv6⟩ : ∃ y : Int32, y = zx2 + 1 := ⟨_, rfl⟩
          have hf := lt_at hf ezv6
          refine lv_iinc (v := zv6) (lv' := [(2, .int zv6), (6, .int zv3), (3, .long zx3), (5, .int zx5)]) hx hb dX3_countCharacters_44 hl (k := 1) rfl (by rw [ezv6]; rfl) (by decide) rfl (fun ls hl => ?_)
          refine lv_lload_n hx hb dX3_countCharacters_47 rfl (lv_at hl 2 rfl) ?_
          refine lv_bipush (v := (8 : Int32)) hx hb dX3_countCharacters_48 (by decide) ?_
          refine lv_lushr hx hb dX3_countCharacters_50 rfl ?_
          refine lv_topl (fun zv7 ezv7 => ?_)
          have hf := lt_at hf ezv7
          refine lv_lstore_n (lv' := [(3, .long zv7), (2, .int zv6), (6, .int zv3), (5, .int zx5)]) hx hb dX3_countCharacters_51 rfl hl (by decide) rfl (fun ls hl => ?_)
          obtain ⟨zv8, ezv8⟩ : ∃ y : Int32, y = zx5 + 1 := ⟨_, rfl⟩
          have hf := lt_at hf ezv8
          refine lv_iinc (v := zv8) (lv' := [(5, .int zv8), (3, .long zv7), (2, .int zv6), (6, .int zv3)]) hx hb dX3_countCharacters_52 hl (k := 3) rfl (by rw [ezv8]; rfl) (by decide) rfl (fun ls hl => ?_)
          refine lv_goto (tgt := 7) hx hb dX3_countCharacters_55 (by decide) ?_
          exact zhr7 _ _ _ zv6 zv7 zv8 hw (lv_sub hl [2, 1, 0] rfl) hf
        · have hf := ite_f hf zc5
          exact w3_countCharacters_42 C0 hr hz fl _ _ _ hw (lv_sub hl [] rfl) hf
theorem w3_countCharacters_7 {p : Program} {l : Launch} {e : Env} {s : State} {m : MethodId} {args : Array Value} {below : List Frame} {meth : Method} {c : Code} {E : EN} {G : GM} {X : Xm} {I : Im} (C0 : CX p s m args meth c E cX3_countCharacters RX3 7) (hr : meth.sig.returnType = (some .int)) (hz : s.heap.size + 0 ≤ eB E + G.1) {rr : Int32} (fl : Nat) : ∀ (n : Nat) (H : Heap) (locs : List Loc) (ls : Array Slot) (zx2 : Int32) (zx3 : Int64) (zx5 : Int32) , WD E G I X s.heap H locs → lv_has ls 7 [(2, .int zx2), (3, .long zx3), (5, .int zx5)] → m3_countCharacters_7 fl G.2.2 X I n zx2 zx3 zx5 = some rr → W p l e ({ frames := 0, cells := 0, slots := 0, locals := 0 } : Room) s m args below meth c H locs 0 0 (MQ below (QI E G rr I X) args s 0 0 (eA E)) (F0 m 7 ls []) := by
  intro n
  induction n with
  | zero => intro H locs ls zx2 zx3 zx5 hw hl hf; exact absurd (show (none : Option (Int32)) = some rr from hf) (by simp)
  | succ n ih => intro H locs ls zx2 zx3 zx5 hw hl hf; exact w3_countCharacters_7b C0 hr hz fl _ ih H locs ls zx2 zx3 zx5 hw hl hf
noncomputable def m3_countCharacters (fl : Nat) (len : Nat → Nat) (X : Xm) (I : Im) (zx0 : Int64) : Option (Int32) :=
  m3_countCharacters_7 fl len X I fl (0 : Int32) zx0 (0 : Int32)
theorem hy3_countCharacters : yX3_countCharacters.cls = RX3 ∧ yX3_countCharacters.cls ≠ "java/lang/invoke/MethodHandle" ∧ yX3_countCharacters.cls ≠ "java/lang/invoke/VarHandle" ∧ (parseMethodDescriptor yX3_countCharacters.desc).map (fun d => d.parameters.length) = some 1 := ⟨rfl, by decide +kernel, by decide +kernel, by decide +kernel⟩
set_option maxHeartbeats 4000000 in
set_option maxRecDepth 100000 in
theorem c3_countCharacters (l : Launch) (E : EN) (G : GM) (fl : Nat) (X : Xm) (I : Im) (zx0 : Int64) {rr : Int32} (hf : m3_countCharacters fl G.2.2 X I zx0 = some rr) : MT l yX3_countCharacters cX3_countCharacters 7 (some .int) ({ frames := 0, cells := 0, slots := 0, locals := 0 } : Room) E G I X [.long zx0] (QI E G rr I X) 0 0 := by
  refine Met.ofW (cc := cX3_countCharacters) (maxL := 7) (ret := (some .int)) (by decide +kernel) rfl ?_
  intro p e s m args below meth c s₁ B hml hv
  obtain ⟨rfl, hw0, hSE⟩ := hv
  have C0 : CX p s m ([.long zx0] : List Value).toArray meth c E cX3_countCharacters RX3 7 := ⟨B.exec, B.bytes, hml, findClass_of_methodNamed B.named, fun w hw => atoms_spec (ws := WS yX3_countCharacters cX3_countCharacters 7 (some .int)) B.pre w (List.mem_cons_of_mem _ hw), B.notSynchronized, hSE⟩
  have hz : s.heap.size + 0 ≤ eB E + G.1 := Nat.le_of_eq hw0.2.1
  have hw : WD E G I X s.heap s.heap [] := ⟨hw0, va_S.rf⟩
  have hr := B.returns
  have hx := C0.1; have hb := C0.2.1; have hml := C0.2.2.1; have hown := C0.2.2.2.1; have hts := C0.2.2.2.2.1
  have hl := lv_entry ([.long zx0]) (n := 7) (Nat.le_of_ble_eq_true rfl)
  rw [lg_entry_eq]
  generalize (lg_sl ([.long zx0]) ++ List.replicate (7 - (lg_sl ([.long zx0])).length) Slot.unset).toArray = ls at hl ⊢
  have hl : lv_has ls 7 [(0, .long zx0)] := hl
  unfold m3_countCharacters at hf
  refine lv_iconst (v := (0 : Int32)) hx hb dX3_countCharacters_0 (by decide) ?_
  refine lv_istore_n (lv' := [(2, .int (0 : Int32)), (0, .long zx0)]) hx hb dX3_countCharacters_1 rfl hl (by decide) rfl (fun ls hl => ?_)
  refine lv_lload_n hx hb dX3_countCharacters_2 rfl (lv_at hl 1 rfl) ?_
  refine lv_lstore_n (lv' := [(3, .long zx0), (2, .int (0 : Int32)), (0, .long zx0)]) hx hb dX3_countCharacters_3 rfl hl (by decide) rfl (fun ls hl => ?_)
  refine lv_iconst (v := (0 : Int32)) hx hb dX3_countCharacters_4 (by decide) ?_
  refine lv_istore (lv' := [(5, .int (0 : Int32)), (3, .long zx0), (2, .int (0 : Int32)), (0, .long zx0)]) hx hb dX3_countCharacters_5 hl (by decide) rfl (fun ls hl => ?_)
  exact w3_countCharacters_7 C0 hr hz fl fl _ _ _ (0 : Int32) zx0 (0 : Int32) hw (lv_sub hl [2, 1, 0] rfl) hf
noncomputable def m3_append_61 (fl : Nat) (len : Nat → Nat) (X : Xm) (zr5 : Im → Nat → Int64 → Int32 → Option (Int32 × Im)) (I : Im) (zx0 : Nat) (zx1 : Int64) (zx4 : Int32) : Option (Int32 × Im) :=
  lt (zx4 + (-1)) fun zv1 =>
  zr5 I zx0 zx1 zv1
set_option maxHeartbeats 4000000 in
set_option maxRecDepth 100000 in
theorem w3_append_61 {p : Program} {l : Launch} {e : Env} {s : State} {m : MethodId} {args : Array Value} {below : List Frame} {meth : Method} {c : Code} {E : EN} {G : GM} {X : Xm} (C0 : CX p s m args meth c E cX3_append RX3 5) (hr : meth.sig.returnType = (some .int)) (hz : s.heap.size + 0 ≤ eB E + G.1) {rr : Int32 × Im} (fl : Nat) (zr5 : Im → Nat → Int64 → Int32 → Option (Int32 × Im)) (zhr5 : ∀ (I : Im) (H : Heap) (locs : List Loc) (ls : Array Slot) (zx0 : Nat) (zx1 : Int64) (zx4 : Int32) (zt0 : okA E G 3 zx0), WD E G I X s.heap H locs → lv_has ls 5 [(0, .ref zx0), (1, .long zx1), (4, .int zx4)] → zr5 I zx0 zx1 zx4 = some rr → W p l e ({ frames := 0, cells := 0, slots := 0, locals := 0 } : Room) s m args below meth c H locs 0 0 (MQ below (QI E G rr.1 rr.2 X) args s 0 0 (eA E)) (F0 m 5 ls [])) : ∀ (I : Im) (H : Heap) (locs : List Loc) (ls : Array Slot) (zx0 : Nat) (zx1 : Int64) (zx4 : Int32) (zt0 : okA E G 3 zx0), WD E G I X s.heap H locs → lv_has ls 5 [(0, .ref zx0), (1, .long zx1), (4, .int zx4)] → m3_append_61 fl G.2.2 X zr5 I zx0 zx1 zx4 = some rr → W p l e ({ frames := 0, cells := 0, slots := 0, locals := 0 } : Room) s m args below meth c H locs 0 0 (MQ below (QI E G rr.1 rr.2 X) args s 0 0 (eA E)) (F0 m 61 ls []) := by
  intro I H locs ls zx0 zx1 zx4 zt0 hw hl hf
  unfold m3_append_61 at hf
  have hx := C0.1; have hb := C0.2.1; have hml := C0.2.2.1; have hown := C0.2.2.2.1; have hts := C0.2.2.2.2.1
  obtain ⟨zv1, ezv1⟩ : ∃ y : Int32, y = zx4 + (-1) := ⟨_, rfl⟩
  have hf := lt_at hf ezv1
  refine lv_iinc (v := zv1) (lv' := [(4, .int zv1), (0, .ref zx0), (1, .long zx1)]) hx hb dX3_append_61 hl (k := 2) rfl (by rw [ezv1]; rfl) (by decide) rfl (fun ls hl => ?_)
  refine lv_goto (tgt := 5) hx hb dX3_append_64 (by decide) ?_
  exact zhr5 I _ _ _ zx0 zx1 zv1 zt0 hw (lv_sub hl [1, 2, 0] rfl) hf
noncomputable def m3_append_5b (fl : Nat) (len : Nat → Nat) (X : Xm) (zr5 : Im → Nat → Int64 → Int32 → Option (Int32 × Im)) (I : Im) (zx0 : Nat) (zx1 : Int64) (zx4 : Int32) : Option (Int32 × Im) :=
  if zx4 < 0 then
    some ((gF I 49 zx0), I)
  else
    if (gF I 49 zx0) < 0 then
      m3_append_61 fl len X zr5 I zx0 zx1 zx4
    else
      nn (gR X 48 zx0) fun zv3 =>
      if (nI (len zv3)) ≤ (gF I 49 zx0) then
        m3_append_61 fl len X zr5 I zx0 zx1 zx4
      else
        ck (inb (gF I 49 zx0) (len zv3) = true) <|
        ck (isch (((((((((zx1).toUInt64 >>> ((((8 : Int32) * zx4)).toInt64.toUInt64 &&& Int64.toUInt64 63)).toInt64) &&& (255 : Int64))).toInt32)).toUInt32 % 65536).toInt32) = true) <|
        lt (pA I zv3 ((gF I 49 zx0)).toNatClampNeg (((((((((zx1).toUInt64 >>> ((((8 : Int32) * zx4)).toInt64.toUInt64 &&& Int64.toUInt64 63)).toInt64) &&& (255 : Int64))).toInt32)).toUInt32 % 65536).toInt32)) fun zI7 =>
        lt (pF zI7 49 zx0 ((gF zI7 49 zx0) + (1 : Int32))) fun zI8 =>
        m3_append_61 fl len X zr5 zI8 zx0 zx1 zx4
noncomputable def m3_append_5 (fl : Nat) (len : Nat → Nat) (X : Xm) (n : Nat) : Im → Nat → Int64 → Int32 → Option (Int32 × Im) :=
  Nat.rec (fun _ _ _ _ => none) (fun _ r => m3_append_5b fl len X r) n
set_option maxHeartbeats 4000000 in
set_option maxRecDepth 100000 in
theorem w3_append_5b {p : Program} {l : Launch} {e : Env} {s : State} {m : MethodId} {args : Array Value} {below : List Frame} {meth : Method} {c : Code} {E : EN} {G : GM} {X : Xm} (C0 : CX p s m args meth c E cX3_append RX3 5) (hr : meth.sig.returnType = (some .int)) (hz : s.heap.size + 0 ≤ eB E + G.1) {rr : Int32 × Im} (fl : Nat) (zr5 : Im → Nat → Int64 → Int32 → Option (Int32 × Im)) (zhr5 : ∀ (I : Im) (H : Heap) (locs : List Loc) (ls : Array Slot) (zx0 : Nat) (zx1 : Int64) (zx4 : Int32) (zt0 : okA E G 3 zx0), WD E G I X s.heap H locs → lv_has ls 5 [(0, .ref zx0), (1, .long zx1), (4, .int zx4)] → zr5 I zx0 zx1 zx4 = some rr → W p l e ({ frames := 0, cells := 0, slots := 0, locals := 0 } : Room) s m args below meth c H locs 0 0 (MQ below (QI E G rr.1 rr.2 X) args s 0 0 (eA E)) (F0 m 5 ls [])) : ∀ (I : Im) (H : Heap) (locs : List Loc) (ls : Array Slot) (zx0 : Nat) (zx1 : Int64) (zx4 : Int32) (zt0 : okA E G 3 zx0), WD E G I X s.heap H locs → lv_has ls 5 [(0, .ref zx0), (1, .long zx1), (4, .int zx4)] → m3_append_5b fl G.2.2 X zr5 I zx0 zx1 zx4 = some rr → W p l e ({ frames := 0, cells := 0, slots := 0, locals := 0 } : Room) s m args below meth c H locs 0 0 (MQ below (QI E G rr.1 rr.2 X) args s 0 0 (eA E)) (F0 m 5 ls []) := by
  intro I H locs ls zx0 zx1 zx4 zt0 hw hl hf
  unfold m3_append_5b at hf
  have hx := C0.1; have hb := C0.2.1; have hml := C0.2.2.1; have hown := C0.2.2.2.1; have hts := C0.2.2.2.2.1
  refine lv_iload hx hb dX3_append_5 (lv_at hl 2 rfl) ?_
  refine lv_if_lt (tgt := 67) hx hb dX3_append_7 (by decide) (fun zc1 => ?_) (fun zc1 => ?_)
  · have hf := ite_t hf zc1
    refine lv_aload_n hx hb dX3_append_67 rfl (lv_at hl 0 rfl) ?_
    refine xg_3_1 C0 hw zt0 wd219 dX3_append_68 ?_
    obtain rfl := Option.some.inj hf
    exact x_iret C0 hr hw dX3_append_71
  · have hf := ite_f hf zc1
    refine lv_aload_n hx hb dX3_append_10 rfl (lv_at hl 0 rfl) ?_
    refine xg_3_1 C0 hw zt0 wd219 dX3_append_11 ?_
    refine lv_if_lt (tgt := 61) hx hb dX3_append_14 (by decide) (fun zc2 => ?_) (fun zc2 => ?_)
    · have hf := ite_t hf zc2
      exact w3_append_61 C0 hr hz fl zr5 zhr5 I _ _ _ zx0 zx1 zx4 zt0 hw (lv_sub hl [0, 1, 2] rfl) hf
    · have hf := ite_f hf zc2
      refine lv_aload_n hx hb dX3_append_17 rfl (lv_at hl 0 rfl) ?_
      refine xg_3_1 C0 hw zt0 wd219 dX3_append_18 ?_
      refine lv_aload_n hx hb dX3_append_21 rfl (lv_at hl 0 rfl) ?_
      obtain ⟨zv3, ezv3, hf⟩ := nn_some hf
      have tzv3 : okA E G 10 zv3 := wt_r hw ezv3
      refine xg_3_0 C0 hw zt0 wd216 ezv3 dX3_append_22 ?_
      refine x_alen C0 hw 10 tzv3 (by decide) rfl dX3_append_25 ?_
      refine lv_icmp_ge (tgt := 61) hx hb dX3_append_26 (by decide) (fun zc4 => ?_) (fun zc4 => ?_)
      · have hf := ite_t hf zc4
        exact w3_append_61 C0 hr hz fl zr5 zhr5 I _ _ _ zx0 zx1 zx4 zt0 hw (lv_sub hl [0, 1, 2] rfl) hf
      · have hf := ite_f hf zc4
        refine lv_aload_n hx hb dX3_append_29 rfl (lv_at hl 0 rfl) ?_
        refine xg_3_0 C0 hw zt0 wd216 ezv3 dX3_append_30 ?_
        refine lv_aload_n hx hb dX3_append_33 rfl (lv_at hl 0 rfl) ?_
        refine xg_3_1 C0 hw zt0 wd219 dX3_append_34 ?_
        refine lv_lload_n hx hb dX3_append_37 rfl (lv_at hl 1 rfl) ?_
        refine lv_bipush (v := (8 : Int32)) hx hb dX3_append_38 (by decide) ?_
        refine lv_iload hx hb dX3_append_40 (lv_at hl 2 rfl) ?_
        refine lv_imul hx hb dX3_append_42 ?_
        refine lv_lushr hx hb dX3_append_43 rfl ?_
        refine lv_ldc2 (v := (255 : Int64)) hx hb hown (hts _ wd218) dX3_append_44 ?_
        refine lv_land hx hb dX3_append_47 ?_
        refine lv_l2i hx hb dX3_append_48 rfl ?_
        refine lv_i2c hx hb dX3_append_49 rfl ?_
        obtain ⟨zhb5, hf⟩ := ck_some hf
        obtain ⟨zhn6, hf⟩ := ck_some hf
        obtain ⟨zI7, ezI7⟩ : ∃ y : Im, y = pA I zv3 ((gF I 49 zx0)).toNatClampNeg (((((((((zx1).toUInt64 >>> ((((8 : Int32) * zx4)).toInt64.toUInt64 &&& Int64.toUInt64 63)).toInt64) &&& (255 : Int64))).toInt32)).toUInt32 % 65536).toInt32) := ⟨_, rfl⟩
        have hf := lt_at hf ezI7
        refine x_cast C0 hz hw tzv3 zhb5 (isch_vp zhn6) dX3_append_50 ezI7 (fun H locs hw => ?_)
        refine lv_aload_n hx hb dX3_append_51 rfl (lv_at hl 0 rfl) ?_
        refine lv_dup hx hb dX3_append_52 rfl ?_
        refine xg_3_1 C0 hw zt0 wd219 dX3_append_53 ?_
        refine lv_iconst (v := (1 : Int32)) hx hb dX3_append_56 (by decide) ?_
        refine lv_iadd hx hb dX3_append_57 ?_
        obtain ⟨zI8, ezI8⟩ : ∃ y : Im, y = pF zI7 49 zx0 ((gF zI7 49 zx0) + (1 : Int32)) := ⟨_, rfl⟩
        have hf := lt_at hf ezI8
        refine xp_3_1 C0 hz hw zt0 rfl rfl wd219 dX3_append_58 ezI8 (fun H locs hw => ?_)
        exact w3_append_61 C0 hr hz fl zr5 zhr5 zI8 _ _ _ zx0 zx1 zx4 zt0 hw (lv_sub hl [0, 1, 2] rfl) hf
theorem w3_append_5 {p : Program} {l : Launch} {e : Env} {s : State} {m : MethodId} {args : Array Value} {below : List Frame} {meth : Method} {c : Code} {E : EN} {G : GM} {X : Xm} (C0 : CX p s m args meth c E cX3_append RX3 5) (hr : meth.sig.returnType = (some .int)) (hz : s.heap.size + 0 ≤ eB E + G.1) {rr : Int32 × Im} (fl : Nat) : ∀ (n : Nat) (I : Im) (H : Heap) (locs : List Loc) (ls : Array Slot) (zx0 : Nat) (zx1 : Int64) (zx4 : Int32) (zt0 : okA E G 3 zx0), WD E G I X s.heap H locs → lv_has ls 5 [(0, .ref zx0), (1, .long zx1), (4, .int zx4)] → m3_append_5 fl G.2.2 X n I zx0 zx1 zx4 = some rr → W p l e ({ frames := 0, cells := 0, slots := 0, locals := 0 } : Room) s m args below meth c H locs 0 0 (MQ below (QI E G rr.1 rr.2 X) args s 0 0 (eA E)) (F0 m 5 ls []) := by
  intro n
  induction n with
  | zero => intro I H locs ls zx0 zx1 zx4 zt0 hw hl hf; exact absurd (show (none : Option (Int32 × Im)) = some rr from hf) (by simp)
  | succ n ih => intro I H locs ls zx0 zx1 zx4 zt0 hw hl hf; exact w3_append_5b C0 hr hz fl _ ih I H locs ls zx0 zx1 zx4 zt0 hw hl hf
noncomputable def m3_append (fl : Nat) (len : Nat → Nat) (X : Xm) (I : Im) (zx0 : Nat) (zx1 : Int64) (zx3 : Int32) : Option (Int32 × Im) :=
  lt ((zx3 - (1 : Int32))) fun zv1 =>
  m3_append_5 fl len X fl I zx0 zx1 zv1
theorem hy3_append : yX3_append.cls = RX3 ∧ yX3_append.cls ≠ "java/lang/invoke/MethodHandle" ∧ yX3_append.cls ≠ "java/lang/invoke/VarHandle" ∧ (parseMethodDescriptor yX3_append.desc).map (fun d => d.parameters.length) = some 2 := ⟨rfl, by decide +kernel, by decide +kernel, by decide +kernel⟩
set_option maxHeartbeats 4000000 in
set_option maxRecDepth 100000 in
theorem c3_append (l : Launch) (E : EN) (G : GM) (fl : Nat) (X : Xm) (I : Im) (zx0 : Nat) (zx1 : Int64) (zx3 : Int32) (zt0 : okA E G 3 zx0) {rr : Int32 × Im} (hf : m3_append fl G.2.2 X I zx0 zx1 zx3 = some rr) : MT l yX3_append cX3_append 5 (some .int) ({ frames := 0, cells := 0, slots := 0, locals := 0 } : Room) E G I X [.ref zx0, .long zx1, .int zx3] (QI E G rr.1 rr.2 X) 0 0 := by
  refine Met.ofW (cc := cX3_append) (maxL := 5) (ret := (some .int)) (by decide +kernel) rfl ?_
  intro p e s m args below meth c s₁ B hml hv
  obtain ⟨rfl, hw0, hSE⟩ := hv
  have C0 : CX p s m ([.ref zx0, .long zx1, .int zx3] : List Value).toArray meth c E cX3_append RX3 5 := ⟨B.exec, B.bytes, hml, findClass_of_methodNamed B.named, fun w hw => atoms_spec (ws := WS yX3_append cX3_append 5 (some .int)) B.pre w (List.mem_cons_of_mem _ hw), B.notSynchronized, hSE⟩
  have hz : s.heap.size + 0 ≤ eB E + G.1 := Nat.le_of_eq hw0.2.1
  have hw : WD E G I X s.heap s.heap [] := ⟨hw0, va_S.rf⟩
  have hr := B.returns
  have hx := C0.1; have hb := C0.2.1; have hml := C0.2.2.1; have hown := C0.2.2.2.1; have hts := C0.2.2.2.2.1
  have hl := lv_entry ([.ref zx0, .long zx1, .int zx3]) (n := 5) (Nat.le_of_ble_eq_true rfl)
  rw [lg_entry_eq]
  generalize (lg_sl ([.ref zx0, .long zx1, .int zx3]) ++ List.replicate (5 - (lg_sl ([.ref zx0, .long zx1, .int zx3])).length) Slot.unset).toArray = ls at hl ⊢
  have hl : lv_has ls 5 [(0, .ref zx0), (1, .long zx1), (3, .int zx3)] := hl
  unfold m3_append at hf
  refine lv_iload_n hx hb dX3_append_0 rfl (lv_at hl 2 rfl) ?_
  refine lv_iconst (v := (1 : Int32)) hx hb dX3_append_1 (by decide) ?_
  refine lv_isub hx hb dX3_append_2 ?_
  refine lv_topi (fun zv1 ezv1 => ?_)
  have hf := lt_at hf ezv1
  refine lv_istore (lv' := [(4, .int zv1), (0, .ref zx0), (1, .long zx1), (3, .int zx3)]) hx hb dX3_append_3 hl (by decide) rfl (fun ls hl => ?_)
  exact w3_append_5 C0 hr hz fl fl I _ _ _ zx0 zx1 zv1 zt0 hw (lv_sub hl [1, 2, 0] rfl) hf
noncomputable def m3_characterAt_31 (fl : Nat) (len : Nat → Nat) (X : Xm) (I : Im) (zs0 : Int32) : Option (Int32) :=
  ck (isch zs0 = true) <|
  some (zs0)
set_option maxHeartbeats 4000000 in
set_option maxRecDepth 100000 in
theorem w3_characterAt_31 {p : Program} {l : Launch} {e : Env} {s : State} {m : MethodId} {args : Array Value} {below : List Frame} {meth : Method} {c : Code} {E : EN} {G : GM} {X : Xm} {I : Im} (C0 : CX p s m args meth c E cX3_characterAt RX3 2) (hr : meth.sig.returnType = (some .char)) (hz : s.heap.size + 0 ≤ eB E + G.1) {rr : Int32} (fl : Nat) : ∀ (H : Heap) (locs : List Loc) (ls : Array Slot) (zs0 : Int32) , WD E G I X s.heap H locs → lv_has ls 2 [] → m3_characterAt_31 fl G.2.2 X I zs0 = some rr → W p l e ({ frames := 0, cells := 0, slots := 0, locals := 0 } : Room) s m args below meth c H locs 0 0 (MQ below (QI E G rr I X) args s 0 0 (eA E)) (F0 m 31 ls [.int zs0]) := by
  intro H locs ls zs0 hw hl hf
  unfold m3_characterAt_31 at hf
  have hx := C0.1; have hb := C0.2.1; have hml := C0.2.2.1; have hown := C0.2.2.2.1; have hts := C0.2.2.2.2.1
  obtain ⟨zhn1, hf⟩ := ck_some hf
  obtain rfl := Option.some.inj hf
  exact x_zret C0 hr (isch_nar zhn1) hw dX3_characterAt_31
noncomputable def m3_characterAt_21 (fl : Nat) (len : Nat → Nat) (X : Xm) (I : Im) : Option (Int32) :=
  m3_characterAt_31 fl len X I (0 : Int32)
set_option maxHeartbeats 4000000 in
set_option maxRecDepth 100000 in
theorem w3_characterAt_21 {p : Program} {l : Launch} {e : Env} {s : State} {m : MethodId} {args : Array Value} {below : List Frame} {meth : Method} {c : Code} {E : EN} {G : GM} {X : Xm} {I : Im} (C0 : CX p s m args meth c E cX3_characterAt RX3 2) (hr : meth.sig.returnType = (some .char)) (hz : s.heap.size + 0 ≤ eB E + G.1) {rr : Int32} (fl : Nat) : ∀ (H : Heap) (locs : List Loc) (ls : Array Slot) , WD E G I X s.heap H locs → lv_has ls 2 [] → m3_characterAt_21 fl G.2.2 X I = some rr → W p l e ({ frames := 0, cells := 0, slots := 0, locals := 0 } : Room) s m args below meth c H locs 0 0 (MQ below (QI E G rr I X) args s 0 0 (eA E)) (F0 m 21 ls []) := by
  intro H locs ls hw hl hf
  unfold m3_characterAt_21 at hf
  have hx := C0.1; have hb := C0.2.1; have hml := C0.2.2.1; have hown := C0.2.2.2.1; have hts := C0.2.2.2.2.1
  refine lv_iconst (v := (0 : Int32)) hx hb dX3_characterAt_21 (by decide) ?_
  refine lv_goto (tgt := 31) hx hb dX3_characterAt_22 (by decide) ?_
  exact w3_characterAt_31 C0 hr hz fl _ _ _ (0 : Int32) hw (lv_sub hl [] rfl) hf
noncomputable def m3_characterAt (fl : Nat) (len : Nat → Nat) (X : Xm) (I : Im) (zx0 : Nat) (zx1 : Int32) : Option (Int32) :=
  if zx1 < 0 then
    m3_characterAt_21 fl len X I 
  else
    if (gF I 49 zx0) ≤ zx1 then
      m3_characterAt_21 fl len X I 
    else
      nn (gR X 48 zx0) fun zv3 =>
      if zx1 < (nI (len zv3)) then
        ck (inb zx1 (len zv3) = true) <|
        m3_characterAt_31 fl len X I (gA I zv3 (zx1).toNatClampNeg)
      else
        m3_characterAt_21 fl len X I 
theorem hy3_characterAt : yX3_characterAt.cls = RX3 ∧ yX3_characterAt.cls ≠ "java/lang/invoke/MethodHandle" ∧ yX3_characterAt.cls ≠ "java/lang/invoke/VarHandle" ∧ (parseMethodDescriptor yX3_characterAt.desc).map (fun d => d.parameters.length) = some 1 := ⟨rfl, by decide +kernel, by decide +kernel, by decide +kernel⟩
set_option maxHeartbeats 4000000 in
set_option maxRecDepth 100000 in
theorem c3_characterAt (l : Launch) (E : EN) (G : GM) (fl : Nat) (X : Xm) (I : Im) (zx0 : Nat) (zx1 : Int32) (zt0 : okA E G 3 zx0) {rr : Int32} (hf : m3_characterAt fl G.2.2 X I zx0 zx1 = some rr) : MT l yX3_characterAt cX3_characterAt 2 (some .char) ({ frames := 0, cells := 0, slots := 0, locals := 0 } : Room) E G I X [.ref zx0, .int zx1] (QI E G rr I X) 0 0 := by
  refine Met.ofW (cc := cX3_characterAt) (maxL := 2) (ret := (some .char)) (by decide +kernel) rfl ?_
  intro p e s m args below meth c s₁ B hml hv
  obtain ⟨rfl, hw0, hSE⟩ := hv
  have C0 : CX p s m ([.ref zx0, .int zx1] : List Value).toArray meth c E cX3_characterAt RX3 2 := ⟨B.exec, B.bytes, hml, findClass_of_methodNamed B.named, fun w hw => atoms_spec (ws := WS yX3_characterAt cX3_characterAt 2 (some .char)) B.pre w (List.mem_cons_of_mem _ hw), B.notSynchronized, hSE⟩
  have hz : s.heap.size + 0 ≤ eB E + G.1 := Nat.le_of_eq hw0.2.1
  have hw : WD E G I X s.heap s.heap [] := ⟨hw0, va_S.rf⟩
  have hr := B.returns
  have hx := C0.1; have hb := C0.2.1; have hml := C0.2.2.1; have hown := C0.2.2.2.1; have hts := C0.2.2.2.2.1
  have hl := lv_entry ([.ref zx0, .int zx1]) (n := 2) (Nat.le_of_ble_eq_true rfl)
  rw [lg_entry_eq]
  generalize (lg_sl ([.ref zx0, .int zx1]) ++ List.replicate (2 - (lg_sl ([.ref zx0, .int zx1])).length) Slot.unset).toArray = ls at hl ⊢
  have hl : lv_has ls 2 [(0, .ref zx0), (1, .int zx1)] := hl
  unfold m3_characterAt at hf
  refine lv_iload_n hx hb dX3_characterAt_0 rfl (lv_at hl 1 rfl) ?_
  refine lv_if_lt (tgt := 21) hx hb dX3_characterAt_1 (by decide) (fun zc1 => ?_) (fun zc1 => ?_)
  · have hf := ite_t hf zc1
    exact w3_characterAt_21 C0 hr hz fl _ _ _ hw (lv_sub hl [] rfl) hf
  · have hf := ite_f hf zc1
    refine lv_iload_n hx hb dX3_characterAt_4 rfl (lv_at hl 1 rfl) ?_
    refine lv_aload_n hx hb dX3_characterAt_5 rfl (lv_at hl 0 rfl) ?_
    refine xg_3_1 C0 hw zt0 wd219 dX3_characterAt_6 ?_
    refine lv_icmp_ge (tgt := 21) hx hb dX3_characterAt_9 (by decide) (fun zc2 => ?_) (fun zc2 => ?_)
    · have hf := ite_t hf zc2
      exact w3_characterAt_21 C0 hr hz fl _ _ _ hw (lv_sub hl [] rfl) hf
    · have hf := ite_f hf zc2
      refine lv_iload_n hx hb dX3_characterAt_12 rfl (lv_at hl 1 rfl) ?_
      refine lv_aload_n hx hb dX3_characterAt_13 rfl (lv_at hl 0 rfl) ?_
      obtain ⟨zv3, ezv3, hf⟩ := nn_some hf
      have tzv3 : okA E G 10 zv3 := wt_r hw ezv3
      refine xg_3_0 C0 hw zt0 wd216 ezv3 dX3_characterAt_14 ?_
      refine x_alen C0 hw 10 tzv3 (by decide) rfl dX3_characterAt_17 ?_
      refine lv_icmp_lt (tgt := 25) hx hb dX3_characterAt_18 (by decide) (fun zc4 => ?_) (fun zc4 => ?_)
      · have hf := ite_t hf zc4
        refine lv_aload_n hx hb dX3_characterAt_25 rfl (lv_at hl 0 rfl) ?_
        refine xg_3_0 C0 hw zt0 wd216 ezv3 dX3_characterAt_26 ?_
        refine lv_iload_n hx hb dX3_characterAt_29 rfl (lv_at hl 1 rfl) ?_
        obtain ⟨zhb5, hf⟩ := ck_some hf
        refine x_cald C0 hw tzv3 zhb5 dX3_characterAt_30 ?_
        exact w3_characterAt_31 C0 hr hz fl _ _ _ (gA I zv3 (zx1).toNatClampNeg) hw (lv_sub hl [] rfl) hf
      · have hf := ite_f hf zc4
        exact w3_characterAt_21 C0 hr hz fl _ _ _ hw (lv_sub hl [] rfl) hf
noncomputable def m3_shapeOf_49 (fl : Nat) (len : Nat → Nat) (X : Xm) (I : Im) (zs0 : Nat) : Option (Nat) :=
  some (zs0)
set_option maxHeartbeats 4000000 in
set_option maxRecDepth 100000 in
theorem w3_shapeOf_49 {p : Program} {l : Launch} {e : Env} {s : State} {m : MethodId} {args : Array Value} {below : List Frame} {meth : Method} {c : Code} {E : EN} {G : GM} {X : Xm} {I : Im} (C0 : CX p s m args meth c E cX3_shapeOf RX3 1) (hr : meth.sig.returnType = (some (.object "java/lang/String"))) (hz : s.heap.size + 0 ≤ eB E + G.1) {rr : Nat} (fl : Nat) : ∀ (H : Heap) (locs : List Loc) (ls : Array Slot) (zs0 : Nat) (zts0 : zs0 < 6), WD E G I X s.heap H locs → lv_has ls 1 [] → m3_shapeOf_49 fl G.2.2 X I zs0 = some rr → W p l e ({ frames := 0, cells := 0, slots := 0, locals := 0 } : Room) s m args below meth c H locs 0 0 (MQ below (QS E G rr I X) args s 0 0 (eA E)) (F0 m 49 ls [.ref (eK E zs0)]) := by
  intro H locs ls zs0 zts0 hw hl hf
  unfold m3_shapeOf_49 at hf
  have hx := C0.1; have hb := C0.2.1; have hml := C0.2.2.1; have hown := C0.2.2.2.1; have hts := C0.2.2.2.2.1
  obtain rfl := Option.some.inj hf
  exact x_sret C0 hr zts0 hw dX3_shapeOf_49
noncomputable def m3_shapeOf (fl : Nat) (len : Nat → Nat) (X : Xm) (I : Im) (zx0 : Int32) : Option (Nat) :=
  if zx0 = (114 : Int32) then
    some ((0 : Nat))
  else
    if zx0 = (115 : Int32) then
      some ((1 : Nat))
    else
      if zx0 = (100 : Int32) then
        some ((2 : Nat))
      else
        if zx0 = (108 : Int32) then
          some ((3 : Nat))
        else
          if zx0 = (103 : Int32) then
            m3_shapeOf_49 fl len X I (4 : Nat)
          else
            m3_shapeOf_49 fl len X I (5 : Nat)
theorem hy3_shapeOf : yX3_shapeOf.cls = RX3 ∧ yX3_shapeOf.cls ≠ "java/lang/invoke/MethodHandle" ∧ yX3_shapeOf.cls ≠ "java/lang/invoke/VarHandle" ∧ (parseMethodDescriptor yX3_shapeOf.desc).map (fun d => d.parameters.length) = some 1 := ⟨rfl, by decide +kernel, by decide +kernel, by decide +kernel⟩
set_option maxHeartbeats 4000000 in
set_option maxRecDepth 100000 in
theorem c3_shapeOf (l : Launch) (E : EN) (G : GM) (fl : Nat) (X : Xm) (I : Im) (zx0 : Int32) {rr : Nat} (hf : m3_shapeOf fl G.2.2 X I zx0 = some rr) : MT l yX3_shapeOf cX3_shapeOf 1 (some (.object "java/lang/String")) ({ frames := 0, cells := 0, slots := 0, locals := 0 } : Room) E G I X [.int zx0] (QS E G rr I X) 0 0 := by
  refine Met.ofW (cc := cX3_shapeOf) (maxL := 1) (ret := (some (.object "java/lang/String"))) (by decide +kernel) rfl ?_
  intro p e s m args below meth c s₁ B hml hv
  obtain ⟨rfl, hw0, hSE⟩ := hv
  have C0 : CX p s m ([.int zx0] : List Value).toArray meth c E cX3_shapeOf RX3 1 := ⟨B.exec, B.bytes, hml, findClass_of_methodNamed B.named, fun w hw => atoms_spec (ws := WS yX3_shapeOf cX3_shapeOf 1 (some (.object "java/lang/String"))) B.pre w (List.mem_cons_of_mem _ hw), B.notSynchronized, hSE⟩
  have hz : s.heap.size + 0 ≤ eB E + G.1 := Nat.le_of_eq hw0.2.1
  have hw : WD E G I X s.heap s.heap [] := ⟨hw0, va_S.rf⟩
  have hr := B.returns
  have hx := C0.1; have hb := C0.2.1; have hml := C0.2.2.1; have hown := C0.2.2.2.1; have hts := C0.2.2.2.2.1
  have hl := lv_entry ([.int zx0]) (n := 1) (Nat.le_of_ble_eq_true rfl)
  rw [lg_entry_eq]
  generalize (lg_sl ([.int zx0]) ++ List.replicate (1 - (lg_sl ([.int zx0])).length) Slot.unset).toArray = ls at hl ⊢
  have hl : lv_has ls 1 [(0, .int zx0)] := hl
  unfold m3_shapeOf at hf
  refine lv_iload_n hx hb dX3_shapeOf_0 rfl (lv_at hl 0 rfl) ?_
  refine lv_bipush (v := (114 : Int32)) hx hb dX3_shapeOf_1 (by decide) ?_
  refine lv_icmp_ne (tgt := 9) hx hb dX3_shapeOf_3 (by decide) (fun zc1 => ?_) (fun zc1 => ?_)
  · have hf := ite_f hf zc1
    refine lv_iload_n hx hb dX3_shapeOf_9 rfl (lv_at hl 0 rfl) ?_
    refine lv_bipush (v := (115 : Int32)) hx hb dX3_shapeOf_10 (by decide) ?_
    refine lv_icmp_ne (tgt := 18) hx hb dX3_shapeOf_12 (by decide) (fun zc2 => ?_) (fun zc2 => ?_)
    · have hf := ite_f hf zc2
      refine lv_iload_n hx hb dX3_shapeOf_18 rfl (lv_at hl 0 rfl) ?_
      refine lv_bipush (v := (100 : Int32)) hx hb dX3_shapeOf_19 (by decide) ?_
      refine lv_icmp_ne (tgt := 27) hx hb dX3_shapeOf_21 (by decide) (fun zc3 => ?_) (fun zc3 => ?_)
      · have hf := ite_f hf zc3
        refine lv_iload_n hx hb dX3_shapeOf_27 rfl (lv_at hl 0 rfl) ?_
        refine lv_bipush (v := (108 : Int32)) hx hb dX3_shapeOf_28 (by decide) ?_
        refine lv_icmp_ne (tgt := 36) hx hb dX3_shapeOf_30 (by decide) (fun zc4 => ?_) (fun zc4 => ?_)
        · have hf := ite_f hf zc4
          refine lv_iload_n hx hb dX3_shapeOf_36 rfl (lv_at hl 0 rfl) ?_
          refine lv_bipush (v := (103 : Int32)) hx hb dX3_shapeOf_37 (by decide) ?_
          refine lv_icmp_ne (tgt := 47) hx hb dX3_shapeOf_39 (by decide) (fun zc5 => ?_) (fun zc5 => ?_)
          · have hf := ite_f hf zc5
            refine va_ldcS hx hb hown (C0.2.2.2.2.2.2.2.2.2.2.1 5 (by decide)) dX3_shapeOf_47 ?_
            exact w3_shapeOf_49 C0 hr hz fl _ _ _ (5 : Nat) (by decide) hw (lv_sub hl [] rfl) hf
          · have hf := ite_t hf zc5
            refine va_ldcS hx hb hown (C0.2.2.2.2.2.2.2.2.2.2.1 4 (by decide)) dX3_shapeOf_42 ?_
            refine lv_goto (tgt := 49) hx hb dX3_shapeOf_44 (by decide) ?_
            exact w3_shapeOf_49 C0 hr hz fl _ _ _ (4 : Nat) (by decide) hw (lv_sub hl [] rfl) hf
        · have hf := ite_t hf zc4
          refine va_ldcS hx hb hown (C0.2.2.2.2.2.2.2.2.2.2.1 3 (by decide)) dX3_shapeOf_33 ?_
          obtain rfl := Option.some.inj hf
          exact x_sret C0 hr (by decide) hw dX3_shapeOf_35
      · have hf := ite_t hf zc3
        refine va_ldcS hx hb hown (C0.2.2.2.2.2.2.2.2.2.2.1 2 (by decide)) dX3_shapeOf_24 ?_
        obtain rfl := Option.some.inj hf
        exact x_sret C0 hr (by decide) hw dX3_shapeOf_26
    · have hf := ite_t hf zc2
      refine va_ldcS hx hb hown (C0.2.2.2.2.2.2.2.2.2.2.1 1 (by decide)) dX3_shapeOf_15 ?_
      obtain rfl := Option.some.inj hf
      exact x_sret C0 hr (by decide) hw dX3_shapeOf_17
  · have hf := ite_t hf zc1
    refine va_ldcS hx hb hown (C0.2.2.2.2.2.2.2.2.2.2.1 0 (by decide)) dX3_shapeOf_6 ?_
    obtain rfl := Option.some.inj hf
    exact x_sret C0 hr (by decide) hw dX3_shapeOf_8
noncomputable def m3_digitAt_26 (fl : Nat) (len : Nat → Nat) (X : Xm) (I : Im) (zs0 : Int32) : Option (Int32) :=
  some (zs0)
set_option maxHeartbeats 4000000 in
set_option maxRecDepth 100000 in
theorem w3_digitAt_26 {p : Program} {l : Launch} {e : Env} {s : State} {m : MethodId} {args : Array Value} {below : List Frame} {meth : Method} {c : Code} {E : EN} {G : GM} {X : Xm} {I : Im} (C0 : CX p s m args meth c E cX3_digitAt RX3 3) (hr : meth.sig.returnType = (some .int)) (hz : s.heap.size + 0 ≤ eB E + G.1) {rr : Int32} (fl : Nat) : ∀ (H : Heap) (locs : List Loc) (ls : Array Slot) (zs0 : Int32) , WD E G I X s.heap H locs → lv_has ls 3 [] → m3_digitAt_26 fl G.2.2 X I zs0 = some rr → W p l e ({ frames := 1, cells := 0, slots := 0, locals := 21 } : Room) s m args below meth c H locs 0 0 (MQ below (QI E G rr I X) args s 0 0 (eA E)) (F0 m 26 ls [.int zs0]) := by
  intro H locs ls zs0 hw hl hf
  unfold m3_digitAt_26 at hf
  have hx := C0.1; have hb := C0.2.1; have hml := C0.2.2.1; have hown := C0.2.2.2.1; have hts := C0.2.2.2.2.1
  obtain rfl := Option.some.inj hf
  exact x_iret C0 hr hw dX3_digitAt_26
noncomputable def m3_digitAt_25 (fl : Nat) (len : Nat → Nat) (X : Xm) (I : Im) : Option (Int32) :=
  m3_digitAt_26 fl len X I (-1 : Int32)
set_option maxHeartbeats 4000000 in
set_option maxRecDepth 100000 in
theorem w3_digitAt_25 {p : Program} {l : Launch} {e : Env} {s : State} {m : MethodId} {args : Array Value} {below : List Frame} {meth : Method} {c : Code} {E : EN} {G : GM} {X : Xm} {I : Im} (C0 : CX p s m args meth c E cX3_digitAt RX3 3) (hr : meth.sig.returnType = (some .int)) (hz : s.heap.size + 0 ≤ eB E + G.1) {rr : Int32} (fl : Nat) : ∀ (H : Heap) (locs : List Loc) (ls : Array Slot) , WD E G I X s.heap H locs → lv_has ls 3 [] → m3_digitAt_25 fl G.2.2 X I = some rr → W p l e ({ frames := 1, cells := 0, slots := 0, locals := 21 } : Room) s m args below meth c H locs 0 0 (MQ below (QI E G rr I X) args s 0 0 (eA E)) (F0 m 25 ls []) := by
  intro H locs ls hw hl hf
  unfold m3_digitAt_25 at hf
  have hx := C0.1; have hb := C0.2.1; have hml := C0.2.2.1; have hown := C0.2.2.2.1; have hts := C0.2.2.2.2.1
  refine lv_iconst (v := (-1 : Int32)) hx hb dX3_digitAt_25 (by decide) ?_
  exact w3_digitAt_26 C0 hr hz fl _ _ _ (-1 : Int32) hw (lv_sub hl [] rfl) hf
noncomputable def m3_digitAt (fl : Nat) (len : Nat → Nat) (X : Xm) (I : Im) (zx0 : Nat) (zx1 : Int32) : Option (Int32) :=
  nn (m3_characterAt fl len X I zx0 zx1) fun zv1 =>
  if zv1 < (48 : Int32) then
    m3_digitAt_25 fl len X I 
  else
    if (57 : Int32) < zv1 then
      m3_digitAt_25 fl len X I 
    else
      m3_digitAt_26 fl len X I (zv1 - (48 : Int32))
theorem hy3_digitAt : yX3_digitAt.cls = RX3 ∧ yX3_digitAt.cls ≠ "java/lang/invoke/MethodHandle" ∧ yX3_digitAt.cls ≠ "java/lang/invoke/VarHandle" ∧ (parseMethodDescriptor yX3_digitAt.desc).map (fun d => d.parameters.length) = some 1 := ⟨rfl, by decide +kernel, by decide +kernel, by decide +kernel⟩
set_option maxHeartbeats 4000000 in
set_option maxRecDepth 100000 in
theorem c3_digitAt (l : Launch) (E : EN) (G : GM) (fl : Nat) (X : Xm) (I : Im) (zx0 : Nat) (zx1 : Int32) (zt0 : okA E G 3 zx0) {rr : Int32} (hf : m3_digitAt fl G.2.2 X I zx0 zx1 = some rr) : MT l yX3_digitAt cX3_digitAt 3 (some .int) ({ frames := 1, cells := 0, slots := 0, locals := 21 } : Room) E G I X [.ref zx0, .int zx1] (QI E G rr I X) 0 0 := by
  refine Met.ofW (cc := cX3_digitAt) (maxL := 3) (ret := (some .int)) (by decide +kernel) rfl ?_
  intro p e s m args below meth c s₁ B hml hv
  obtain ⟨rfl, hw0, hSE⟩ := hv
  have C0 : CX p s m ([.ref zx0, .int zx1] : List Value).toArray meth c E cX3_digitAt RX3 3 := ⟨B.exec, B.bytes, hml, findClass_of_methodNamed B.named, fun w hw => atoms_spec (ws := WS yX3_digitAt cX3_digitAt 3 (some .int)) B.pre w (List.mem_cons_of_mem _ hw), B.notSynchronized, hSE⟩
  have hz : s.heap.size + 0 ≤ eB E + G.1 := Nat.le_of_eq hw0.2.1
  have hw : WD E G I X s.heap s.heap [] := ⟨hw0, va_S.rf⟩
  have hr := B.returns
  have hx := C0.1; have hb := C0.2.1; have hml := C0.2.2.1; have hown := C0.2.2.2.1; have hts := C0.2.2.2.2.1
  have hl := lv_entry ([.ref zx0, .int zx1]) (n := 3) (Nat.le_of_ble_eq_true rfl)
  rw [lg_entry_eq]
  generalize (lg_sl ([.ref zx0, .int zx1]) ++ List.replicate (3 - (lg_sl ([.ref zx0, .int zx1])).length) Slot.unset).toArray = ls at hl ⊢
  have hl : lv_has ls 3 [(0, .ref zx0), (1, .int zx1)] := hl
  unfold m3_digitAt at hf
  refine lv_aload_n hx hb dX3_digitAt_0 rfl (lv_at hl 0 rfl) ?_
  refine lv_iload_n hx hb dX3_digitAt_1 rfl (lv_at hl 1 rfl) ?_
  obtain ⟨zv1, ze2, hf⟩ := nn_some hf
  refine x_ci (r := zv1) (I1 := I) (X1 := X) (x_runV (As := [.int zx1]) (rest := []) C0 (c3_characterAt l E G fl X I zx0 zx1 zt0 ze2) hw 3 zt0 (by decide) rfl wd13 wd252 wd253 wd254 wd255 ⟨rfl, rfl⟩ hy3_characterAt ⟨Nat.le_of_ble_eq_true rfl, Nat.le_of_ble_eq_true rfl⟩ rfl hl.1 (Nat.le_of_ble_eq_true rfl) ⟨Nat.zero_le _, Nat.zero_le _⟩ dX3_digitAt_2) hw (fun H locs hw => ?_)
  refine lv_istore_n (lv' := [(2, .int zv1), (0, .ref zx0), (1, .int zx1)]) hx hb dX3_digitAt_5 rfl hl (by decide) rfl (fun ls hl => ?_)
  refine lv_iload_n hx hb dX3_digitAt_6 rfl (lv_at hl 0 rfl) ?_
  refine lv_bipush (v := (48 : Int32)) hx hb dX3_digitAt_7 (by decide) ?_
  refine lv_icmp_lt (tgt := 25) hx hb dX3_digitAt_9 (by decide) (fun zc3 => ?_) (fun zc3 => ?_)
  · have hf := ite_t hf zc3
    exact w3_digitAt_25 C0 hr hz fl _ _ _ hw (lv_sub hl [] rfl) hf
  · have hf := ite_f hf zc3
    refine lv_iload_n hx hb dX3_digitAt_12 rfl (lv_at hl 0 rfl) ?_
    refine lv_bipush (v := (57 : Int32)) hx hb dX3_digitAt_13 (by decide) ?_
    refine lv_icmp_gt (tgt := 25) hx hb dX3_digitAt_15 (by decide) (fun zc4 => ?_) (fun zc4 => ?_)
    · have hf := ite_t hf zc4
      exact w3_digitAt_25 C0 hr hz fl _ _ _ hw (lv_sub hl [] rfl) hf
    · have hf := ite_f hf zc4
      refine lv_iload_n hx hb dX3_digitAt_18 rfl (lv_at hl 0 rfl) ?_
      refine lv_bipush (v := (48 : Int32)) hx hb dX3_digitAt_19 (by decide) ?_
      refine lv_isub hx hb dX3_digitAt_21 ?_
      refine lv_goto (tgt := 26) hx hb dX3_digitAt_22 (by decide) ?_
      exact w3_digitAt_26 C0 hr hz fl _ _ _ (zv1 - (48 : Int32)) hw (lv_sub hl [] rfl) hf
noncomputable def m3_readNumber_116 (fl : Nat) (len : Nat → Nat) (X : Xm) (I : Im) : Option (Int32 × Im) :=
  some ((1 : Int32), I)
set_option maxHeartbeats 4000000 in
set_option maxRecDepth 100000 in
theorem w3_readNumber_116 {p : Program} {l : Launch} {e : Env} {s : State} {m : MethodId} {args : Array Value} {below : List Frame} {meth : Method} {c : Code} {E : EN} {G : GM} {X : Xm} (C0 : CX p s m args meth c E cX3_readNumber RX3 4) (hr : meth.sig.returnType = (some .boolean)) (hz : s.heap.size + 0 ≤ eB E + G.1) {rr : Int32 × Im} (fl : Nat) : ∀ (I : Im) (H : Heap) (locs : List Loc) (ls : Array Slot) , WD E G I X s.heap H locs → lv_has ls 4 [] → m3_readNumber_116 fl G.2.2 X I = some rr → W p l e ({ frames := 2, cells := 0, slots := 0, locals := 43 } : Room) s m args below meth c H locs 0 0 (MQ below (QI E G rr.1 rr.2 X) args s 0 0 (eA E)) (F0 m 116 ls []) := by
  intro I H locs ls hw hl hf
  unfold m3_readNumber_116 at hf
  have hx := C0.1; have hb := C0.2.1; have hml := C0.2.2.1; have hown := C0.2.2.2.1; have hts := C0.2.2.2.2.1
  refine lv_iconst (v := (1 : Int32)) hx hb dX3_readNumber_116 (by decide) ?_
  obtain rfl := Option.some.inj hf
  exact x_zret C0 hr (show narrow .boolean (.int (1 : Int32)) = .int (1 : Int32) by decide) hw dX3_readNumber_117
noncomputable def m3_readNumber_77 (fl : Nat) (len : Nat → Nat) (X : Xm) (I : Im) (zx0 : Nat) (zx2 : Int32) : Option (Int32 × Im) :=
  if (gF I 53 zx0) < 0 then
    m3_readNumber_116 fl len X I
  else
    nn (gR X 52 zx0) fun zv2 =>
    if (nI (len zv2)) ≤ (gF I 53 zx0) then
      m3_readNumber_116 fl len X I
    else
      ck (inb (gF I 53 zx0) (len zv2) = true) <|
      lt (pA I zv2 ((gF I 53 zx0)).toNatClampNeg zx2) fun zI5 =>
      lt (pF zI5 53 zx0 ((gF zI5 53 zx0) + (1 : Int32))) fun zI6 =>
      m3_readNumber_116 fl len X zI6
set_option maxHeartbeats 4000000 in
set_option maxRecDepth 100000 in
theorem w3_readNumber_77 {p : Program} {l : Launch} {e : Env} {s : State} {m : MethodId} {args : Array Value} {below : List Frame} {meth : Method} {c : Code} {E : EN} {G : GM} {X : Xm} (C0 : CX p s m args meth c E cX3_readNumber RX3 4) (hr : meth.sig.returnType = (some .boolean)) (hz : s.heap.size + 0 ≤ eB E + G.1) {rr : Int32 × Im} (fl : Nat) : ∀ (I : Im) (H : Heap) (locs : List Loc) (ls : Array Slot) (zx0 : Nat) (zx2 : Int32) (zt0 : okA E G 3 zx0), WD E G I X s.heap H locs → lv_has ls 4 [(0, .ref zx0), (2, .int zx2)] → m3_readNumber_77 fl G.2.2 X I zx0 zx2 = some rr → W p l e ({ frames := 2, cells := 0, slots := 0, locals := 43 } : Room) s m args below meth c H locs 0 0 (MQ below (QI E G rr.1 rr.2 X) args s 0 0 (eA E)) (F0 m 77 ls []) := by
  intro I H locs ls zx0 zx2 zt0 hw hl hf
  unfold m3_readNumber_77 at hf
  have hx := C0.1; have hb := C0.2.1; have hml := C0.2.2.1; have hown := C0.2.2.2.1; have hts := C0.2.2.2.2.1
  refine lv_aload_n hx hb dX3_readNumber_77 rfl (lv_at hl 0 rfl) ?_
  refine xg_3_5 C0 hw zt0 wd257 dX3_readNumber_78 ?_
  refine lv_if_lt (tgt := 116) hx hb dX3_readNumber_81 (by decide) (fun zc1 => ?_) (fun zc1 => ?_)
  · have hf := ite_t hf zc1
    exact w3_readNumber_116 C0 hr hz fl I _ _ _ hw (lv_sub hl [] rfl) hf
  · have hf := ite_f hf zc1
    refine lv_aload_n hx hb dX3_readNumber_84 rfl (lv_at hl 0 rfl) ?_
    refine xg_3_5 C0 hw zt0 wd257 dX3_readNumber_85 ?_
    refine lv_aload_n hx hb dX3_readNumber_88 rfl (lv_at hl 0 rfl) ?_
    obtain ⟨zv2, ezv2, hf⟩ := nn_some hf
    have tzv2 : okA E G 11 zv2 := wt_r hw ezv2
    refine xg_3_4 C0 hw zt0 wd217 ezv2 dX3_readNumber_89 ?_
    refine x_alen C0 hw 11 tzv2 (by decide) rfl dX3_readNumber_92 ?_
    refine lv_icmp_ge (tgt := 116) hx hb dX3_readNumber_93 (by decide) (fun zc3 => ?_) (fun zc3 => ?_)
    · have hf := ite_t hf zc3
      exact w3_readNumber_116 C0 hr hz fl I _ _ _ hw (lv_sub hl [] rfl) hf
    · have hf := ite_f hf zc3
      refine lv_aload_n hx hb dX3_readNumber_96 rfl (lv_at hl 0 rfl) ?_
      refine xg_3_4 C0 hw zt0 wd217 ezv2 dX3_readNumber_97 ?_
      refine lv_aload_n hx hb dX3_readNumber_100 rfl (lv_at hl 0 rfl) ?_
      refine xg_3_5 C0 hw zt0 wd257 dX3_readNumber_101 ?_
      refine lv_iload_n hx hb dX3_readNumber_104 rfl (lv_at hl 1 rfl) ?_
      obtain ⟨zhb4, hf⟩ := ck_some hf
      obtain ⟨zI5, ezI5⟩ : ∃ y : Im, y = pA I zv2 ((gF I 53 zx0)).toNatClampNeg zx2 := ⟨_, rfl⟩
      have hf := lt_at hf ezI5
      refine x_iast C0 hz hw tzv2 zhb4 dX3_readNumber_105 ezI5 (fun H locs hw => ?_)
      refine lv_aload_n hx hb dX3_readNumber_106 rfl (lv_at hl 0 rfl) ?_
      refine lv_dup hx hb dX3_readNumber_107 rfl ?_
      refine xg_3_5 C0 hw zt0 wd257 dX3_readNumber_108 ?_
      refine lv_iconst (v := (1 : Int32)) hx hb dX3_readNumber_111 (by decide) ?_
      refine lv_iadd hx hb dX3_readNumber_112 ?_
      obtain ⟨zI6, ezI6⟩ : ∃ y : Im, y = pF zI5 53 zx0 ((gF zI5 53 zx0) + (1 : Int32)) := ⟨_, rfl⟩
      have hf := lt_at hf ezI6
      refine xp_3_5 C0 hz hw zt0 rfl rfl wd257 dX3_readNumber_113 ezI6 (fun H locs hw => ?_)
      exact w3_readNumber_116 C0 hr hz fl zI6 _ _ _ hw (lv_sub hl [] rfl) hf
noncomputable def m3_readNumber_27b (fl : Nat) (len : Nat → Nat) (X : Xm) (zr27 : Im → Nat → Int32 → Int32 → Int32 → Option (Int32 × Im)) (I : Im) (zx0 : Nat) (zx1 : Int32) (zx2 : Int32) (zx3 : Int32) : Option (Int32 × Im) :=
  if zx1 ≤ zx3 then
    m3_readNumber_77 fl len X I zx0 zx2
  else
    if zx2 ≤ 0 then
      m3_readNumber_77 fl len X I zx0 zx2
    else
      nn (m3_digitAt fl len X I zx0 (gF I 50 zx0)) fun zv3 =>
      if zv3 < 0 then
        m3_readNumber_77 fl len X I zx0 zx2
      else
        nn (m3_digitAt fl len X I zx0 (gF I 50 zx0)) fun zv6 =>
        lt (((zx2 * (10 : Int32)) + zv6)) fun zv8 =>
        lt (pF I 50 zx0 ((gF I 50 zx0) + (1 : Int32))) fun zI9 =>
        lt (zx3 + 1) fun zv10 =>
        zr27 zI9 zx0 zx1 zv8 zv10
noncomputable def m3_readNumber_27 (fl : Nat) (len : Nat → Nat) (X : Xm) (n : Nat) : Im → Nat → Int32 → Int32 → Int32 → Option (Int32 × Im) :=
  Nat.rec (fun _ _ _ _ _ => none) (fun _ r => m3_readNumber_27b fl len X r) n
set_option maxHeartbeats 4000000 in
set_option maxRecDepth 100000 in
theorem w3_readNumber_27b {p : Program} {l : Launch} {e : Env} {s : State} {m : MethodId} {args : Array Value} {below : List Frame} {meth : Method} {c : Code} {E : EN} {G : GM} {X : Xm} (C0 : CX p s m args meth c E cX3_readNumber RX3 4) (hr : meth.sig.returnType = (some .boolean)) (hz : s.heap.size + 0 ≤ eB E + G.1) {rr : Int32 × Im} (fl : Nat) (zr27 : Im → Nat → Int32 → Int32 → Int32 → Option (Int32 × Im)) (zhr27 : ∀ (I : Im) (H : Heap) (locs : List Loc) (ls : Array Slot) (zx0 : Nat) (zx1 : Int32) (zx2 : Int32) (zx3 : Int32) (zt0 : okA E G 3 zx0), WD E G I X s.heap H locs → lv_has ls 4 [(0, .ref zx0), (1, .int zx1), (2, .int zx2), (3, .int zx3)] → zr27 I zx0 zx1 zx2 zx3 = some rr → W p l e ({ frames := 2, cells := 0, slots := 0, locals := 43 } : Room) s m args below meth c H locs 0 0 (MQ below (QI E G rr.1 rr.2 X) args s 0 0 (eA E)) (F0 m 27 ls [])) : ∀ (I : Im) (H : Heap) (locs : List Loc) (ls : Array Slot) (zx0 : Nat) (zx1 : Int32) (zx2 : Int32) (zx3 : Int32) (zt0 : okA E G 3 zx0), WD E G I X s.heap H locs → lv_has ls 4 [(0, .ref zx0), (1, .int zx1), (2, .int zx2), (3, .int zx3)] → m3_readNumber_27b fl G.2.2 X zr27 I zx0 zx1 zx2 zx3 = some rr → W p l e ({ frames := 2, cells := 0, slots := 0, locals := 43 } : Room) s m args below meth c H locs 0 0 (MQ below (QI E G rr.1 rr.2 X) args s 0 0 (eA E)) (F0 m 27 ls []) := by
  intro I H locs ls zx0 zx1 zx2 zx3 zt0 hw hl hf
  unfold m3_readNumber_27b at hf
  have hx := C0.1; have hb := C0.2.1; have hml := C0.2.2.1; have hown := C0.2.2.2.1; have hts := C0.2.2.2.2.1
  refine lv_iload_n hx hb dX3_readNumber_27 rfl (lv_at hl 3 rfl) ?_
  refine lv_iload_n hx hb dX3_readNumber_28 rfl (lv_at hl 1 rfl) ?_
  refine lv_icmp_ge (tgt := 77) hx hb dX3_readNumber_29 (by decide) (fun zc1 => ?_) (fun zc1 => ?_)
  · have hf := ite_t hf zc1
    exact w3_readNumber_77 C0 hr hz fl I _ _ _ zx0 zx2 zt0 hw (lv_sub hl [0, 2] rfl) hf
  · have hf := ite_f hf zc1
    refine lv_iload_n hx hb dX3_readNumber_32 rfl (lv_at hl 2 rfl) ?_
    refine lv_if_le (tgt := 77) hx hb dX3_readNumber_33 (by decide) (fun zc2 => ?_) (fun zc2 => ?_)
    · have hf := ite_t hf zc2
      exact w3_readNumber_77 C0 hr hz fl I _ _ _ zx0 zx2 zt0 hw (lv_sub hl [0, 2] rfl) hf
    · have hf := ite_f hf zc2
      refine lv_aload_n hx hb dX3_readNumber_36 rfl (lv_at hl 0 rfl) ?_
      refine lv_aload_n hx hb dX3_readNumber_37 rfl (lv_at hl 0 rfl) ?_
      refine xg_3_2 C0 hw zt0 wd256 dX3_readNumber_38 ?_
      obtain ⟨zv3, ze4, hf⟩ := nn_some hf
      refine x_ci (r := zv3) (I1 := I) (X1 := X) (x_runV (As := [.int (gF I 50 zx0)]) (rest := []) C0 (c3_digitAt l E G fl X I zx0 (gF I 50 zx0) zt0 ze4) hw 3 zt0 (by decide) rfl wd27 wd258 wd259 wd260 wd255 ⟨rfl, rfl⟩ hy3_digitAt ⟨Nat.le_of_ble_eq_true rfl, Nat.le_of_ble_eq_true rfl⟩ rfl hl.1 (Nat.le_of_ble_eq_true rfl) ⟨Nat.zero_le _, Nat.zero_le _⟩ dX3_readNumber_41) hw (fun H locs hw => ?_)
      refine lv_if_lt (tgt := 77) hx hb dX3_readNumber_44 (by decide) (fun zc5 => ?_) (fun zc5 => ?_)
      · have hf := ite_t hf zc5
        exact w3_readNumber_77 C0 hr hz fl I _ _ _ zx0 zx2 zt0 hw (lv_sub hl [0, 2] rfl) hf
      · have hf := ite_f hf zc5
        refine lv_iload_n hx hb dX3_readNumber_47 rfl (lv_at hl 2 rfl) ?_
        refine lv_bipush (v := (10 : Int32)) hx hb dX3_readNumber_48 (by decide) ?_
        refine lv_imul hx hb dX3_readNumber_50 ?_
        refine lv_aload_n hx hb dX3_readNumber_51 rfl (lv_at hl 0 rfl) ?_
        refine lv_aload_n hx hb dX3_readNumber_52 rfl (lv_at hl 0 rfl) ?_
        refine xg_3_2 C0 hw zt0 wd256 dX3_readNumber_53 ?_
        obtain ⟨zv6, ze7, hf⟩ := nn_some hf
        refine x_ci (r := zv6) (I1 := I) (X1 := X) (x_runV (As := [.int (gF I 50 zx0)]) (rest := [.int (zx2 * (10 : Int32))]) C0 (c3_digitAt l E G fl X I zx0 (gF I 50 zx0) zt0 ze7) hw 3 zt0 (by decide) rfl wd27 wd258 wd259 wd260 wd255 ⟨rfl, rfl⟩ hy3_digitAt ⟨Nat.le_of_ble_eq_true rfl, Nat.le_of_ble_eq_true rfl⟩ rfl hl.1 (Nat.le_of_ble_eq_true rfl) ⟨Nat.zero_le _, Nat.zero_le _⟩ dX3_readNumber_56) hw (fun H locs hw => ?_)
        refine lv_iadd hx hb dX3_readNumber_59 ?_
        refine lv_topi (fun zv8 ezv8 => ?_)
        have hf := lt_at hf ezv8
        refine lv_istore_n (lv' := [(2, .int zv8), (0, .ref zx0), (1, .int zx1), (3, .int zx3)]) hx hb dX3_readNumber_60 rfl hl (by decide) rfl (fun ls hl => ?_)
        refine lv_aload_n hx hb dX3_readNumber_61 rfl (lv_at hl 1 rfl) ?_
        refine lv_dup hx hb dX3_readNumber_62 rfl ?_
        refine xg_3_2 C0 hw zt0 wd256 dX3_readNumber_63 ?_
        refine lv_iconst (v := (1 : Int32)) hx hb dX3_readNumber_66 (by decide) ?_
        refine lv_iadd hx hb dX3_readNumber_67 ?_
        obtain ⟨zI9, ezI9⟩ : ∃ y : Im, y = pF I 50 zx0 ((gF I 50 zx0) + (1 : Int32)) := ⟨_, rfl⟩
        have hf := lt_at hf ezI9
        refine xp_3_2 C0 hz hw zt0 rfl rfl wd256 dX3_readNumber_68 ezI9 (fun H locs hw => ?_)
        obtain ⟨zv10, ezv10⟩ : ∃ y : Int32, y = zx3 + 1 := ⟨_, rfl⟩
        have hf := lt_at hf ezv10
        refine lv_iinc (v := zv10) (lv' := [(3, .int zv10), (2, .int zv8), (0, .ref zx0), (1, .int zx1)]) hx hb dX3_readNumber_71 hl (k := 3) rfl (by rw [ezv10]; rfl) (by decide) rfl (fun ls hl => ?_)
        refine lv_goto (tgt := 27) hx hb dX3_readNumber_74 (by decide) ?_
        exact zhr27 zI9 _ _ _ zx0 zx1 zv8 zv10 zt0 hw (lv_sub hl [2, 3, 1, 0] rfl) hf
theorem w3_readNumber_27 {p : Program} {l : Launch} {e : Env} {s : State} {m : MethodId} {args : Array Value} {below : List Frame} {meth : Method} {c : Code} {E : EN} {G : GM} {X : Xm} (C0 : CX p s m args meth c E cX3_readNumber RX3 4) (hr : meth.sig.returnType = (some .boolean)) (hz : s.heap.size + 0 ≤ eB E + G.1) {rr : Int32 × Im} (fl : Nat) : ∀ (n : Nat) (I : Im) (H : Heap) (locs : List Loc) (ls : Array Slot) (zx0 : Nat) (zx1 : Int32) (zx2 : Int32) (zx3 : Int32) (zt0 : okA E G 3 zx0), WD E G I X s.heap H locs → lv_has ls 4 [(0, .ref zx0), (1, .int zx1), (2, .int zx2), (3, .int zx3)] → m3_readNumber_27 fl G.2.2 X n I zx0 zx1 zx2 zx3 = some rr → W p l e ({ frames := 2, cells := 0, slots := 0, locals := 43 } : Room) s m args below meth c H locs 0 0 (MQ below (QI E G rr.1 rr.2 X) args s 0 0 (eA E)) (F0 m 27 ls []) := by
  intro n
  induction n with
  | zero => intro I H locs ls zx0 zx1 zx2 zx3 zt0 hw hl hf; exact absurd (show (none : Option (Int32 × Im)) = some rr from hf) (by simp)
  | succ n ih => intro I H locs ls zx0 zx1 zx2 zx3 zt0 hw hl hf; exact w3_readNumber_27b C0 hr hz fl _ ih I H locs ls zx0 zx1 zx2 zx3 zt0 hw hl hf
noncomputable def m3_readNumber (fl : Nat) (len : Nat → Nat) (X : Xm) (I : Im) (zx0 : Nat) (zx1 : Int32) : Option (Int32 × Im) :=
  nn (m3_digitAt fl len X I zx0 (gF I 50 zx0)) fun zv1 =>
  if 0 ≤ zv1 then
    lt (pF I 50 zx0 ((gF I 50 zx0) + (1 : Int32))) fun zI4 =>
    m3_readNumber_27 fl len X fl zI4 zx0 zx1 zv1 (1 : Int32)
  else
    some ((0 : Int32), I)
theorem hy3_readNumber : yX3_readNumber.cls = RX3 ∧ yX3_readNumber.cls ≠ "java/lang/invoke/MethodHandle" ∧ yX3_readNumber.cls ≠ "java/lang/invoke/VarHandle" ∧ (parseMethodDescriptor yX3_readNumber.desc).map (fun d => d.parameters.length) = some 1 := ⟨rfl, by decide +kernel, by decide +kernel, by decide +kernel⟩
set_option maxHeartbeats 4000000 in
set_option maxRecDepth 100000 in
theorem c3_readNumber (l : Launch) (E : EN) (G : GM) (fl : Nat) (X : Xm) (I : Im) (zx0 : Nat) (zx1 : Int32) (zt0 : okA E G 3 zx0) {rr : Int32 × Im} (hf : m3_readNumber fl G.2.2 X I zx0 zx1 = some rr) : MT l yX3_readNumber cX3_readNumber 4 (some .boolean) ({ frames := 2, cells := 0, slots := 0, locals := 43 } : Room) E G I X [.ref zx0, .int zx1] (QI E G rr.1 rr.2 X) 0 0 := by
  refine Met.ofW (cc := cX3_readNumber) (maxL := 4) (ret := (some .boolean)) (by decide +kernel) rfl ?_
  intro p e s m args below meth c s₁ B hml hv
  obtain ⟨rfl, hw0, hSE⟩ := hv
  have C0 : CX p s m ([.ref zx0, .int zx1] : List Value).toArray meth c E cX3_readNumber RX3 4 := ⟨B.exec, B.bytes, hml, findClass_of_methodNamed B.named, fun w hw => atoms_spec (ws := WS yX3_readNumber cX3_readNumber 4 (some .boolean)) B.pre w (List.mem_cons_of_mem _ hw), B.notSynchronized, hSE⟩
  have hz : s.heap.size + 0 ≤ eB E + G.1 := Nat.le_of_eq hw0.2.1
  have hw : WD E G I X s.heap s.heap [] := ⟨hw0, va_S.rf⟩
  have hr := B.returns
  have hx := C0.1; have hb := C0.2.1; have hml := C0.2.2.1; have hown := C0.2.2.2.1; have hts := C0.2.2.2.2.1
  have hl := lv_entry ([.ref zx0, .int zx1]) (n := 4) (Nat.le_of_ble_eq_true rfl)
  rw [lg_entry_eq]
  generalize (lg_sl ([.ref zx0, .int zx1]) ++ List.replicate (4 - (lg_sl ([.ref zx0, .int zx1])).length) Slot.unset).toArray = ls at hl ⊢
  have hl : lv_has ls 4 [(0, .ref zx0), (1, .int zx1)] := hl
  unfold m3_readNumber at hf
  refine lv_aload_n hx hb dX3_readNumber_0 rfl (lv_at hl 0 rfl) ?_
  refine lv_aload_n hx hb dX3_readNumber_1 rfl (lv_at hl 0 rfl) ?_
  refine xg_3_2 C0 hw zt0 wd256 dX3_readNumber_2 ?_
  obtain ⟨zv1, ze2, hf⟩ := nn_some hf
  refine x_ci (r := zv1) (I1 := I) (X1 := X) (x_runV (As := [.int (gF I 50 zx0)]) (rest := []) C0 (c3_digitAt l E G fl X I zx0 (gF I 50 zx0) zt0 ze2) hw 3 zt0 (by decide) rfl wd27 wd258 wd259 wd260 wd255 ⟨rfl, rfl⟩ hy3_digitAt ⟨Nat.le_of_ble_eq_true rfl, Nat.le_of_ble_eq_true rfl⟩ rfl hl.1 (Nat.le_of_ble_eq_true rfl) ⟨Nat.zero_le _, Nat.zero_le _⟩ dX3_readNumber_5) hw (fun H locs hw => ?_)
  refine lv_istore_n (lv' := [(2, .int zv1), (0, .ref zx0), (1, .int zx1)]) hx hb dX3_readNumber_8 rfl hl (by decide) rfl (fun ls hl => ?_)
  refine lv_iload_n hx hb dX3_readNumber_9 rfl (lv_at hl 0 rfl) ?_
  refine lv_if_ge (tgt := 15) hx hb dX3_readNumber_10 (by decide) (fun zc3 => ?_) (fun zc3 => ?_)
  · have hf := ite_t hf zc3
    refine lv_aload_n hx hb dX3_readNumber_15 rfl (lv_at hl 1 rfl) ?_
    refine lv_dup hx hb dX3_readNumber_16 rfl ?_
    refine xg_3_2 C0 hw zt0 wd256 dX3_readNumber_17 ?_
    refine lv_iconst (v := (1 : Int32)) hx hb dX3_readNumber_20 (by decide) ?_
    refine lv_iadd hx hb dX3_readNumber_21 ?_
    obtain ⟨zI4, ezI4⟩ : ∃ y : Im, y = pF I 50 zx0 ((gF I 50 zx0) + (1 : Int32)) := ⟨_, rfl⟩
    have hf := lt_at hf ezI4
    refine xp_3_2 C0 hz hw zt0 rfl rfl wd256 dX3_readNumber_22 ezI4 (fun H locs hw => ?_)
    refine lv_iconst (v := (1 : Int32)) hx hb dX3_readNumber_25 (by decide) ?_
    refine lv_istore_n (lv' := [(3, .int (1 : Int32)), (2, .int zv1), (0, .ref zx0), (1, .int zx1)]) hx hb dX3_readNumber_26 rfl hl (by decide) rfl (fun ls hl => ?_)
    exact w3_readNumber_27 C0 hr hz fl fl zI4 _ _ _ zx0 zx1 zv1 (1 : Int32) zt0 hw (lv_sub hl [2, 3, 1, 0] rfl) hf
  · have hf := ite_f hf zc3
    refine lv_iconst (v := (0 : Int32)) hx hb dX3_readNumber_13 (by decide) ?_
    obtain rfl := Option.some.inj hf
    exact x_zret C0 hr (show narrow .boolean (.int (0 : Int32)) = .int (0 : Int32) by decide) hw dX3_readNumber_14
noncomputable def m6_copyFrom_56 (fl : Nat) (len : Nat → Nat) (X : Xm) (I : Im) : Option (Im) :=
  some (I)
set_option maxHeartbeats 4000000 in
set_option maxRecDepth 100000 in
theorem w6_copyFrom_56 {p : Program} {l : Launch} {e : Env} {s : State} {m : MethodId} {args : Array Value} {below : List Frame} {meth : Method} {c : Code} {E : EN} {G : GM} {X : Xm} (C0 : CX p s m args meth c E cX6_copyFrom RX6 3) (hr : meth.sig.returnType = none) (hz : s.heap.size + 0 ≤ eB E + G.1) {rr : Im} (fl : Nat) : ∀ (I : Im) (H : Heap) (locs : List Loc) (ls : Array Slot) , WD E G I X s.heap H locs → lv_has ls 3 [] → m6_copyFrom_56 fl G.2.2 X I = some rr → W p l e ({ frames := 1, cells := 0, slots := 0, locals := 21 } : Room) s m args below meth c H locs 0 0 (MQ below (QV E G rr X) args s 0 0 (eA E)) (F0 m 56 ls []) := by
  intro I H locs ls hw hl hf
  unfold m6_copyFrom_56 at hf
  have hx := C0.1; have hb := C0.2.1; have hml := C0.2.2.1; have hown := C0.2.2.2.1; have hts := C0.2.2.2.2.1
  obtain rfl := Option.some.inj hf
  exact x_vret C0 hr hw dX6_copyFrom_56
noncomputable def m6_copyFrom_18b (fl : Nat) (len : Nat → Nat) (X : Xm) (zr18 : Im → Nat → Nat → Int32 → Option (Im)) (I : Im) (zx0 : Nat) (zx1 : Nat) (zx2 : Int32) : Option (Im) :=
  if (gF I 97 zx0) ≤ zx2 then
    m6_copyFrom_56 fl len X I
  else
    nn (gR X 96 zx0) fun zv2 =>
    if (nI (len zv2)) ≤ zx2 then
      m6_copyFrom_56 fl len X I
    else
      ck (inb zx2 (len zv2) = true) <|
      nn (gQ X zv2 (zx2).toNatClampNeg) fun zv5 =>
      nn (gR X 96 zx1) fun zv6 =>
      ck (inb zx2 (len zv6) = true) <|
      nn (gQ X zv6 (zx2).toNatClampNeg) fun zv8 =>
      nn (m1_copyFrom fl len X I zv5 zv8) fun zI9 =>
      lt (zx2 + 1) fun zv11 =>
      zr18 zI9 zx0 zx1 zv11
noncomputable def m6_copyFrom_18 (fl : Nat) (len : Nat → Nat) (X : Xm) (n : Nat) : Im → Nat → Nat → Int32 → Option (Im) :=
  Nat.rec (fun _ _ _ _ => none) (fun _ r => m6_copyFrom_18b fl len X r) n
set_option maxHeartbeats 4000000 in
set_option maxRecDepth 100000 in
theorem w6_copyFrom_18b {p : Program} {l : Launch} {e : Env} {s : State} {m : MethodId} {args : Array Value} {below : List Frame} {meth : Method} {c : Code} {E : EN} {G : GM} {X : Xm} (C0 : CX p s m args meth c E cX6_copyFrom RX6 3) (hr : meth.sig.returnType = none) (hz : s.heap.size + 0 ≤ eB E + G.1) {rr : Im} (fl : Nat) (zr18 : Im → Nat → Nat → Int32 → Option (Im)) (zhr18 : ∀ (I : Im) (H : Heap) (locs : List Loc) (ls : Array Slot) (zx0 : Nat) (zx1 : Nat) (zx2 : Int32) (zt0 : okA E G 6 zx0) (zt1 : okA E G 6 zx1), WD E G I X s.heap H locs → lv_has ls 3 [(0, .ref zx0), (1, .ref zx1), (2, .int zx2)] → zr18 I zx0 zx1 zx2 = some rr → W p l e ({ frames := 1, cells := 0, slots := 0, locals := 21 } : Room) s m args below meth c H locs 0 0 (MQ below (QV E G rr X) args s 0 0 (eA E)) (F0 m 18 ls [])) : ∀ (I : Im) (H : Heap) (locs : List Loc) (ls : Array Slot) (zx0 : Nat) (zx1 : Nat) (zx2 : Int32) (zt0 : okA E G 6 zx0) (zt1 : okA E G 6 zx1), WD E G I X s.heap H locs → lv_has ls 3 [(0, .ref zx0), (1, .ref zx1), (2, .int zx2)] → m6_copyFrom_18b fl G.2.2 X zr18 I zx0 zx1 zx2 = some rr → W p l e ({ frames := 1, cells := 0, slots := 0, locals := 21 } : Room) s m args below meth c H locs 0 0 (MQ below (QV E G rr X) args s 0 0 (eA E)) (F0 m 18 ls []) := by
  intro I H locs ls zx0 zx1 zx2 zt0 zt1 hw hl hf
  unfold m6_copyFrom_18b at hf
  have hx := C0.1; have hb := C0.2.1; have hml := C0.2.2.1; have hown := C0.2.2.2.1; have hts := C0.2.2.2.2.1
  refine lv_iload_n hx hb dX6_copyFrom_18 rfl (lv_at hl 2 rfl) ?_
  refine lv_aload_n hx hb dX6_copyFrom_19 rfl (lv_at hl 0 rfl) ?_
  refine xg_6_1 C0 hw zt0 wd322 dX6_copyFrom_20 ?_
  refine lv_icmp_ge (tgt := 56) hx hb dX6_copyFrom_23 (by decide) (fun zc1 => ?_) (fun zc1 => ?_)
  · have hf := ite_t hf zc1
    exact w6_copyFrom_56 C0 hr hz fl I _ _ _ hw (lv_sub hl [] rfl) hf
  · have hf := ite_f hf zc1
    refine lv_iload_n hx hb dX6_copyFrom_26 rfl (lv_at hl 2 rfl) ?_
    refine lv_aload_n hx hb dX6_copyFrom_27 rfl (lv_at hl 0 rfl) ?_
    obtain ⟨zv2, ezv2, hf⟩ := nn_some hf
    have tzv2 : okA E G 14 zv2 := wt_r hw ezv2
    refine xg_6_0 C0 hw zt0 wd284 ezv2 dX6_copyFrom_28 ?_
    refine x_alen C0 hw 14 tzv2 (by decide) rfl dX6_copyFrom_31 ?_
    refine lv_icmp_ge (tgt := 56) hx hb dX6_copyFrom_32 (by decide) (fun zc3 => ?_) (fun zc3 => ?_)
    · have hf := ite_t hf zc3
      exact w6_copyFrom_56 C0 hr hz fl I _ _ _ hw (lv_sub hl [] rfl) hf
    · have hf := ite_f hf zc3
      refine lv_aload_n hx hb dX6_copyFrom_35 rfl (lv_at hl 0 rfl) ?_
      refine xg_6_0 C0 hw zt0 wd284 ezv2 dX6_copyFrom_36 ?_
      refine lv_iload_n hx hb dX6_copyFrom_39 rfl (lv_at hl 2 rfl) ?_
      obtain ⟨zhb4, hf⟩ := ck_some hf
      obtain ⟨zv5, ezv5, hf⟩ := nn_some hf
      have tzv5 : okA E G 1 zv5 := wt_q hw tzv2 ezv5
      refine x_qald C0 hw 14 tzv2 (by decide) rfl zhb4 ezv5 dX6_copyFrom_40 ?_
      refine lv_aload_n hx hb dX6_copyFrom_41 rfl (lv_at hl 1 rfl) ?_
      obtain ⟨zv6, ezv6, hf⟩ := nn_some hf
      have tzv6 : okA E G 14 zv6 := wt_r hw ezv6
      refine xg_6_0 C0 hw zt1 wd284 ezv6 dX6_copyFrom_42 ?_
      refine lv_iload_n hx hb dX6_copyFrom_45 rfl (lv_at hl 2 rfl) ?_
      obtain ⟨zhb7, hf⟩ := ck_some hf
      obtain ⟨zv8, ezv8, hf⟩ := nn_some hf
      have tzv8 : okA E G 1 zv8 := wt_q hw tzv6 ezv8
      refine x_qald C0 hw 14 tzv6 (by decide) rfl zhb7 ezv8 dX6_copyFrom_46 ?_
      obtain ⟨zI9, ze10, hf⟩ := nn_some hf
      refine x_cv (I1 := zI9) (X1 := X) (x_runV (As := [.ref zv8]) (rest := []) C0 (c1_copyFrom l E G fl X I zv5 zv8 tzv5 tzv8 ze10) hw 1 tzv5 (by decide) rfl wd4 wd324 wd325 wd326 wd286 ⟨rfl, rfl⟩ hy1_copyFrom ⟨Nat.le_of_ble_eq_true rfl, Nat.le_of_ble_eq_true rfl⟩ rfl hl.1 (Nat.le_of_ble_eq_true rfl) ⟨Nat.zero_le _, Nat.zero_le _⟩ dX6_copyFrom_47) hw (fun H locs hw => ?_)
      obtain ⟨zv11, ezv11⟩ : ∃ y : Int32, y = zx2 + 1 := ⟨_, rfl⟩
      have hf := lt_at hf ezv11
      refine lv_iinc (v := zv11) (lv' := [(2, .int zv11), (0, .ref zx0), (1, .ref zx1)]) hx hb dX6_copyFrom_50 hl (k := 2) rfl (by rw [ezv11]; rfl) (by decide) rfl (fun ls hl => ?_)
      refine lv_goto (tgt := 18) hx hb dX6_copyFrom_53 (by decide) ?_
      exact zhr18 zI9 _ _ _ zx0 zx1 zv11 zt0 zt1 hw (lv_sub hl [1, 2, 0] rfl) hf
theorem w6_copyFrom_18 {p : Program} {l : Launch} {e : Env} {s : State} {m : MethodId} {args : Array Value} {below : List Frame} {meth : Method} {c : Code} {E : EN} {G : GM} {X : Xm} (C0 : CX p s m args meth c E cX6_copyFrom RX6 3) (hr : meth.sig.returnType = none) (hz : s.heap.size + 0 ≤ eB E + G.1) {rr : Im} (fl : Nat) : ∀ (n : Nat) (I : Im) (H : Heap) (locs : List Loc) (ls : Array Slot) (zx0 : Nat) (zx1 : Nat) (zx2 : Int32) (zt0 : okA E G 6 zx0) (zt1 : okA E G 6 zx1), WD E G I X s.heap H locs → lv_has ls 3 [(0, .ref zx0), (1, .ref zx1), (2, .int zx2)] → m6_copyFrom_18 fl G.2.2 X n I zx0 zx1 zx2 = some rr → W p l e ({ frames := 1, cells := 0, slots := 0, locals := 21 } : Room) s m args below meth c H locs 0 0 (MQ below (QV E G rr X) args s 0 0 (eA E)) (F0 m 18 ls []) := by
  intro n
  induction n with
  | zero => intro I H locs ls zx0 zx1 zx2 zt0 zt1 hw hl hf; exact absurd (show (none : Option (Im)) = some rr from hf) (by simp)
  | succ n ih => intro I H locs ls zx0 zx1 zx2 zt0 zt1 hw hl hf; exact w6_copyFrom_18b C0 hr hz fl _ ih I H locs ls zx0 zx1 zx2 zt0 zt1 hw hl hf
noncomputable def m6_copyFrom (fl : Nat) (len : Nat → Nat) (X : Xm) (I : Im) (zx0 : Nat) (zx1 : Nat) : Option (Im) :=
  lt (pF I 97 zx0 (gF I 97 zx1)) fun zI1 =>
  lt (pF zI1 98 zx0 (gF zI1 98 zx1)) fun zI2 =>
  m6_copyFrom_18 fl len X fl zI2 zx0 zx1 (0 : Int32)
theorem hy6_copyFrom : yX6_copyFrom.cls = RX6 ∧ yX6_copyFrom.cls ≠ "java/lang/invoke/MethodHandle" ∧ yX6_copyFrom.cls ≠ "java/lang/invoke/VarHandle" ∧ (parseMethodDescriptor yX6_copyFrom.desc).map (fun d => d.parameters.length) = some 1 := ⟨rfl, by decide +kernel, by decide +kernel, by decide +kernel⟩
set_option maxHeartbeats 4000000 in
set_option maxRecDepth 100000 in
theorem c6_copyFrom (l : Launch) (E : EN) (G : GM) (fl : Nat) (X : Xm) (I : Im) (zx0 : Nat) (zx1 : Nat) (zt0 : okA E G 6 zx0) (zt1 : okA E G 6 zx1) {rr : Im} (hf : m6_copyFrom fl G.2.2 X I zx0 zx1 = some rr) : MT l yX6_copyFrom cX6_copyFrom 3 none ({ frames := 1, cells := 0, slots := 0, locals := 21 } : Room) E G I X [.ref zx0, .ref zx1] (QV E G rr X) 0 0 := by
  refine Met.ofW (cc := cX6_copyFrom) (maxL := 3) (ret := none) (by decide +kernel) rfl ?_
  intro p e s m args below meth c s₁ B hml hv
  obtain ⟨rfl, hw0, hSE⟩ := hv
  have C0 : CX p s m ([.ref zx0, .ref zx1] : List Value).toArray meth c E cX6_copyFrom RX6 3 := ⟨B.exec, B.bytes, hml, findClass_of_methodNamed B.named, fun w hw => atoms_spec (ws := WS yX6_copyFrom cX6_copyFrom 3 none) B.pre w (List.mem_cons_of_mem _ hw), B.notSynchronized, hSE⟩
  have hz : s.heap.size + 0 ≤ eB E + G.1 := Nat.le_of_eq hw0.2.1
  have hw : WD E G I X s.heap s.heap [] := ⟨hw0, va_S.rf⟩
  have hr := B.returns
  have hx := C0.1; have hb := C0.2.1; have hml := C0.2.2.1; have hown := C0.2.2.2.1; have hts := C0.2.2.2.2.1
  have hl := lv_entry ([.ref zx0, .ref zx1]) (n := 3) (Nat.le_of_ble_eq_true rfl)
  rw [lg_entry_eq]
  generalize (lg_sl ([.ref zx0, .ref zx1]) ++ List.replicate (3 - (lg_sl ([.ref zx0, .ref zx1])).length) Slot.unset).toArray = ls at hl ⊢
  have hl : lv_has ls 3 [(0, .ref zx0), (1, .ref zx1)] := hl
  unfold m6_copyFrom at hf
  refine lv_aload_n hx hb dX6_copyFrom_0 rfl (lv_at hl 0 rfl) ?_
  refine lv_aload_n hx hb dX6_copyFrom_1 rfl (lv_at hl 1 rfl) ?_
  refine xg_6_1 C0 hw zt1 wd322 dX6_copyFrom_2 ?_
  obtain ⟨zI1, ezI1⟩ : ∃ y : Im, y = pF I 97 zx0 (gF I 97 zx1) := ⟨_, rfl⟩
  have hf := lt_at hf ezI1
  refine xp_6_1 C0 hz hw zt0 rfl rfl wd322 dX6_copyFrom_5 ezI1 (fun H locs hw => ?_)
  refine lv_aload_n hx hb dX6_copyFrom_8 rfl (lv_at hl 0 rfl) ?_
  refine lv_aload_n hx hb dX6_copyFrom_9 rfl (lv_at hl 1 rfl) ?_
  refine xg_6_2 C0 hw zt1 wd323 dX6_copyFrom_10 ?_
  obtain ⟨zI2, ezI2⟩ : ∃ y : Im, y = pF zI1 98 zx0 (gF zI1 98 zx1) := ⟨_, rfl⟩
  have hf := lt_at hf ezI2
  refine xp_6_2 C0 hz hw zt0 rfl rfl wd323 dX6_copyFrom_13 ezI2 (fun H locs hw => ?_)
  refine lv_iconst (v := (0 : Int32)) hx hb dX6_copyFrom_16 (by decide) ?_
  refine lv_istore_n (lv' := [(2, .int (0 : Int32)), (0, .ref zx0), (1, .ref zx1)]) hx hb dX6_copyFrom_17 rfl hl (by decide) rfl (fun ls hl => ?_)
  exact w6_copyFrom_18 C0 hr hz fl fl zI2 _ _ _ zx0 zx1 (0 : Int32) zt0 zt1 hw (lv_sub hl [1, 2, 0] rfl) hf
noncomputable def m7_copyFrom (fl : Nat) (len : Nat → Nat) (X : Xm) (I : Im) (zx0 : Nat) (zx1 : Nat) : Option (Im) :=
  lt (pF I 112 zx0 (gF I 112 zx1)) fun zI1 =>
  lt (pF zI1 113 zx0 (gF zI1 113 zx1)) fun zI2 =>
  lt (pF zI2 114 zx0 (gF zI2 114 zx1)) fun zI3 =>
  lt (pF zI3 115 zx0 (gF zI3 115 zx1)) fun zI4 =>
  some (zI4)
theorem hy7_copyFrom : yX7_copyFrom.cls = RX7 ∧ yX7_copyFrom.cls ≠ "java/lang/invoke/MethodHandle" ∧ yX7_copyFrom.cls ≠ "java/lang/invoke/VarHandle" ∧ (parseMethodDescriptor yX7_copyFrom.desc).map (fun d => d.parameters.length) = some 1 := ⟨rfl, by decide +kernel, by decide +kernel, by decide +kernel⟩
set_option maxHeartbeats 4000000 in
set_option maxRecDepth 100000 in
theorem c7_copyFrom (l : Launch) (E : EN) (G : GM) (fl : Nat) (X : Xm) (I : Im) (zx0 : Nat) (zx1 : Nat) (zt0 : okA E G 7 zx0) (zt1 : okA E G 7 zx1) {rr : Im} (hf : m7_copyFrom fl G.2.2 X I zx0 zx1 = some rr) : MT l yX7_copyFrom cX7_copyFrom 2 none ({ frames := 0, cells := 0, slots := 0, locals := 0 } : Room) E G I X [.ref zx0, .ref zx1] (QV E G rr X) 0 0 := by
  refine Met.ofW (cc := cX7_copyFrom) (maxL := 2) (ret := none) (by decide +kernel) rfl ?_
  intro p e s m args below meth c s₁ B hml hv
  obtain ⟨rfl, hw0, hSE⟩ := hv
  have C0 : CX p s m ([.ref zx0, .ref zx1] : List Value).toArray meth c E cX7_copyFrom RX7 2 := ⟨B.exec, B.bytes, hml, findClass_of_methodNamed B.named, fun w hw => atoms_spec (ws := WS yX7_copyFrom cX7_copyFrom 2 none) B.pre w (List.mem_cons_of_mem _ hw), B.notSynchronized, hSE⟩
  have hz : s.heap.size + 0 ≤ eB E + G.1 := Nat.le_of_eq hw0.2.1
  have hw : WD E G I X s.heap s.heap [] := ⟨hw0, va_S.rf⟩
  have hr := B.returns
  have hx := C0.1; have hb := C0.2.1; have hml := C0.2.2.1; have hown := C0.2.2.2.1; have hts := C0.2.2.2.2.1
  have hl := lv_entry ([.ref zx0, .ref zx1]) (n := 2) (Nat.le_of_ble_eq_true rfl)
  rw [lg_entry_eq]
  generalize (lg_sl ([.ref zx0, .ref zx1]) ++ List.replicate (2 - (lg_sl ([.ref zx0, .ref zx1])).length) Slot.unset).toArray = ls at hl ⊢
  have hl : lv_has ls 2 [(0, .ref zx0), (1, .ref zx1)] := hl
  unfold m7_copyFrom at hf
  refine lv_aload_n hx hb dX7_copyFrom_0 rfl (lv_at hl 0 rfl) ?_
  refine lv_aload_n hx hb dX7_copyFrom_1 rfl (lv_at hl 1 rfl) ?_
  refine xg_7_0 C0 hw zt1 wd327 dX7_copyFrom_2 ?_
  obtain ⟨zI1, ezI1⟩ : ∃ y : Im, y = pF I 112 zx0 (gF I 112 zx1) := ⟨_, rfl⟩
  have hf := lt_at hf ezI1
  refine xp_7_0 C0 hz hw zt0 rfl rfl wd327 dX7_copyFrom_5 ezI1 (fun H locs hw => ?_)
  refine lv_aload_n hx hb dX7_copyFrom_8 rfl (lv_at hl 0 rfl) ?_
  refine lv_aload_n hx hb dX7_copyFrom_9 rfl (lv_at hl 1 rfl) ?_
  refine xg_7_1 C0 hw zt1 wd328 dX7_copyFrom_10 ?_
  obtain ⟨zI2, ezI2⟩ : ∃ y : Im, y = pF zI1 113 zx0 (gF zI1 113 zx1) := ⟨_, rfl⟩
  have hf := lt_at hf ezI2
  refine xp_7_1 C0 hz hw zt0 rfl rfl wd328 dX7_copyFrom_13 ezI2 (fun H locs hw => ?_)
  refine lv_aload_n hx hb dX7_copyFrom_16 rfl (lv_at hl 0 rfl) ?_
  refine lv_aload_n hx hb dX7_copyFrom_17 rfl (lv_at hl 1 rfl) ?_
  refine xg_7_2 C0 hw zt1 wd329 dX7_copyFrom_18 ?_
  obtain ⟨zI3, ezI3⟩ : ∃ y : Im, y = pF zI2 114 zx0 (gF zI2 114 zx1) := ⟨_, rfl⟩
  have hf := lt_at hf ezI3
  refine xp_7_2 C0 hz hw zt0 rfl rfl wd329 dX7_copyFrom_21 ezI3 (fun H locs hw => ?_)
  refine lv_aload_n hx hb dX7_copyFrom_24 rfl (lv_at hl 0 rfl) ?_
  refine lv_aload_n hx hb dX7_copyFrom_25 rfl (lv_at hl 1 rfl) ?_
  refine xg_7_3 C0 hw zt1 wd330 dX7_copyFrom_26 ?_
  obtain ⟨zI4, ezI4⟩ : ∃ y : Im, y = pF zI3 115 zx0 (gF zI3 115 zx1) := ⟨_, rfl⟩
  have hf := lt_at hf ezI4
  refine xp_7_3 C0 hz hw zt0 rfl rfl wd330 dX7_copyFrom_29 ezI4 (fun H locs hw => ?_)
  obtain rfl := Option.some.inj hf
  exact x_vret C0 hr hw dX7_copyFrom_32
noncomputable def m5_copyFrom_72 (fl : Nat) (len : Nat → Nat) (X : Xm) (I : Im) : Option (Im) :=
  some (I)
set_option maxHeartbeats 4000000 in
set_option maxRecDepth 100000 in
theorem w5_copyFrom_72 {p : Program} {l : Launch} {e : Env} {s : State} {m : MethodId} {args : Array Value} {below : List Frame} {meth : Method} {c : Code} {E : EN} {G : GM} {X : Xm} (C0 : CX p s m args meth c E cX5_copyFrom RX5 3) (hr : meth.sig.returnType = none) (hz : s.heap.size + 0 ≤ eB E + G.1) {rr : Im} (fl : Nat) : ∀ (I : Im) (H : Heap) (locs : List Loc) (ls : Array Slot) , WD E G I X s.heap H locs → lv_has ls 3 [] → m5_copyFrom_72 fl G.2.2 X I = some rr → W p l e ({ frames := 1, cells := 0, slots := 0, locals := 21 } : Room) s m args below meth c H locs 0 0 (MQ below (QV E G rr X) args s 0 0 (eA E)) (F0 m 72 ls []) := by
  intro I H locs ls hw hl hf
  unfold m5_copyFrom_72 at hf
  have hx := C0.1; have hb := C0.2.1; have hml := C0.2.2.1; have hown := C0.2.2.2.1; have hts := C0.2.2.2.2.1
  obtain rfl := Option.some.inj hf
  exact x_vret C0 hr hw dX5_copyFrom_72
noncomputable def m5_copyFrom_34b (fl : Nat) (len : Nat → Nat) (X : Xm) (zr34 : Im → Nat → Nat → Int32 → Option (Im)) (I : Im) (zx0 : Nat) (zx1 : Nat) (zx2 : Int32) : Option (Im) :=
  if (gF I 81 zx0) ≤ zx2 then
    m5_copyFrom_72 fl len X I
  else
    nn (gR X 80 zx0) fun zv2 =>
    if (nI (len zv2)) ≤ zx2 then
      m5_copyFrom_72 fl len X I
    else
      ck (inb zx2 (len zv2) = true) <|
      nn (gQ X zv2 (zx2).toNatClampNeg) fun zv5 =>
      nn (gR X 80 zx1) fun zv6 =>
      ck (inb zx2 (len zv6) = true) <|
      nn (gQ X zv6 (zx2).toNatClampNeg) fun zv8 =>
      nn (m7_copyFrom fl len X I zv5 zv8) fun zI9 =>
      lt (zx2 + 1) fun zv11 =>
      zr34 zI9 zx0 zx1 zv11
noncomputable def m5_copyFrom_34 (fl : Nat) (len : Nat → Nat) (X : Xm) (n : Nat) : Im → Nat → Nat → Int32 → Option (Im) :=
  Nat.rec (fun _ _ _ _ => none) (fun _ r => m5_copyFrom_34b fl len X r) n
set_option maxHeartbeats 4000000 in
set_option maxRecDepth 100000 in
theorem w5_copyFrom_34b {p : Program} {l : Launch} {e : Env} {s : State} {m : MethodId} {args : Array Value} {below : List Frame} {meth : Method} {c : Code} {E : EN} {G : GM} {X : Xm} (C0 : CX p s m args meth c E cX5_copyFrom RX5 3) (hr : meth.sig.returnType = none) (hz : s.heap.size + 0 ≤ eB E + G.1) {rr : Im} (fl : Nat) (zr34 : Im → Nat → Nat → Int32 → Option (Im)) (zhr34 : ∀ (I : Im) (H : Heap) (locs : List Loc) (ls : Array Slot) (zx0 : Nat) (zx1 : Nat) (zx2 : Int32) (zt0 : okA E G 5 zx0) (zt1 : okA E G 5 zx1), WD E G I X s.heap H locs → lv_has ls 3 [(0, .ref zx0), (1, .ref zx1), (2, .int zx2)] → zr34 I zx0 zx1 zx2 = some rr → W p l e ({ frames := 1, cells := 0, slots := 0, locals := 21 } : Room) s m args below meth c H locs 0 0 (MQ below (QV E G rr X) args s 0 0 (eA E)) (F0 m 34 ls [])) : ∀ (I : Im) (H : Heap) (locs : List Loc) (ls : Array Slot) (zx0 : Nat) (zx1 : Nat) (zx2 : Int32) (zt0 : okA E G 5 zx0) (zt1 : okA E G 5 zx1), WD E G I X s.heap H locs → lv_has ls 3 [(0, .ref zx0), (1, .ref zx1), (2, .int zx2)] → m5_copyFrom_34b fl G.2.2 X zr34 I zx0 zx1 zx2 = some rr → W p l e ({ frames := 1, cells := 0, slots := 0, locals := 21 } : Room) s m args below meth c H locs 0 0 (MQ below (QV E G rr X) args s 0 0 (eA E)) (F0 m 34 ls []) := by
  intro I H locs ls zx0 zx1 zx2 zt0 zt1 hw hl hf
  unfold m5_copyFrom_34b at hf
  have hx := C0.1; have hb := C0.2.1; have hml := C0.2.2.1; have hown := C0.2.2.2.1; have hts := C0.2.2.2.2.1
  refine lv_iload_n hx hb dX5_copyFrom_34 rfl (lv_at hl 2 rfl) ?_
  refine lv_aload_n hx hb dX5_copyFrom_35 rfl (lv_at hl 0 rfl) ?_
  refine xg_5_1 C0 hw zt0 wd331 dX5_copyFrom_36 ?_
  refine lv_icmp_ge (tgt := 72) hx hb dX5_copyFrom_39 (by decide) (fun zc1 => ?_) (fun zc1 => ?_)
  · have hf := ite_t hf zc1
    exact w5_copyFrom_72 C0 hr hz fl I _ _ _ hw (lv_sub hl [] rfl) hf
  · have hf := ite_f hf zc1
    refine lv_iload_n hx hb dX5_copyFrom_42 rfl (lv_at hl 2 rfl) ?_
    refine lv_aload_n hx hb dX5_copyFrom_43 rfl (lv_at hl 0 rfl) ?_
    obtain ⟨zv2, ezv2, hf⟩ := nn_some hf
    have tzv2 : okA E G 17 zv2 := wt_r hw ezv2
    refine xg_5_0 C0 hw zt0 wd291 ezv2 dX5_copyFrom_44 ?_
    refine x_alen C0 hw 17 tzv2 (by decide) rfl dX5_copyFrom_47 ?_
    refine lv_icmp_ge (tgt := 72) hx hb dX5_copyFrom_48 (by decide) (fun zc3 => ?_) (fun zc3 => ?_)
    · have hf := ite_t hf zc3
      exact w5_copyFrom_72 C0 hr hz fl I _ _ _ hw (lv_sub hl [] rfl) hf
    · have hf := ite_f hf zc3
      refine lv_aload_n hx hb dX5_copyFrom_51 rfl (lv_at hl 0 rfl) ?_
      refine xg_5_0 C0 hw zt0 wd291 ezv2 dX5_copyFrom_52 ?_
      refine lv_iload_n hx hb dX5_copyFrom_55 rfl (lv_at hl 2 rfl) ?_
      obtain ⟨zhb4, hf⟩ := ck_some hf
      obtain ⟨zv5, ezv5, hf⟩ := nn_some hf
      have tzv5 : okA E G 7 zv5 := wt_q hw tzv2 ezv5
      refine x_qald C0 hw 17 tzv2 (by decide) rfl zhb4 ezv5 dX5_copyFrom_56 ?_
      refine lv_aload_n hx hb dX5_copyFrom_57 rfl (lv_at hl 1 rfl) ?_
      obtain ⟨zv6, ezv6, hf⟩ := nn_some hf
      have tzv6 : okA E G 17 zv6 := wt_r hw ezv6
      refine xg_5_0 C0 hw zt1 wd291 ezv6 dX5_copyFrom_58 ?_
      refine lv_iload_n hx hb dX5_copyFrom_61 rfl (lv_at hl 2 rfl) ?_
      obtain ⟨zhb7, hf⟩ := ck_some hf
      obtain ⟨zv8, ezv8, hf⟩ := nn_some hf
      have tzv8 : okA E G 7 zv8 := wt_q hw tzv6 ezv8
      refine x_qald C0 hw 17 tzv6 (by decide) rfl zhb7 ezv8 dX5_copyFrom_62 ?_
      obtain ⟨zI9, ze10, hf⟩ := nn_some hf
      refine x_cv (I1 := zI9) (X1 := X) (x_runV (As := [.ref zv8]) (rest := []) C0 (c7_copyFrom l E G fl X I zv5 zv8 tzv5 tzv8 ze10) hw 7 tzv5 (by decide) rfl wd37 wd334 wd335 wd336 wd294 ⟨rfl, rfl⟩ hy7_copyFrom ⟨Nat.le_of_ble_eq_true rfl, Nat.le_of_ble_eq_true rfl⟩ rfl hl.1 (Nat.le_of_ble_eq_true rfl) ⟨Nat.zero_le _, Nat.zero_le _⟩ dX5_copyFrom_63) hw (fun H locs hw => ?_)
      obtain ⟨zv11, ezv11⟩ : ∃ y : Int32, y = zx2 + 1 := ⟨_, rfl⟩
      have hf := lt_at hf ezv11
      refine lv_iinc (v := zv11) (lv' := [(2, .int zv11), (0, .ref zx0), (1, .ref zx1)]) hx hb dX5_copyFrom_66 hl (k := 2) rfl (by rw [ezv11]; rfl) (by decide) rfl (fun ls hl => ?_)
      refine lv_goto (tgt := 34) hx hb dX5_copyFrom_69 (by decide) ?_
      exact zhr34 zI9 _ _ _ zx0 zx1 zv11 zt0 zt1 hw (lv_sub hl [1, 2, 0] rfl) hf
theorem w5_copyFrom_34 {p : Program} {l : Launch} {e : Env} {s : State} {m : MethodId} {args : Array Value} {below : List Frame} {meth : Method} {c : Code} {E : EN} {G : GM} {X : Xm} (C0 : CX p s m args meth c E cX5_copyFrom RX5 3) (hr : meth.sig.returnType = none) (hz : s.heap.size + 0 ≤ eB E + G.1) {rr : Im} (fl : Nat) : ∀ (n : Nat) (I : Im) (H : Heap) (locs : List Loc) (ls : Array Slot) (zx0 : Nat) (zx1 : Nat) (zx2 : Int32) (zt0 : okA E G 5 zx0) (zt1 : okA E G 5 zx1), WD E G I X s.heap H locs → lv_has ls 3 [(0, .ref zx0), (1, .ref zx1), (2, .int zx2)] → m5_copyFrom_34 fl G.2.2 X n I zx0 zx1 zx2 = some rr → W p l e ({ frames := 1, cells := 0, slots := 0, locals := 21 } : Room) s m args below meth c H locs 0 0 (MQ below (QV E G rr X) args s 0 0 (eA E)) (F0 m 34 ls []) := by
  intro n
  induction n with
  | zero => intro I H locs ls zx0 zx1 zx2 zt0 zt1 hw hl hf; exact absurd (show (none : Option (Im)) = some rr from hf) (by simp)
  | succ n ih => intro I H locs ls zx0 zx1 zx2 zt0 zt1 hw hl hf; exact w5_copyFrom_34b C0 hr hz fl _ ih I H locs ls zx0 zx1 zx2 zt0 zt1 hw hl hf
noncomputable def m5_copyFrom (fl : Nat) (len : Nat → Nat) (X : Xm) (I : Im) (zx0 : Nat) (zx1 : Nat) : Option (Im) :=
  lt (pF I 81 zx0 (gF I 81 zx1)) fun zI1 =>
  lt (pF zI1 82 zx0 (gF zI1 82 zx1)) fun zI2 =>
  lt (pF zI2 83 zx0 (gF zI2 83 zx1)) fun zI3 =>
  lt (pF zI3 84 zx0 (gF zI3 84 zx1)) fun zI4 =>
  m5_copyFrom_34 fl len X fl zI4 zx0 zx1 (0 : Int32)
theorem hy5_copyFrom : yX5_copyFrom.cls = RX5 ∧ yX5_copyFrom.cls ≠ "java/lang/invoke/MethodHandle" ∧ yX5_copyFrom.cls ≠ "java/lang/invoke/VarHandle" ∧ (parseMethodDescriptor yX5_copyFrom.desc).map (fun d => d.parameters.length) = some 1 := ⟨rfl, by decide +kernel, by decide +kernel, by decide +kernel⟩
set_option maxHeartbeats 4000000 in
set_option maxRecDepth 100000 in
theorem c5_copyFrom (l : Launch) (E : EN) (G : GM) (fl : Nat) (X : Xm) (I : Im) (zx0 : Nat) (zx1 : Nat) (zt0 : okA E G 5 zx0) (zt1 : okA E G 5 zx1) {rr : Im} (hf : m5_copyFrom fl G.2.2 X I zx0 zx1 = some rr) : MT l yX5_copyFrom cX5_copyFrom 3 none ({ frames := 1, cells := 0, slots := 0, locals := 21 } : Room) E G I X [.ref zx0, .ref zx1] (QV E G rr X) 0 0 := by
  refine Met.ofW (cc := cX5_copyFrom) (maxL := 3) (ret := none) (by decide +kernel) rfl ?_
  intro p e s m args below meth c s₁ B hml hv
  obtain ⟨rfl, hw0, hSE⟩ := hv
  have C0 : CX p s m ([.ref zx0, .ref zx1] : List Value).toArray meth c E cX5_copyFrom RX5 3 := ⟨B.exec, B.bytes, hml, findClass_of_methodNamed B.named, fun w hw => atoms_spec (ws := WS yX5_copyFrom cX5_copyFrom 3 none) B.pre w (List.mem_cons_of_mem _ hw), B.notSynchronized, hSE⟩
  have hz : s.heap.size + 0 ≤ eB E + G.1 := Nat.le_of_eq hw0.2.1
  have hw : WD E G I X s.heap s.heap [] := ⟨hw0, va_S.rf⟩
  have hr := B.returns
  have hx := C0.1; have hb := C0.2.1; have hml := C0.2.2.1; have hown := C0.2.2.2.1; have hts := C0.2.2.2.2.1
  have hl := lv_entry ([.ref zx0, .ref zx1]) (n := 3) (Nat.le_of_ble_eq_true rfl)
  rw [lg_entry_eq]
  generalize (lg_sl ([.ref zx0, .ref zx1]) ++ List.replicate (3 - (lg_sl ([.ref zx0, .ref zx1])).length) Slot.unset).toArray = ls at hl ⊢
  have hl : lv_has ls 3 [(0, .ref zx0), (1, .ref zx1)] := hl
  unfold m5_copyFrom at hf
  refine lv_aload_n hx hb dX5_copyFrom_0 rfl (lv_at hl 0 rfl) ?_
  refine lv_aload_n hx hb dX5_copyFrom_1 rfl (lv_at hl 1 rfl) ?_
  refine xg_5_1 C0 hw zt1 wd331 dX5_copyFrom_2 ?_
  obtain ⟨zI1, ezI1⟩ : ∃ y : Im, y = pF I 81 zx0 (gF I 81 zx1) := ⟨_, rfl⟩
  have hf := lt_at hf ezI1
  refine xp_5_1 C0 hz hw zt0 rfl rfl wd331 dX5_copyFrom_5 ezI1 (fun H locs hw => ?_)
  refine lv_aload_n hx hb dX5_copyFrom_8 rfl (lv_at hl 0 rfl) ?_
  refine lv_aload_n hx hb dX5_copyFrom_9 rfl (lv_at hl 1 rfl) ?_
  refine xg_5_2 C0 hw zt1 wd332 dX5_copyFrom_10 ?_
  obtain ⟨zI2, ezI2⟩ : ∃ y : Im, y = pF zI1 82 zx0 (gF zI1 82 zx1) := ⟨_, rfl⟩
  have hf := lt_at hf ezI2
  refine xp_5_2 C0 hz hw zt0 rfl rfl wd332 dX5_copyFrom_13 ezI2 (fun H locs hw => ?_)
  refine lv_aload_n hx hb dX5_copyFrom_16 rfl (lv_at hl 0 rfl) ?_
  refine lv_aload_n hx hb dX5_copyFrom_17 rfl (lv_at hl 1 rfl) ?_
  refine xg_5_3 C0 hw zt1 wd292 dX5_copyFrom_18 ?_
  obtain ⟨zI3, ezI3⟩ : ∃ y : Im, y = pF zI2 83 zx0 (gF zI2 83 zx1) := ⟨_, rfl⟩
  have hf := lt_at hf ezI3
  refine xp_5_3 C0 hz hw zt0 rfl rfl wd292 dX5_copyFrom_21 ezI3 (fun H locs hw => ?_)
  refine lv_aload_n hx hb dX5_copyFrom_24 rfl (lv_at hl 0 rfl) ?_
  refine lv_aload_n hx hb dX5_copyFrom_25 rfl (lv_at hl 1 rfl) ?_
  refine xg_5_4 C0 hw zt1 wd333 dX5_copyFrom_26 ?_
  obtain ⟨zI4, ezI4⟩ : ∃ y : Im, y = pF zI3 84 zx0 (gF zI3 84 zx1) := ⟨_, rfl⟩
  have hf := lt_at hf ezI4
  refine xp_5_4 C0 hz hw zt0 rfl rfl wd333 dX5_copyFrom_29 ezI4 (fun H locs hw => ?_)
  refine lv_iconst (v := (0 : Int32)) hx hb dX5_copyFrom_32 (by decide) ?_
  refine lv_istore_n (lv' := [(2, .int (0 : Int32)), (0, .ref zx0), (1, .ref zx1)]) hx hb dX5_copyFrom_33 rfl hl (by decide) rfl (fun ls hl => ?_)
  exact w5_copyFrom_34 C0 hr hz fl fl zI4 _ _ _ zx0 zx1 (0 : Int32) zt0 zt1 hw (lv_sub hl [1, 2, 0] rfl) hf
