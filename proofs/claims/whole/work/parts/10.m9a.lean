noncomputable def m9_in_15 (fl : Nat) (len : Nat → Nat) (X : Xm) (I : Im) (zs0 : Int32) : Option (Int32) :=
  ck (isbl zs0 = true) <|
  some (zs0)
set_option maxHeartbeats 4000000 in
set_option maxRecDepth 100000 in
theorem w9_in_15 {p : Program} {l : Launch} {e : Env} {s : State} {m : MethodId} {args : Array Value} {below : List Frame} {meth : Method} {c : Code} {E : EN} {G : GM} {X : Xm} {I : Im} (C0 : CX p s m args meth c E cX9_in RX9 3) (hr : meth.sig.returnType = (some .boolean)) (hz : s.heap.size + 0 ≤ eB E + G.1) {rr : Int32} (fl : Nat) : ∀ (H : Heap) (locs : List Loc) (ls : Array Slot) (zs0 : Int32) , WD E G I X s.heap H locs → lv_has ls 3 [] → m9_in_15 fl G.2.2 X I zs0 = some rr → W p l e ({ frames := 0, cells := 0, slots := 0, locals := 0 } : Room) s m args below meth c H locs 0 0 (MQ below (QI E G rr I X) args s 0 0 (eA E)) (F0 m 15 ls [.int zs0]) := by
  intro H locs ls zs0 hw hl hf
  unfold m9_in_15 at hf
  have hx := C0.1; have hb := C0.2.1; have hml := C0.2.2.1; have hown := C0.2.2.2.1; have hts := C0.2.2.2.2.1
  obtain ⟨zhn1, hf⟩ := ck_some hf
  obtain rfl := Option.some.inj hf
  exact x_zret C0 hr (isbl_nar zhn1) hw dX9_in_15
noncomputable def m9_in_14 (fl : Nat) (len : Nat → Nat) (X : Xm) (I : Im) : Option (Int32) :=
  m9_in_15 fl len X I (0 : Int32)
set_option maxHeartbeats 4000000 in
set_option maxRecDepth 100000 in
theorem w9_in_14 {p : Program} {l : Launch} {e : Env} {s : State} {m : MethodId} {args : Array Value} {below : List Frame} {meth : Method} {c : Code} {E : EN} {G : GM} {X : Xm} {I : Im} (C0 : CX p s m args meth c E cX9_in RX9 3) (hr : meth.sig.returnType = (some .boolean)) (hz : s.heap.size + 0 ≤ eB E + G.1) {rr : Int32} (fl : Nat) : ∀ (H : Heap) (locs : List Loc) (ls : Array Slot) , WD E G I X s.heap H locs → lv_has ls 3 [] → m9_in_14 fl G.2.2 X I = some rr → W p l e ({ frames := 0, cells := 0, slots := 0, locals := 0 } : Room) s m args below meth c H locs 0 0 (MQ below (QI E G rr I X) args s 0 0 (eA E)) (F0 m 14 ls []) := by
  intro H locs ls hw hl hf
  unfold m9_in_14 at hf
  have hx := C0.1; have hb := C0.2.1; have hml := C0.2.2.1; have hown := C0.2.2.2.1; have hts := C0.2.2.2.2.1
  refine lv_iconst (v := (0 : Int32)) hx hb dX9_in_14 (by decide) ?_
  exact w9_in_15 C0 hr hz fl _ _ _ (0 : Int32) hw (lv_sub hl [] rfl) hf
noncomputable def m9_in (fl : Nat) (len : Nat → Nat) (X : Xm) (I : Im) (zx0 : Int32) (zx1 : Int32) (zx2 : Int32) : Option (Int32) :=
  if zx0 < zx1 then
    m9_in_14 fl len X I 
  else
    if zx2 < zx0 then
      m9_in_14 fl len X I 
    else
      m9_in_15 fl len X I (1 : Int32)
theorem hy9_in : yX9_in.cls = RX9 ∧ yX9_in.cls ≠ "java/lang/invoke/MethodHandle" ∧ yX9_in.cls ≠ "java/lang/invoke/VarHandle" ∧ (parseMethodDescriptor yX9_in.desc).map (fun d => d.parameters.length) = some 3 := ⟨rfl, by decide +kernel, by decide +kernel, by decide +kernel⟩
set_option maxHeartbeats 4000000 in
set_option maxRecDepth 100000 in
theorem c9_in (l : Launch) (E : EN) (G : GM) (fl : Nat) (X : Xm) (I : Im) (zx0 : Int32) (zx1 : Int32) (zx2 : Int32) {rr : Int32} (hf : m9_in fl G.2.2 X I zx0 zx1 zx2 = some rr) : MT l yX9_in cX9_in 3 (some .boolean) ({ frames := 0, cells := 0, slots := 0, locals := 0 } : Room) E G I X [.int zx0, .int zx1, .int zx2] (QI E G rr I X) 0 0 := by
  refine Met.ofW (cc := cX9_in) (maxL := 3) (ret := (some .boolean)) (by decide +kernel) rfl ?_
  intro p e s m args below meth c s₁ B hml hv
  obtain ⟨rfl, hw0, hSE⟩ := hv
  have C0 : CX p s m ([.int zx0, .int zx1, .int zx2] : List Value).toArray meth c E cX9_in RX9 3 := ⟨B.exec, B.bytes, hml, findClass_of_methodNamed B.named, fun w hw => atoms_spec (ws := WS yX9_in cX9_in 3 (some .boolean)) B.pre w (List.mem_cons_of_mem _ hw), B.notSynchronized, hSE⟩
  have hz : s.heap.size + 0 ≤ eB E + G.1 := Nat.le_of_eq hw0.2.1
  have hw : WD E G I X s.heap s.heap [] := ⟨hw0, va_S.rf⟩
  have hr := B.returns
  have hx := C0.1; have hb := C0.2.1; have hml := C0.2.2.1; have hown := C0.2.2.2.1; have hts := C0.2.2.2.2.1
  have hl := lv_entry ([.int zx0, .int zx1, .int zx2]) (n := 3) (Nat.le_of_ble_eq_true rfl)
  rw [lg_entry_eq]
  generalize (lg_sl ([.int zx0, .int zx1, .int zx2]) ++ List.replicate (3 - (lg_sl ([.int zx0, .int zx1, .int zx2])).length) Slot.unset).toArray = ls at hl ⊢
  have hl : lv_has ls 3 [(0, .int zx0), (1, .int zx1), (2, .int zx2)] := hl
  unfold m9_in at hf
  refine lv_iload_n hx hb dX9_in_0 rfl (lv_at hl 0 rfl) ?_
  refine lv_iload_n hx hb dX9_in_1 rfl (lv_at hl 1 rfl) ?_
  refine lv_icmp_lt (tgt := 14) hx hb dX9_in_2 (by decide) (fun zc1 => ?_) (fun zc1 => ?_)
  · have hf := ite_t hf zc1
    exact w9_in_14 C0 hr hz fl _ _ _ hw (lv_sub hl [] rfl) hf
  · have hf := ite_f hf zc1
    refine lv_iload_n hx hb dX9_in_5 rfl (lv_at hl 0 rfl) ?_
    refine lv_iload_n hx hb dX9_in_6 rfl (lv_at hl 2 rfl) ?_
    refine lv_icmp_gt (tgt := 14) hx hb dX9_in_7 (by decide) (fun zc2 => ?_) (fun zc2 => ?_)
    · have hf := ite_t hf zc2
      exact w9_in_14 C0 hr hz fl _ _ _ hw (lv_sub hl [] rfl) hf
    · have hf := ite_f hf zc2
      refine lv_iconst (v := (1 : Int32)) hx hb dX9_in_10 (by decide) ?_
      refine lv_goto (tgt := 15) hx hb dX9_in_11 (by decide) ?_
      exact w9_in_15 C0 hr hz fl _ _ _ (1 : Int32) hw (lv_sub hl [] rfl) hf
noncomputable def m9_changes_60b (fl : Nat) (len : Nat → Nat) (X : Xm) (zr60 : Im → Nat → Int32 → Option (Im)) (I : Im) (zx0 : Nat) (zx1 : Int32) : Option (Im) :=
  if (1620 : Int32) ≤ zx1 then
    lt (pF I 149 zx0 ((gF I 149 zx0) + (1 : Int32))) fun zI2 =>
    some (zI2)
  else
    nn (gR X 145 zx0) fun zv3 =>
    nn (gR X 144 zx0) fun zv4 =>
    ck (inb zx1 (len zv4) = true) <|
    ck (inb (((1620 : Int32) * (gF I 149 zx0)) + zx1) (len zv3) = true) <|
    lt (pA I zv3 ((((1620 : Int32) * (gF I 149 zx0)) + zx1)).toNatClampNeg (gA I zv4 (zx1).toNatClampNeg)) fun zI7 =>
    lt (zx1 + 1) fun zv8 =>
    zr60 zI7 zx0 zv8
noncomputable def m9_changes_60 (fl : Nat) (len : Nat → Nat) (X : Xm) (n : Nat) : Im → Nat → Int32 → Option (Im) :=
  Nat.rec (fun _ _ _ => none) (fun _ r => m9_changes_60b fl len X r) n
set_option maxHeartbeats 4000000 in
set_option maxRecDepth 100000 in
theorem w9_changes_60b {p : Program} {l : Launch} {e : Env} {s : State} {m : MethodId} {args : Array Value} {below : List Frame} {meth : Method} {c : Code} {E : EN} {G : GM} {X : Xm} (C0 : CX p s m args meth c E cX9_changes RX9 2) (hr : meth.sig.returnType = none) (hz : s.heap.size + 0 ≤ eB E + G.1) {rr : Im} (fl : Nat) (zr60 : Im → Nat → Int32 → Option (Im)) (zhr60 : ∀ (I : Im) (H : Heap) (locs : List Loc) (ls : Array Slot) (zx0 : Nat) (zx1 : Int32) (zt0 : okA E G 9 zx0), WD E G I X s.heap H locs → lv_has ls 2 [(0, .ref zx0), (1, .int zx1)] → zr60 I zx0 zx1 = some rr → W p l e ({ frames := 0, cells := 0, slots := 0, locals := 0 } : Room) s m args below meth c H locs 0 0 (MQ below (QV E G rr X) args s 0 0 (eA E)) (F0 m 60 ls [])) : ∀ (I : Im) (H : Heap) (locs : List Loc) (ls : Array Slot) (zx0 : Nat) (zx1 : Int32) (zt0 : okA E G 9 zx0), WD E G I X s.heap H locs → lv_has ls 2 [(0, .ref zx0), (1, .int zx1)] → m9_changes_60b fl G.2.2 X zr60 I zx0 zx1 = some rr → W p l e ({ frames := 0, cells := 0, slots := 0, locals := 0 } : Room) s m args below meth c H locs 0 0 (MQ below (QV E G rr X) args s 0 0 (eA E)) (F0 m 60 ls []) := by
  intro I H locs ls zx0 zx1 zt0 hw hl hf
  unfold m9_changes_60b at hf
  have hx := C0.1; have hb := C0.2.1; have hml := C0.2.2.1; have hown := C0.2.2.2.1; have hts := C0.2.2.2.2.1
  refine lv_iload_n hx hb dX9_changes_60 rfl (lv_at hl 1 rfl) ?_
  refine lv_sipush (v := (1620 : Int32)) hx hb dX9_changes_61 (by decide) ?_
  refine lv_icmp_ge (tgt := 94) hx hb dX9_changes_64 (by decide) (fun zc1 => ?_) (fun zc1 => ?_)
  · have hf := ite_t hf zc1
    refine lv_aload_n hx hb dX9_changes_94 rfl (lv_at hl 0 rfl) ?_
    refine lv_dup hx hb dX9_changes_95 rfl ?_
    refine xg_9_5 C0 hw zt0 wd609 dX9_changes_96 ?_
    refine lv_iconst (v := (1 : Int32)) hx hb dX9_changes_99 (by decide) ?_
    refine lv_iadd hx hb dX9_changes_100 ?_
    obtain ⟨zI2, ezI2⟩ : ∃ y : Im, y = pF I 149 zx0 ((gF I 149 zx0) + (1 : Int32)) := ⟨_, rfl⟩
    have hf := lt_at hf ezI2
    refine xp_9_5 C0 hz hw zt0 rfl rfl wd609 dX9_changes_101 ezI2 (fun H locs hw => ?_)
    obtain rfl := Option.some.inj hf
    exact x_vret C0 hr hw dX9_changes_104
  · have hf := ite_f hf zc1
    refine lv_aload_n hx hb dX9_changes_67 rfl (lv_at hl 0 rfl) ?_
    obtain ⟨zv3, ezv3, hf⟩ := nn_some hf
    have tzv3 : okA E G 11 zv3 := wt_r hw ezv3
    refine xg_9_1 C0 hw zt0 wd602 ezv3 dX9_changes_68 ?_
    refine lv_sipush (v := (1620 : Int32)) hx hb dX9_changes_71 (by decide) ?_
    refine lv_aload_n hx hb dX9_changes_74 rfl (lv_at hl 0 rfl) ?_
    refine xg_9_5 C0 hw zt0 wd609 dX9_changes_75 ?_
    refine lv_imul hx hb dX9_changes_78 ?_
    refine lv_iload_n hx hb dX9_changes_79 rfl (lv_at hl 1 rfl) ?_
    refine lv_iadd hx hb dX9_changes_80 ?_
    refine lv_aload_n hx hb dX9_changes_81 rfl (lv_at hl 0 rfl) ?_
    obtain ⟨zv4, ezv4, hf⟩ := nn_some hf
    have tzv4 : okA E G 11 zv4 := wt_r hw ezv4
    refine xg_9_0 C0 hw zt0 wd601 ezv4 dX9_changes_82 ?_
    refine lv_iload_n hx hb dX9_changes_85 rfl (lv_at hl 1 rfl) ?_
    obtain ⟨zhb5, hf⟩ := ck_some hf
    refine x_iald C0 hw tzv4 zhb5 dX9_changes_86 ?_
    obtain ⟨zhb6, hf⟩ := ck_some hf
    obtain ⟨zI7, ezI7⟩ : ∃ y : Im, y = pA I zv3 ((((1620 : Int32) * (gF I 149 zx0)) + zx1)).toNatClampNeg (gA I zv4 (zx1).toNatClampNeg) := ⟨_, rfl⟩
    have hf := lt_at hf ezI7
    refine x_iast C0 hz hw tzv3 zhb6 dX9_changes_87 ezI7 (fun H locs hw => ?_)
    obtain ⟨zv8, ezv8⟩ : ∃ y : Int32, y = zx1 + 1 := ⟨_, rfl⟩
    have hf := lt_at hf ezv8
    refine lv_iinc (v := zv8) (lv' := [(1, .int zv8), (0, .ref zx0)]) hx hb dX9_changes_88 hl (k := 1) rfl (by rw [ezv8]; rfl) (by decide) rfl (fun ls hl => ?_)
    refine lv_goto (tgt := 60) hx hb dX9_changes_91 (by decide) ?_
    exact zhr60 zI7 _ _ _ zx0 zv8 zt0 hw (lv_sub hl [1, 0] rfl) hf
theorem w9_changes_60 {p : Program} {l : Launch} {e : Env} {s : State} {m : MethodId} {args : Array Value} {below : List Frame} {meth : Method} {c : Code} {E : EN} {G : GM} {X : Xm} (C0 : CX p s m args meth c E cX9_changes RX9 2) (hr : meth.sig.returnType = none) (hz : s.heap.size + 0 ≤ eB E + G.1) {rr : Im} (fl : Nat) : ∀ (n : Nat) (I : Im) (H : Heap) (locs : List Loc) (ls : Array Slot) (zx0 : Nat) (zx1 : Int32) (zt0 : okA E G 9 zx0), WD E G I X s.heap H locs → lv_has ls 2 [(0, .ref zx0), (1, .int zx1)] → m9_changes_60 fl G.2.2 X n I zx0 zx1 = some rr → W p l e ({ frames := 0, cells := 0, slots := 0, locals := 0 } : Room) s m args below meth c H locs 0 0 (MQ below (QV E G rr X) args s 0 0 (eA E)) (F0 m 60 ls []) := by
  intro n
  induction n with
  | zero => intro I H locs ls zx0 zx1 zt0 hw hl hf; exact absurd (show (none : Option (Im)) = some rr from hf) (by simp)
  | succ n ih => intro I H locs ls zx0 zx1 zt0 hw hl hf; exact w9_changes_60b C0 hr hz fl _ ih I H locs ls zx0 zx1 zt0 hw hl hf
noncomputable def m9_changes_58 (fl : Nat) (len : Nat → Nat) (X : Xm) (I : Im) (zx0 : Nat) : Option (Im) :=
  m9_changes_60 fl len X fl I zx0 (0 : Int32)
set_option maxHeartbeats 4000000 in
set_option maxRecDepth 100000 in
theorem w9_changes_58 {p : Program} {l : Launch} {e : Env} {s : State} {m : MethodId} {args : Array Value} {below : List Frame} {meth : Method} {c : Code} {E : EN} {G : GM} {X : Xm} (C0 : CX p s m args meth c E cX9_changes RX9 2) (hr : meth.sig.returnType = none) (hz : s.heap.size + 0 ≤ eB E + G.1) {rr : Im} (fl : Nat) : ∀ (I : Im) (H : Heap) (locs : List Loc) (ls : Array Slot) (zx0 : Nat) (zt0 : okA E G 9 zx0), WD E G I X s.heap H locs → lv_has ls 2 [(0, .ref zx0)] → m9_changes_58 fl G.2.2 X I zx0 = some rr → W p l e ({ frames := 0, cells := 0, slots := 0, locals := 0 } : Room) s m args below meth c H locs 0 0 (MQ below (QV E G rr X) args s 0 0 (eA E)) (F0 m 58 ls []) := by
  intro I H locs ls zx0 zt0 hw hl hf
  unfold m9_changes_58 at hf
  have hx := C0.1; have hb := C0.2.1; have hml := C0.2.2.1; have hown := C0.2.2.2.1; have hts := C0.2.2.2.2.1
  refine lv_iconst (v := (0 : Int32)) hx hb dX9_changes_58 (by decide) ?_
  refine lv_istore_n (lv' := [(1, .int (0 : Int32)), (0, .ref zx0)]) hx hb dX9_changes_59 rfl hl (by decide) rfl (fun ls hl => ?_)
  exact w9_changes_60 C0 hr hz fl fl I _ _ _ zx0 (0 : Int32) zt0 hw (lv_sub hl [1, 0] rfl) hf
noncomputable def m9_changes_19b (fl : Nat) (len : Nat → Nat) (X : Xm) (zr19 : Im → Nat → Int32 → Option (Im)) (I : Im) (zx0 : Nat) (zx1 : Int32) : Option (Im) :=
  if (8100 : Int32) ≤ zx1 then
    lt (pF I 149 zx0 ((gF I 149 zx0) - (1 : Int32))) fun zI2 =>
    m9_changes_58 fl len X zI2 zx0
  else
    nn (gR X 145 zx0) fun zv3 =>
    ck (inb (zx1 + (1620 : Int32)) (len zv3) = true) <|
    ck (inb zx1 (len zv3) = true) <|
    lt (pA I zv3 (zx1).toNatClampNeg (gA I zv3 ((zx1 + (1620 : Int32))).toNatClampNeg)) fun zI6 =>
    lt (zx1 + 1) fun zv7 =>
    zr19 zI6 zx0 zv7
noncomputable def m9_changes_19 (fl : Nat) (len : Nat → Nat) (X : Xm) (n : Nat) : Im → Nat → Int32 → Option (Im) :=
  Nat.rec (fun _ _ _ => none) (fun _ r => m9_changes_19b fl len X r) n
set_option maxHeartbeats 4000000 in
set_option maxRecDepth 100000 in
theorem w9_changes_19b {p : Program} {l : Launch} {e : Env} {s : State} {m : MethodId} {args : Array Value} {below : List Frame} {meth : Method} {c : Code} {E : EN} {G : GM} {X : Xm} (C0 : CX p s m args meth c E cX9_changes RX9 2) (hr : meth.sig.returnType = none) (hz : s.heap.size + 0 ≤ eB E + G.1) {rr : Im} (fl : Nat) (zr19 : Im → Nat → Int32 → Option (Im)) (zhr19 : ∀ (I : Im) (H : Heap) (locs : List Loc) (ls : Array Slot) (zx0 : Nat) (zx1 : Int32) (zt0 : okA E G 9 zx0), WD E G I X s.heap H locs → lv_has ls 2 [(0, .ref zx0), (1, .int zx1)] → zr19 I zx0 zx1 = some rr → W p l e ({ frames := 0, cells := 0, slots := 0, locals := 0 } : Room) s m args below meth c H locs 0 0 (MQ below (QV E G rr X) args s 0 0 (eA E)) (F0 m 19 ls [])) : ∀ (I : Im) (H : Heap) (locs : List Loc) (ls : Array Slot) (zx0 : Nat) (zx1 : Int32) (zt0 : okA E G 9 zx0), WD E G I X s.heap H locs → lv_has ls 2 [(0, .ref zx0), (1, .int zx1)] → m9_changes_19b fl G.2.2 X zr19 I zx0 zx1 = some rr → W p l e ({ frames := 0, cells := 0, slots := 0, locals := 0 } : Room) s m args below meth c H locs 0 0 (MQ below (QV E G rr X) args s 0 0 (eA E)) (F0 m 19 ls []) := by
  intro I H locs ls zx0 zx1 zt0 hw hl hf
  unfold m9_changes_19b at hf
  have hx := C0.1; have hb := C0.2.1; have hml := C0.2.2.1; have hown := C0.2.2.2.1; have hts := C0.2.2.2.2.1
  refine lv_iload_n hx hb dX9_changes_19 rfl (lv_at hl 1 rfl) ?_
  refine lv_sipush (v := (8100 : Int32)) hx hb dX9_changes_20 (by decide) ?_
  refine lv_icmp_ge (tgt := 48) hx hb dX9_changes_23 (by decide) (fun zc1 => ?_) (fun zc1 => ?_)
  · have hf := ite_t hf zc1
    refine lv_aload_n hx hb dX9_changes_48 rfl (lv_at hl 0 rfl) ?_
    refine lv_dup hx hb dX9_changes_49 rfl ?_
    refine xg_9_5 C0 hw zt0 wd609 dX9_changes_50 ?_
    refine lv_iconst (v := (1 : Int32)) hx hb dX9_changes_53 (by decide) ?_
    refine lv_isub hx hb dX9_changes_54 ?_
    obtain ⟨zI2, ezI2⟩ : ∃ y : Im, y = pF I 149 zx0 ((gF I 149 zx0) - (1 : Int32)) := ⟨_, rfl⟩
    have hf := lt_at hf ezI2
    refine xp_9_5 C0 hz hw zt0 rfl rfl wd609 dX9_changes_55 ezI2 (fun H locs hw => ?_)
    exact w9_changes_58 C0 hr hz fl zI2 _ _ _ zx0 zt0 hw (lv_sub hl [0] rfl) hf
  · have hf := ite_f hf zc1
    refine lv_aload_n hx hb dX9_changes_26 rfl (lv_at hl 0 rfl) ?_
    obtain ⟨zv3, ezv3, hf⟩ := nn_some hf
    have tzv3 : okA E G 11 zv3 := wt_r hw ezv3
    refine xg_9_1 C0 hw zt0 wd602 ezv3 dX9_changes_27 ?_
    refine lv_iload_n hx hb dX9_changes_30 rfl (lv_at hl 1 rfl) ?_
    refine lv_aload_n hx hb dX9_changes_31 rfl (lv_at hl 0 rfl) ?_
    refine xg_9_1 C0 hw zt0 wd602 ezv3 dX9_changes_32 ?_
    refine lv_iload_n hx hb dX9_changes_35 rfl (lv_at hl 1 rfl) ?_
    refine lv_sipush (v := (1620 : Int32)) hx hb dX9_changes_36 (by decide) ?_
    refine lv_iadd hx hb dX9_changes_39 ?_
    obtain ⟨zhb4, hf⟩ := ck_some hf
    refine x_iald C0 hw tzv3 zhb4 dX9_changes_40 ?_
    obtain ⟨zhb5, hf⟩ := ck_some hf
    obtain ⟨zI6, ezI6⟩ : ∃ y : Im, y = pA I zv3 (zx1).toNatClampNeg (gA I zv3 ((zx1 + (1620 : Int32))).toNatClampNeg) := ⟨_, rfl⟩
    have hf := lt_at hf ezI6
    refine x_iast C0 hz hw tzv3 zhb5 dX9_changes_41 ezI6 (fun H locs hw => ?_)
    obtain ⟨zv7, ezv7⟩ : ∃ y : Int32, y = zx1 + 1 := ⟨_, rfl⟩
    have hf := lt_at hf ezv7
    refine lv_iinc (v := zv7) (lv' := [(1, .int zv7), (0, .ref zx0)]) hx hb dX9_changes_42 hl (k := 1) rfl (by rw [ezv7]; rfl) (by decide) rfl (fun ls hl => ?_)
    refine lv_goto (tgt := 19) hx hb dX9_changes_45 (by decide) ?_
    exact zhr19 zI6 _ _ _ zx0 zv7 zt0 hw (lv_sub hl [1, 0] rfl) hf
theorem w9_changes_19 {p : Program} {l : Launch} {e : Env} {s : State} {m : MethodId} {args : Array Value} {below : List Frame} {meth : Method} {c : Code} {E : EN} {G : GM} {X : Xm} (C0 : CX p s m args meth c E cX9_changes RX9 2) (hr : meth.sig.returnType = none) (hz : s.heap.size + 0 ≤ eB E + G.1) {rr : Im} (fl : Nat) : ∀ (n : Nat) (I : Im) (H : Heap) (locs : List Loc) (ls : Array Slot) (zx0 : Nat) (zx1 : Int32) (zt0 : okA E G 9 zx0), WD E G I X s.heap H locs → lv_has ls 2 [(0, .ref zx0), (1, .int zx1)] → m9_changes_19 fl G.2.2 X n I zx0 zx1 = some rr → W p l e ({ frames := 0, cells := 0, slots := 0, locals := 0 } : Room) s m args below meth c H locs 0 0 (MQ below (QV E G rr X) args s 0 0 (eA E)) (F0 m 19 ls []) := by
  intro n
  induction n with
  | zero => intro I H locs ls zx0 zx1 zt0 hw hl hf; exact absurd (show (none : Option (Im)) = some rr from hf) (by simp)
  | succ n ih => intro I H locs ls zx0 zx1 zt0 hw hl hf; exact w9_changes_19b C0 hr hz fl _ ih I H locs ls zx0 zx1 zt0 hw hl hf
noncomputable def m9_changes (fl : Nat) (len : Nat → Nat) (X : Xm) (I : Im) (zx0 : Nat) : Option (Im) :=
  if (gF I 150 zx0) = 0 then
    if (gF I 149 zx0) = (6 : Int32) then
      m9_changes_19 fl len X fl I zx0 (0 : Int32)
    else
      m9_changes_58 fl len X I zx0
  else
    some (I)
theorem hy9_changes : yX9_changes.cls = RX9 ∧ yX9_changes.cls ≠ "java/lang/invoke/MethodHandle" ∧ yX9_changes.cls ≠ "java/lang/invoke/VarHandle" ∧ (parseMethodDescriptor yX9_changes.desc).map (fun d => d.parameters.length) = some 0 := ⟨rfl, by decide +kernel, by decide +kernel, by decide +kernel⟩
set_option maxHeartbeats 4000000 in
set_option maxRecDepth 100000 in
theorem c9_changes (l : Launch) (E : EN) (G : GM) (fl : Nat) (X : Xm) (I : Im) (zx0 : Nat) (zt0 : okA E G 9 zx0) {rr : Im} (hf : m9_changes fl G.2.2 X I zx0 = some rr) : MT l yX9_changes cX9_changes 2 none ({ frames := 0, cells := 0, slots := 0, locals := 0 } : Room) E G I X [.ref zx0] (QV E G rr X) 0 0 := by
  refine Met.ofW (cc := cX9_changes) (maxL := 2) (ret := none) (by decide +kernel) rfl ?_
  intro p e s m args below meth c s₁ B hml hv
  obtain ⟨rfl, hw0, hSE⟩ := hv
  have C0 : CX p s m ([.ref zx0] : List Value).toArray meth c E cX9_changes RX9 2 := ⟨B.exec, B.bytes, hml, findClass_of_methodNamed B.named, fun w hw => atoms_spec (ws := WS yX9_changes cX9_changes 2 none) B.pre w (List.mem_cons_of_mem _ hw), B.notSynchronized, hSE⟩
  have hz : s.heap.size + 0 ≤ eB E + G.1 := Nat.le_of_eq hw0.2.1
  have hw : WD E G I X s.heap s.heap [] := ⟨hw0, va_S.rf⟩
  have hr := B.returns
  have hx := C0.1; have hb := C0.2.1; have hml := C0.2.2.1; have hown := C0.2.2.2.1; have hts := C0.2.2.2.2.1
  have hl := lv_entry ([.ref zx0]) (n := 2) (Nat.le_of_ble_eq_true rfl)
  rw [lg_entry_eq]
  generalize (lg_sl ([.ref zx0]) ++ List.replicate (2 - (lg_sl ([.ref zx0])).length) Slot.unset).toArray = ls at hl ⊢
  have hl : lv_has ls 2 [(0, .ref zx0)] := hl
  unfold m9_changes at hf
  refine lv_aload_n hx hb dX9_changes_0 rfl (lv_at hl 0 rfl) ?_
  refine xg_9_6 C0 hw zt0 wd608 dX9_changes_1 ?_
  refine lv_if_eq (tgt := 8) hx hb dX9_changes_4 (by decide) (fun zc1 => ?_) (fun zc1 => ?_)
  · have hf := ite_t hf zc1
    refine lv_aload_n hx hb dX9_changes_8 rfl (lv_at hl 0 rfl) ?_
    refine xg_9_5 C0 hw zt0 wd609 dX9_changes_9 ?_
    refine lv_bipush (v := (6 : Int32)) hx hb dX9_changes_12 (by decide) ?_
    refine lv_icmp_ne (tgt := 58) hx hb dX9_changes_14 (by decide) (fun zc2 => ?_) (fun zc2 => ?_)
    · have hf := ite_f hf zc2
      exact w9_changes_58 C0 hr hz fl I _ _ _ zx0 zt0 hw (lv_sub hl [0] rfl) hf
    · have hf := ite_t hf zc2
      refine lv_iconst (v := (0 : Int32)) hx hb dX9_changes_17 (by decide) ?_
      refine lv_istore_n (lv' := [(1, .int (0 : Int32)), (0, .ref zx0)]) hx hb dX9_changes_18 rfl hl (by decide) rfl (fun ls hl => ?_)
      exact w9_changes_19 C0 hr hz fl fl I _ _ _ zx0 (0 : Int32) zt0 hw (lv_sub hl [1, 0] rfl) hf
  · have hf := ite_f hf zc1
    obtain rfl := Option.some.inj hf
    exact x_vret C0 hr hw dX9_changes_7
noncomputable def m9_putsAside_2b (fl : Nat) (len : Nat → Nat) (X : Xm) (zr2 : Im → Nat → Int32 → Option (Im)) (I : Im) (zx0 : Nat) (zx1 : Int32) : Option (Im) :=
  if (1620 : Int32) ≤ zx1 then
    some (I)
  else
    nn (gR X 148 zx0) fun zv2 =>
    nn (gR X 144 zx0) fun zv3 =>
    ck (inb zx1 (len zv3) = true) <|
    ck (inb zx1 (len zv2) = true) <|
    lt (pA I zv2 (zx1).toNatClampNeg (gA I zv3 (zx1).toNatClampNeg)) fun zI6 =>
    lt (zx1 + 1) fun zv7 =>
    zr2 zI6 zx0 zv7
noncomputable def m9_putsAside_2 (fl : Nat) (len : Nat → Nat) (X : Xm) (n : Nat) : Im → Nat → Int32 → Option (Im) :=
  Nat.rec (fun _ _ _ => none) (fun _ r => m9_putsAside_2b fl len X r) n
set_option maxHeartbeats 4000000 in
set_option maxRecDepth 100000 in
theorem w9_putsAside_2b {p : Program} {l : Launch} {e : Env} {s : State} {m : MethodId} {args : Array Value} {below : List Frame} {meth : Method} {c : Code} {E : EN} {G : GM} {X : Xm} (C0 : CX p s m args meth c E cX9_putsAside RX9 2) (hr : meth.sig.returnType = none) (hz : s.heap.size + 0 ≤ eB E + G.1) {rr : Im} (fl : Nat) (zr2 : Im → Nat → Int32 → Option (Im)) (zhr2 : ∀ (I : Im) (H : Heap) (locs : List Loc) (ls : Array Slot) (zx0 : Nat) (zx1 : Int32) (zt0 : okA E G 9 zx0), WD E G I X s.heap H locs → lv_has ls 2 [(0, .ref zx0), (1, .int zx1)] → zr2 I zx0 zx1 = some rr → W p l e ({ frames := 0, cells := 0, slots := 0, locals := 0 } : Room) s m args below meth c H locs 0 0 (MQ below (QV E G rr X) args s 0 0 (eA E)) (F0 m 2 ls [])) : ∀ (I : Im) (H : Heap) (locs : List Loc) (ls : Array Slot) (zx0 : Nat) (zx1 : Int32) (zt0 : okA E G 9 zx0), WD E G I X s.heap H locs → lv_has ls 2 [(0, .ref zx0), (1, .int zx1)] → m9_putsAside_2b fl G.2.2 X zr2 I zx0 zx1 = some rr → W p l e ({ frames := 0, cells := 0, slots := 0, locals := 0 } : Room) s m args below meth c H locs 0 0 (MQ below (QV E G rr X) args s 0 0 (eA E)) (F0 m 2 ls []) := by
  intro I H locs ls zx0 zx1 zt0 hw hl hf
  unfold m9_putsAside_2b at hf
  have hx := C0.1; have hb := C0.2.1; have hml := C0.2.2.1; have hown := C0.2.2.2.1; have hts := C0.2.2.2.2.1
  refine lv_iload_n hx hb dX9_putsAside_2 rfl (lv_at hl 1 rfl) ?_
  refine lv_sipush (v := (1620 : Int32)) hx hb dX9_putsAside_3 (by decide) ?_
  refine lv_icmp_ge (tgt := 27) hx hb dX9_putsAside_6 (by decide) (fun zc1 => ?_) (fun zc1 => ?_)
  · have hf := ite_t hf zc1
    obtain rfl := Option.some.inj hf
    exact x_vret C0 hr hw dX9_putsAside_27
  · have hf := ite_f hf zc1
    refine lv_aload_n hx hb dX9_putsAside_9 rfl (lv_at hl 0 rfl) ?_
    obtain ⟨zv2, ezv2, hf⟩ := nn_some hf
    have tzv2 : okA E G 11 zv2 := wt_r hw ezv2
    refine xg_9_4 C0 hw zt0 wd605 ezv2 dX9_putsAside_10 ?_
    refine lv_iload_n hx hb dX9_putsAside_13 rfl (lv_at hl 1 rfl) ?_
    refine lv_aload_n hx hb dX9_putsAside_14 rfl (lv_at hl 0 rfl) ?_
    obtain ⟨zv3, ezv3, hf⟩ := nn_some hf
    have tzv3 : okA E G 11 zv3 := wt_r hw ezv3
    refine xg_9_0 C0 hw zt0 wd601 ezv3 dX9_putsAside_15 ?_
    refine lv_iload_n hx hb dX9_putsAside_18 rfl (lv_at hl 1 rfl) ?_
    obtain ⟨zhb4, hf⟩ := ck_some hf
    refine x_iald C0 hw tzv3 zhb4 dX9_putsAside_19 ?_
    obtain ⟨zhb5, hf⟩ := ck_some hf
    obtain ⟨zI6, ezI6⟩ : ∃ y : Im, y = pA I zv2 (zx1).toNatClampNeg (gA I zv3 (zx1).toNatClampNeg) := ⟨_, rfl⟩
    have hf := lt_at hf ezI6
    refine x_iast C0 hz hw tzv2 zhb5 dX9_putsAside_20 ezI6 (fun H locs hw => ?_)
    obtain ⟨zv7, ezv7⟩ : ∃ y : Int32, y = zx1 + 1 := ⟨_, rfl⟩
    have hf := lt_at hf ezv7
    refine lv_iinc (v := zv7) (lv' := [(1, .int zv7), (0, .ref zx0)]) hx hb dX9_putsAside_21 hl (k := 1) rfl (by rw [ezv7]; rfl) (by decide) rfl (fun ls hl => ?_)
    refine lv_goto (tgt := 2) hx hb dX9_putsAside_24 (by decide) ?_
    exact zhr2 zI6 _ _ _ zx0 zv7 zt0 hw (lv_sub hl [1, 0] rfl) hf
theorem w9_putsAside_2 {p : Program} {l : Launch} {e : Env} {s : State} {m : MethodId} {args : Array Value} {below : List Frame} {meth : Method} {c : Code} {E : EN} {G : GM} {X : Xm} (C0 : CX p s m args meth c E cX9_putsAside RX9 2) (hr : meth.sig.returnType = none) (hz : s.heap.size + 0 ≤ eB E + G.1) {rr : Im} (fl : Nat) : ∀ (n : Nat) (I : Im) (H : Heap) (locs : List Loc) (ls : Array Slot) (zx0 : Nat) (zx1 : Int32) (zt0 : okA E G 9 zx0), WD E G I X s.heap H locs → lv_has ls 2 [(0, .ref zx0), (1, .int zx1)] → m9_putsAside_2 fl G.2.2 X n I zx0 zx1 = some rr → W p l e ({ frames := 0, cells := 0, slots := 0, locals := 0 } : Room) s m args below meth c H locs 0 0 (MQ below (QV E G rr X) args s 0 0 (eA E)) (F0 m 2 ls []) := by
  intro n
  induction n with
  | zero => intro I H locs ls zx0 zx1 zt0 hw hl hf; exact absurd (show (none : Option (Im)) = some rr from hf) (by simp)
  | succ n ih => intro I H locs ls zx0 zx1 zt0 hw hl hf; exact w9_putsAside_2b C0 hr hz fl _ ih I H locs ls zx0 zx1 zt0 hw hl hf
noncomputable def m9_putsAside (fl : Nat) (len : Nat → Nat) (X : Xm) (I : Im) (zx0 : Nat) : Option (Im) :=
  m9_putsAside_2 fl len X fl I zx0 (0 : Int32)
theorem hy9_putsAside : yX9_putsAside.cls = RX9 ∧ yX9_putsAside.cls ≠ "java/lang/invoke/MethodHandle" ∧ yX9_putsAside.cls ≠ "java/lang/invoke/VarHandle" ∧ (parseMethodDescriptor yX9_putsAside.desc).map (fun d => d.parameters.length) = some 0 := ⟨rfl, by decide +kernel, by decide +kernel, by decide +kernel⟩
set_option maxHeartbeats 4000000 in
set_option maxRecDepth 100000 in
theorem c9_putsAside (l : Launch) (E : EN) (G : GM) (fl : Nat) (X : Xm) (I : Im) (zx0 : Nat) (zt0 : okA E G 9 zx0) {rr : Im} (hf : m9_putsAside fl G.2.2 X I zx0 = some rr) : MT l yX9_putsAside cX9_putsAside 2 none ({ frames := 0, cells := 0, slots := 0, locals := 0 } : Room) E G I X [.ref zx0] (QV E G rr X) 0 0 := by
  refine Met.ofW (cc := cX9_putsAside) (maxL := 2) (ret := none) (by decide +kernel) rfl ?_
  intro p e s m args below meth c s₁ B hml hv
  obtain ⟨rfl, hw0, hSE⟩ := hv
  have C0 : CX p s m ([.ref zx0] : List Value).toArray meth c E cX9_putsAside RX9 2 := ⟨B.exec, B.bytes, hml, findClass_of_methodNamed B.named, fun w hw => atoms_spec (ws := WS yX9_putsAside cX9_putsAside 2 none) B.pre w (List.mem_cons_of_mem _ hw), B.notSynchronized, hSE⟩
  have hz : s.heap.size + 0 ≤ eB E + G.1 := Nat.le_of_eq hw0.2.1
  have hw : WD E G I X s.heap s.heap [] := ⟨hw0, va_S.rf⟩
  have hr := B.returns
  have hx := C0.1; have hb := C0.2.1; have hml := C0.2.2.1; have hown := C0.2.2.2.1; have hts := C0.2.2.2.2.1
  have hl := lv_entry ([.ref zx0]) (n := 2) (Nat.le_of_ble_eq_true rfl)
  rw [lg_entry_eq]
  generalize (lg_sl ([.ref zx0]) ++ List.replicate (2 - (lg_sl ([.ref zx0])).length) Slot.unset).toArray = ls at hl ⊢
  have hl : lv_has ls 2 [(0, .ref zx0)] := hl
  unfold m9_putsAside at hf
  refine lv_iconst (v := (0 : Int32)) hx hb dX9_putsAside_0 (by decide) ?_
  refine lv_istore_n (lv' := [(1, .int (0 : Int32)), (0, .ref zx0)]) hx hb dX9_putsAside_1 rfl hl (by decide) rfl (fun ls hl => ?_)
  exact w9_putsAside_2 C0 hr hz fl fl I _ _ _ zx0 (0 : Int32) zt0 hw (lv_sub hl [1, 0] rfl) hf
noncomputable def m9_putsBack_2b (fl : Nat) (len : Nat → Nat) (X : Xm) (zr2 : Im → Nat → Int32 → Option (Im)) (I : Im) (zx0 : Nat) (zx1 : Int32) : Option (Im) :=
  if (1620 : Int32) ≤ zx1 then
    some (I)
  else
    nn (gR X 144 zx0) fun zv2 =>
    nn (gR X 148 zx0) fun zv3 =>
    ck (inb zx1 (len zv3) = true) <|
    ck (inb zx1 (len zv2) = true) <|
    lt (pA I zv2 (zx1).toNatClampNeg (gA I zv3 (zx1).toNatClampNeg)) fun zI6 =>
    lt (zx1 + 1) fun zv7 =>
    zr2 zI6 zx0 zv7
noncomputable def m9_putsBack_2 (fl : Nat) (len : Nat → Nat) (X : Xm) (n : Nat) : Im → Nat → Int32 → Option (Im) :=
  Nat.rec (fun _ _ _ => none) (fun _ r => m9_putsBack_2b fl len X r) n
set_option maxHeartbeats 4000000 in
set_option maxRecDepth 100000 in
theorem w9_putsBack_2b {p : Program} {l : Launch} {e : Env} {s : State} {m : MethodId} {args : Array Value} {below : List Frame} {meth : Method} {c : Code} {E : EN} {G : GM} {X : Xm} (C0 : CX p s m args meth c E cX9_putsBack RX9 2) (hr : meth.sig.returnType = none) (hz : s.heap.size + 0 ≤ eB E + G.1) {rr : Im} (fl : Nat) (zr2 : Im → Nat → Int32 → Option (Im)) (zhr2 : ∀ (I : Im) (H : Heap) (locs : List Loc) (ls : Array Slot) (zx0 : Nat) (zx1 : Int32) (zt0 : okA E G 9 zx0), WD E G I X s.heap H locs → lv_has ls 2 [(0, .ref zx0), (1, .int zx1)] → zr2 I zx0 zx1 = some rr → W p l e ({ frames := 0, cells := 0, slots := 0, locals := 0 } : Room) s m args below meth c H locs 0 0 (MQ below (QV E G rr X) args s 0 0 (eA E)) (F0 m 2 ls [])) : ∀ (I : Im) (H : Heap) (locs : List Loc) (ls : Array Slot) (zx0 : Nat) (zx1 : Int32) (zt0 : okA E G 9 zx0), WD E G I X s.heap H locs → lv_has ls 2 [(0, .ref zx0), (1, .int zx1)] → m9_putsBack_2b fl G.2.2 X zr2 I zx0 zx1 = some rr → W p l e ({ frames := 0, cells := 0, slots := 0, locals := 0 } : Room) s m args below meth c H locs 0 0 (MQ below (QV E G rr X) args s 0 0 (eA E)) (F0 m 2 ls []) := by
  intro I H locs ls zx0 zx1 zt0 hw hl hf
  unfold m9_putsBack_2b at hf
  have hx := C0.1; have hb := C0.2.1; have hml := C0.2.2.1; have hown := C0.2.2.2.1; have hts := C0.2.2.2.2.1
  refine lv_iload_n hx hb dX9_putsBack_2 rfl (lv_at hl 1 rfl) ?_
  refine lv_sipush (v := (1620 : Int32)) hx hb dX9_putsBack_3 (by decide) ?_
  refine lv_icmp_ge (tgt := 27) hx hb dX9_putsBack_6 (by decide) (fun zc1 => ?_) (fun zc1 => ?_)
  · have hf := ite_t hf zc1
    obtain rfl := Option.some.inj hf
    exact x_vret C0 hr hw dX9_putsBack_27
  · have hf := ite_f hf zc1
    refine lv_aload_n hx hb dX9_putsBack_9 rfl (lv_at hl 0 rfl) ?_
    obtain ⟨zv2, ezv2, hf⟩ := nn_some hf
    have tzv2 : okA E G 11 zv2 := wt_r hw ezv2
    refine xg_9_0 C0 hw zt0 wd601 ezv2 dX9_putsBack_10 ?_
    refine lv_iload_n hx hb dX9_putsBack_13 rfl (lv_at hl 1 rfl) ?_
    refine lv_aload_n hx hb dX9_putsBack_14 rfl (lv_at hl 0 rfl) ?_
    obtain ⟨zv3, ezv3, hf⟩ := nn_some hf
    have tzv3 : okA E G 11 zv3 := wt_r hw ezv3
    refine xg_9_4 C0 hw zt0 wd605 ezv3 dX9_putsBack_15 ?_
    refine lv_iload_n hx hb dX9_putsBack_18 rfl (lv_at hl 1 rfl) ?_
    obtain ⟨zhb4, hf⟩ := ck_some hf
    refine x_iald C0 hw tzv3 zhb4 dX9_putsBack_19 ?_
    obtain ⟨zhb5, hf⟩ := ck_some hf
    obtain ⟨zI6, ezI6⟩ : ∃ y : Im, y = pA I zv2 (zx1).toNatClampNeg (gA I zv3 (zx1).toNatClampNeg) := ⟨_, rfl⟩
    have hf := lt_at hf ezI6
    refine x_iast C0 hz hw tzv2 zhb5 dX9_putsBack_20 ezI6 (fun H locs hw => ?_)
    obtain ⟨zv7, ezv7⟩ : ∃ y : Int32, y = zx1 + 1 := ⟨_, rfl⟩
    have hf := lt_at hf ezv7
    refine lv_iinc (v := zv7) (lv' := [(1, .int zv7), (0, .ref zx0)]) hx hb dX9_putsBack_21 hl (k := 1) rfl (by rw [ezv7]; rfl) (by decide) rfl (fun ls hl => ?_)
    refine lv_goto (tgt := 2) hx hb dX9_putsBack_24 (by decide) ?_
    exact zhr2 zI6 _ _ _ zx0 zv7 zt0 hw (lv_sub hl [1, 0] rfl) hf
theorem w9_putsBack_2 {p : Program} {l : Launch} {e : Env} {s : State} {m : MethodId} {args : Array Value} {below : List Frame} {meth : Method} {c : Code} {E : EN} {G : GM} {X : Xm} (C0 : CX p s m args meth c E cX9_putsBack RX9 2) (hr : meth.sig.returnType = none) (hz : s.heap.size + 0 ≤ eB E + G.1) {rr : Im} (fl : Nat) : ∀ (n : Nat) (I : Im) (H : Heap) (locs : List Loc) (ls : Array Slot) (zx0 : Nat) (zx1 : Int32) (zt0 : okA E G 9 zx0), WD E G I X s.heap H locs → lv_has ls 2 [(0, .ref zx0), (1, .int zx1)] → m9_putsBack_2 fl G.2.2 X n I zx0 zx1 = some rr → W p l e ({ frames := 0, cells := 0, slots := 0, locals := 0 } : Room) s m args below meth c H locs 0 0 (MQ below (QV E G rr X) args s 0 0 (eA E)) (F0 m 2 ls []) := by
  intro n
  induction n with
  | zero => intro I H locs ls zx0 zx1 zt0 hw hl hf; exact absurd (show (none : Option (Im)) = some rr from hf) (by simp)
  | succ n ih => intro I H locs ls zx0 zx1 zt0 hw hl hf; exact w9_putsBack_2b C0 hr hz fl _ ih I H locs ls zx0 zx1 zt0 hw hl hf
noncomputable def m9_putsBack (fl : Nat) (len : Nat → Nat) (X : Xm) (I : Im) (zx0 : Nat) : Option (Im) :=
  m9_putsBack_2 fl len X fl I zx0 (0 : Int32)
theorem hy9_putsBack : yX9_putsBack.cls = RX9 ∧ yX9_putsBack.cls ≠ "java/lang/invoke/MethodHandle" ∧ yX9_putsBack.cls ≠ "java/lang/invoke/VarHandle" ∧ (parseMethodDescriptor yX9_putsBack.desc).map (fun d => d.parameters.length) = some 0 := ⟨rfl, by decide +kernel, by decide +kernel, by decide +kernel⟩
set_option maxHeartbeats 4000000 in
set_option maxRecDepth 100000 in
theorem c9_putsBack (l : Launch) (E : EN) (G : GM) (fl : Nat) (X : Xm) (I : Im) (zx0 : Nat) (zt0 : okA E G 9 zx0) {rr : Im} (hf : m9_putsBack fl G.2.2 X I zx0 = some rr) : MT l yX9_putsBack cX9_putsBack 2 none ({ frames := 0, cells := 0, slots := 0, locals := 0 } : Room) E G I X [.ref zx0] (QV E G rr X) 0 0 := by
  refine Met.ofW (cc := cX9_putsBack) (maxL := 2) (ret := none) (by decide +kernel) rfl ?_
  intro p e s m args below meth c s₁ B hml hv
  obtain ⟨rfl, hw0, hSE⟩ := hv
  have C0 : CX p s m ([.ref zx0] : List Value).toArray meth c E cX9_putsBack RX9 2 := ⟨B.exec, B.bytes, hml, findClass_of_methodNamed B.named, fun w hw => atoms_spec (ws := WS yX9_putsBack cX9_putsBack 2 none) B.pre w (List.mem_cons_of_mem _ hw), B.notSynchronized, hSE⟩
  have hz : s.heap.size + 0 ≤ eB E + G.1 := Nat.le_of_eq hw0.2.1
  have hw : WD E G I X s.heap s.heap [] := ⟨hw0, va_S.rf⟩
  have hr := B.returns
  have hx := C0.1; have hb := C0.2.1; have hml := C0.2.2.1; have hown := C0.2.2.2.1; have hts := C0.2.2.2.2.1
  have hl := lv_entry ([.ref zx0]) (n := 2) (Nat.le_of_ble_eq_true rfl)
  rw [lg_entry_eq]
  generalize (lg_sl ([.ref zx0]) ++ List.replicate (2 - (lg_sl ([.ref zx0])).length) Slot.unset).toArray = ls at hl ⊢
  have hl : lv_has ls 2 [(0, .ref zx0)] := hl
  unfold m9_putsBack at hf
  refine lv_iconst (v := (0 : Int32)) hx hb dX9_putsBack_0 (by decide) ?_
  refine lv_istore_n (lv' := [(1, .int (0 : Int32)), (0, .ref zx0)]) hx hb dX9_putsBack_1 rfl hl (by decide) rfl (fun ls hl => ?_)
  exact w9_putsBack_2 C0 hr hz fl fl I _ _ _ zx0 (0 : Int32) zt0 hw (lv_sub hl [1, 0] rfl) hf
noncomputable def m9_of (fl : Nat) (len : Nat → Nat) (X : Xm) (I : Im) (zx0 : Nat) (zx1 : Int32) (zx2 : Int32) : Option (Int32) :=
  nn (gR X 144 zx0) fun zv1 =>
  ck (inb (((8 : Int32) + ((5 : Int32) * zx1)) + zx2) (len zv1) = true) <|
  some ((gA I zv1 ((((8 : Int32) + ((5 : Int32) * zx1)) + zx2)).toNatClampNeg))
theorem hy9_of : yX9_of.cls = RX9 ∧ yX9_of.cls ≠ "java/lang/invoke/MethodHandle" ∧ yX9_of.cls ≠ "java/lang/invoke/VarHandle" ∧ (parseMethodDescriptor yX9_of.desc).map (fun d => d.parameters.length) = some 2 := ⟨rfl, by decide +kernel, by decide +kernel, by decide +kernel⟩
set_option maxHeartbeats 4000000 in
set_option maxRecDepth 100000 in
theorem c9_of (l : Launch) (E : EN) (G : GM) (fl : Nat) (X : Xm) (I : Im) (zx0 : Nat) (zx1 : Int32) (zx2 : Int32) (zt0 : okA E G 9 zx0) {rr : Int32} (hf : m9_of fl G.2.2 X I zx0 zx1 zx2 = some rr) : MT l yX9_of cX9_of 3 (some .int) ({ frames := 0, cells := 0, slots := 0, locals := 0 } : Room) E G I X [.ref zx0, .int zx1, .int zx2] (QI E G rr I X) 0 0 := by
  refine Met.ofW (cc := cX9_of) (maxL := 3) (ret := (some .int)) (by decide +kernel) rfl ?_
  intro p e s m args below meth c s₁ B hml hv
  obtain ⟨rfl, hw0, hSE⟩ := hv
  have C0 : CX p s m ([.ref zx0, .int zx1, .int zx2] : List Value).toArray meth c E cX9_of RX9 3 := ⟨B.exec, B.bytes, hml, findClass_of_methodNamed B.named, fun w hw => atoms_spec (ws := WS yX9_of cX9_of 3 (some .int)) B.pre w (List.mem_cons_of_mem _ hw), B.notSynchronized, hSE⟩
  have hz : s.heap.size + 0 ≤ eB E + G.1 := Nat.le_of_eq hw0.2.1
  have hw : WD E G I X s.heap s.heap [] := ⟨hw0, va_S.rf⟩
  have hr := B.returns
  have hx := C0.1; have hb := C0.2.1; have hml := C0.2.2.1; have hown := C0.2.2.2.1; have hts := C0.2.2.2.2.1
  have hl := lv_entry ([.ref zx0, .int zx1, .int zx2]) (n := 3) (Nat.le_of_ble_eq_true rfl)
  rw [lg_entry_eq]
  generalize (lg_sl ([.ref zx0, .int zx1, .int zx2]) ++ List.replicate (3 - (lg_sl ([.ref zx0, .int zx1, .int zx2])).length) Slot.unset).toArray = ls at hl ⊢
  have hl : lv_has ls 3 [(0, .ref zx0), (1, .int zx1), (2, .int zx2)] := hl
  unfold m9_of at hf
  refine lv_aload_n hx hb dX9_of_0 rfl (lv_at hl 0 rfl) ?_
  obtain ⟨zv1, ezv1, hf⟩ := nn_some hf
  have tzv1 : okA E G 11 zv1 := wt_r hw ezv1
  refine xg_9_0 C0 hw zt0 wd601 ezv1 dX9_of_1 ?_
  refine lv_bipush (v := (8 : Int32)) hx hb dX9_of_4 (by decide) ?_
  refine lv_iconst (v := (5 : Int32)) hx hb dX9_of_6 (by decide) ?_
  refine lv_iload_n hx hb dX9_of_7 rfl (lv_at hl 1 rfl) ?_
  refine lv_imul hx hb dX9_of_8 ?_
  refine lv_iadd hx hb dX9_of_9 ?_
  refine lv_iload_n hx hb dX9_of_10 rfl (lv_at hl 2 rfl) ?_
  refine lv_iadd hx hb dX9_of_11 ?_
  obtain ⟨zhb2, hf⟩ := ck_some hf
  refine x_iald C0 hw tzv1 zhb2 dX9_of_12 ?_
  obtain rfl := Option.some.inj hf
  exact x_iret C0 hr hw dX9_of_13
noncomputable def m9_lay (fl : Nat) (len : Nat → Nat) (X : Xm) (I : Im) (zx0 : Nat) (zx1 : Int32) (zx2 : Int32) (zx3 : Int32) : Option (Im) :=
  nn (gR X 144 zx0) fun zv1 =>
  ck (inb (((8 : Int32) + ((5 : Int32) * zx1)) + zx2) (len zv1) = true) <|
  lt (pA I zv1 ((((8 : Int32) + ((5 : Int32) * zx1)) + zx2)).toNatClampNeg zx3) fun zI3 =>
  some (zI3)
theorem hy9_lay : yX9_lay.cls = RX9 ∧ yX9_lay.cls ≠ "java/lang/invoke/MethodHandle" ∧ yX9_lay.cls ≠ "java/lang/invoke/VarHandle" ∧ (parseMethodDescriptor yX9_lay.desc).map (fun d => d.parameters.length) = some 3 := ⟨rfl, by decide +kernel, by decide +kernel, by decide +kernel⟩
set_option maxHeartbeats 4000000 in
set_option maxRecDepth 100000 in
theorem c9_lay (l : Launch) (E : EN) (G : GM) (fl : Nat) (X : Xm) (I : Im) (zx0 : Nat) (zx1 : Int32) (zx2 : Int32) (zx3 : Int32) (zt0 : okA E G 9 zx0) {rr : Im} (hf : m9_lay fl G.2.2 X I zx0 zx1 zx2 zx3 = some rr) : MT l yX9_lay cX9_lay 4 none ({ frames := 0, cells := 0, slots := 0, locals := 0 } : Room) E G I X [.ref zx0, .int zx1, .int zx2, .int zx3] (QV E G rr X) 0 0 := by
  refine Met.ofW (cc := cX9_lay) (maxL := 4) (ret := none) (by decide +kernel) rfl ?_
  intro p e s m args below meth c s₁ B hml hv
  obtain ⟨rfl, hw0, hSE⟩ := hv
  have C0 : CX p s m ([.ref zx0, .int zx1, .int zx2, .int zx3] : List Value).toArray meth c E cX9_lay RX9 4 := ⟨B.exec, B.bytes, hml, findClass_of_methodNamed B.named, fun w hw => atoms_spec (ws := WS yX9_lay cX9_lay 4 none) B.pre w (List.mem_cons_of_mem _ hw), B.notSynchronized, hSE⟩
  have hz : s.heap.size + 0 ≤ eB E + G.1 := Nat.le_of_eq hw0.2.1
  have hw : WD E G I X s.heap s.heap [] := ⟨hw0, va_S.rf⟩
  have hr := B.returns
  have hx := C0.1; have hb := C0.2.1; have hml := C0.2.2.1; have hown := C0.2.2.2.1; have hts := C0.2.2.2.2.1
  have hl := lv_entry ([.ref zx0, .int zx1, .int zx2, .int zx3]) (n := 4) (Nat.le_of_ble_eq_true rfl)
  rw [lg_entry_eq]
  generalize (lg_sl ([.ref zx0, .int zx1, .int zx2, .int zx3]) ++ List.replicate (4 - (lg_sl ([.ref zx0, .int zx1, .int zx2, .int zx3])).length) Slot.unset).toArray = ls at hl ⊢
  have hl : lv_has ls 4 [(0, .ref zx0), (1, .int zx1), (2, .int zx2), (3, .int zx3)] := hl
  unfold m9_lay at hf
  refine lv_aload_n hx hb dX9_lay_0 rfl (lv_at hl 0 rfl) ?_
  obtain ⟨zv1, ezv1, hf⟩ := nn_some hf
  have tzv1 : okA E G 11 zv1 := wt_r hw ezv1
  refine xg_9_0 C0 hw zt0 wd601 ezv1 dX9_lay_1 ?_
  refine lv_bipush (v := (8 : Int32)) hx hb dX9_lay_4 (by decide) ?_
  refine lv_iconst (v := (5 : Int32)) hx hb dX9_lay_6 (by decide) ?_
  refine lv_iload_n hx hb dX9_lay_7 rfl (lv_at hl 1 rfl) ?_
  refine lv_imul hx hb dX9_lay_8 ?_
  refine lv_iadd hx hb dX9_lay_9 ?_
  refine lv_iload_n hx hb dX9_lay_10 rfl (lv_at hl 2 rfl) ?_
  refine lv_iadd hx hb dX9_lay_11 ?_
  refine lv_iload_n hx hb dX9_lay_12 rfl (lv_at hl 3 rfl) ?_
  obtain ⟨zhb2, hf⟩ := ck_some hf
  obtain ⟨zI3, ezI3⟩ : ∃ y : Im, y = pA I zv1 ((((8 : Int32) + ((5 : Int32) * zx1)) + zx2)).toNatClampNeg zx3 := ⟨_, rfl⟩
  have hf := lt_at hf ezI3
  refine x_iast C0 hz hw tzv1 zhb2 dX9_lay_13 ezI3 (fun H locs hw => ?_)
  obtain rfl := Option.some.inj hf
  exact x_vret C0 hr hw dX9_lay_14
noncomputable def m9_reel (fl : Nat) (len : Nat → Nat) (X : Xm) (I : Im) (zx0 : Nat) (zx1 : Int32) (zx2 : Int32) : Option (Int32) :=
  nn (gR X 144 zx0) fun zv1 =>
  ck (inb (((128 : Int32) + ((4 : Int32) * zx1)) + zx2) (len zv1) = true) <|
  some ((gA I zv1 ((((128 : Int32) + ((4 : Int32) * zx1)) + zx2)).toNatClampNeg))
theorem hy9_reel : yX9_reel.cls = RX9 ∧ yX9_reel.cls ≠ "java/lang/invoke/MethodHandle" ∧ yX9_reel.cls ≠ "java/lang/invoke/VarHandle" ∧ (parseMethodDescriptor yX9_reel.desc).map (fun d => d.parameters.length) = some 2 := ⟨rfl, by decide +kernel, by decide +kernel, by decide +kernel⟩
set_option maxHeartbeats 4000000 in
set_option maxRecDepth 100000 in
theorem c9_reel (l : Launch) (E : EN) (G : GM) (fl : Nat) (X : Xm) (I : Im) (zx0 : Nat) (zx1 : Int32) (zx2 : Int32) (zt0 : okA E G 9 zx0) {rr : Int32} (hf : m9_reel fl G.2.2 X I zx0 zx1 zx2 = some rr) : MT l yX9_reel cX9_reel 3 (some .int) ({ frames := 0, cells := 0, slots := 0, locals := 0 } : Room) E G I X [.ref zx0, .int zx1, .int zx2] (QI E G rr I X) 0 0 := by
  refine Met.ofW (cc := cX9_reel) (maxL := 3) (ret := (some .int)) (by decide +kernel) rfl ?_
  intro p e s m args below meth c s₁ B hml hv
  obtain ⟨rfl, hw0, hSE⟩ := hv
  have C0 : CX p s m ([.ref zx0, .int zx1, .int zx2] : List Value).toArray meth c E cX9_reel RX9 3 := ⟨B.exec, B.bytes, hml, findClass_of_methodNamed B.named, fun w hw => atoms_spec (ws := WS yX9_reel cX9_reel 3 (some .int)) B.pre w (List.mem_cons_of_mem _ hw), B.notSynchronized, hSE⟩
  have hz : s.heap.size + 0 ≤ eB E + G.1 := Nat.le_of_eq hw0.2.1
  have hw : WD E G I X s.heap s.heap [] := ⟨hw0, va_S.rf⟩
  have hr := B.returns
  have hx := C0.1; have hb := C0.2.1; have hml := C0.2.2.1; have hown := C0.2.2.2.1; have hts := C0.2.2.2.2.1
  have hl := lv_entry ([.ref zx0, .int zx1, .int zx2]) (n := 3) (Nat.le_of_ble_eq_true rfl)
  rw [lg_entry_eq]
  generalize (lg_sl ([.ref zx0, .int zx1, .int zx2]) ++ List.replicate (3 - (lg_sl ([.ref zx0, .int zx1, .int zx2])).length) Slot.unset).toArray = ls at hl ⊢
  have hl : lv_has ls 3 [(0, .ref zx0), (1, .int zx1), (2, .int zx2)] := hl
  unfold m9_reel at hf
  refine lv_aload_n hx hb dX9_reel_0 rfl (lv_at hl 0 rfl) ?_
  obtain ⟨zv1, ezv1, hf⟩ := nn_some hf
  have tzv1 : okA E G 11 zv1 := wt_r hw ezv1
  refine xg_9_0 C0 hw zt0 wd601 ezv1 dX9_reel_1 ?_
  refine lv_sipush (v := (128 : Int32)) hx hb dX9_reel_4 (by decide) ?_
  refine lv_iconst (v := (4 : Int32)) hx hb dX9_reel_7 (by decide) ?_
  refine lv_iload_n hx hb dX9_reel_8 rfl (lv_at hl 1 rfl) ?_
  refine lv_imul hx hb dX9_reel_9 ?_
  refine lv_iadd hx hb dX9_reel_10 ?_
  refine lv_iload_n hx hb dX9_reel_11 rfl (lv_at hl 2 rfl) ?_
  refine lv_iadd hx hb dX9_reel_12 ?_
  obtain ⟨zhb2, hf⟩ := ck_some hf
  refine x_iald C0 hw tzv1 zhb2 dX9_reel_13 ?_
  obtain rfl := Option.some.inj hf
  exact x_iret C0 hr hw dX9_reel_14
noncomputable def m9_turn (fl : Nat) (len : Nat → Nat) (X : Xm) (I : Im) (zx0 : Nat) (zx1 : Int32) (zx2 : Int32) (zx3 : Int32) : Option (Im) :=
  nn (gR X 144 zx0) fun zv1 =>
  ck (inb (((128 : Int32) + ((4 : Int32) * zx1)) + zx2) (len zv1) = true) <|
  lt (pA I zv1 ((((128 : Int32) + ((4 : Int32) * zx1)) + zx2)).toNatClampNeg zx3) fun zI3 =>
  some (zI3)
theorem hy9_turn : yX9_turn.cls = RX9 ∧ yX9_turn.cls ≠ "java/lang/invoke/MethodHandle" ∧ yX9_turn.cls ≠ "java/lang/invoke/VarHandle" ∧ (parseMethodDescriptor yX9_turn.desc).map (fun d => d.parameters.length) = some 3 := ⟨rfl, by decide +kernel, by decide +kernel, by decide +kernel⟩
set_option maxHeartbeats 4000000 in
set_option maxRecDepth 100000 in
theorem c9_turn (l : Launch) (E : EN) (G : GM) (fl : Nat) (X : Xm) (I : Im) (zx0 : Nat) (zx1 : Int32) (zx2 : Int32) (zx3 : Int32) (zt0 : okA E G 9 zx0) {rr : Im} (hf : m9_turn fl G.2.2 X I zx0 zx1 zx2 zx3 = some rr) : MT l yX9_turn cX9_turn 4 none ({ frames := 0, cells := 0, slots := 0, locals := 0 } : Room) E G I X [.ref zx0, .int zx1, .int zx2, .int zx3] (QV E G rr X) 0 0 := by
  refine Met.ofW (cc := cX9_turn) (maxL := 4) (ret := none) (by decide +kernel) rfl ?_
  intro p e s m args below meth c s₁ B hml hv
  obtain ⟨rfl, hw0, hSE⟩ := hv
  have C0 : CX p s m ([.ref zx0, .int zx1, .int zx2, .int zx3] : List Value).toArray meth c E cX9_turn RX9 4 := ⟨B.exec, B.bytes, hml, findClass_of_methodNamed B.named, fun w hw => atoms_spec (ws := WS yX9_turn cX9_turn 4 none) B.pre w (List.mem_cons_of_mem _ hw), B.notSynchronized, hSE⟩
  have hz : s.heap.size + 0 ≤ eB E + G.1 := Nat.le_of_eq hw0.2.1
  have hw : WD E G I X s.heap s.heap [] := ⟨hw0, va_S.rf⟩
  have hr := B.returns
  have hx := C0.1; have hb := C0.2.1; have hml := C0.2.2.1; have hown := C0.2.2.2.1; have hts := C0.2.2.2.2.1
  have hl := lv_entry ([.ref zx0, .int zx1, .int zx2, .int zx3]) (n := 4) (Nat.le_of_ble_eq_true rfl)
  rw [lg_entry_eq]
  generalize (lg_sl ([.ref zx0, .int zx1, .int zx2, .int zx3]) ++ List.replicate (4 - (lg_sl ([.ref zx0, .int zx1, .int zx2, .int zx3])).length) Slot.unset).toArray = ls at hl ⊢
  have hl : lv_has ls 4 [(0, .ref zx0), (1, .int zx1), (2, .int zx2), (3, .int zx3)] := hl
  unfold m9_turn at hf
  refine lv_aload_n hx hb dX9_turn_0 rfl (lv_at hl 0 rfl) ?_
  obtain ⟨zv1, ezv1, hf⟩ := nn_some hf
  have tzv1 : okA E G 11 zv1 := wt_r hw ezv1
  refine xg_9_0 C0 hw zt0 wd601 ezv1 dX9_turn_1 ?_
  refine lv_sipush (v := (128 : Int32)) hx hb dX9_turn_4 (by decide) ?_
  refine lv_iconst (v := (4 : Int32)) hx hb dX9_turn_7 (by decide) ?_
  refine lv_iload_n hx hb dX9_turn_8 rfl (lv_at hl 1 rfl) ?_
  refine lv_imul hx hb dX9_turn_9 ?_
  refine lv_iadd hx hb dX9_turn_10 ?_
  refine lv_iload_n hx hb dX9_turn_11 rfl (lv_at hl 2 rfl) ?_
  refine lv_iadd hx hb dX9_turn_12 ?_
  refine lv_iload_n hx hb dX9_turn_13 rfl (lv_at hl 3 rfl) ?_
  obtain ⟨zhb2, hf⟩ := ck_some hf
  obtain ⟨zI3, ezI3⟩ : ∃ y : Im, y = pA I zv1 ((((128 : Int32) + ((4 : Int32) * zx1)) + zx2)).toNatClampNeg zx3 := ⟨_, rfl⟩
  have hf := lt_at hf ezI3
  refine x_iast C0 hz hw tzv1 zhb2 dX9_turn_14 ezI3 (fun H locs hw => ?_)
  obtain rfl := Option.some.inj hf
  exact x_vret C0 hr hw dX9_turn_15
noncomputable def m9_soundAt (fl : Nat) (len : Nat → Nat) (X : Xm) (I : Im) (zx0 : Int32) (zx1 : Int32) : Option (Int32) :=
  some (((144 : Int32) + ((3 : Int32) * (((6 : Int32) * zx0) + zx1))))
theorem hy9_soundAt : yX9_soundAt.cls = RX9 ∧ yX9_soundAt.cls ≠ "java/lang/invoke/MethodHandle" ∧ yX9_soundAt.cls ≠ "java/lang/invoke/VarHandle" ∧ (parseMethodDescriptor yX9_soundAt.desc).map (fun d => d.parameters.length) = some 2 := ⟨rfl, by decide +kernel, by decide +kernel, by decide +kernel⟩
set_option maxHeartbeats 4000000 in
set_option maxRecDepth 100000 in
theorem c9_soundAt (l : Launch) (E : EN) (G : GM) (fl : Nat) (X : Xm) (I : Im) (zx0 : Int32) (zx1 : Int32) {rr : Int32} (hf : m9_soundAt fl G.2.2 X I zx0 zx1 = some rr) : MT l yX9_soundAt cX9_soundAt 2 (some .int) ({ frames := 0, cells := 0, slots := 0, locals := 0 } : Room) E G I X [.int zx0, .int zx1] (QI E G rr I X) 0 0 := by
  refine Met.ofW (cc := cX9_soundAt) (maxL := 2) (ret := (some .int)) (by decide +kernel) rfl ?_
  intro p e s m args below meth c s₁ B hml hv
  obtain ⟨rfl, hw0, hSE⟩ := hv
  have C0 : CX p s m ([.int zx0, .int zx1] : List Value).toArray meth c E cX9_soundAt RX9 2 := ⟨B.exec, B.bytes, hml, findClass_of_methodNamed B.named, fun w hw => atoms_spec (ws := WS yX9_soundAt cX9_soundAt 2 (some .int)) B.pre w (List.mem_cons_of_mem _ hw), B.notSynchronized, hSE⟩
  have hz : s.heap.size + 0 ≤ eB E + G.1 := Nat.le_of_eq hw0.2.1
  have hw : WD E G I X s.heap s.heap [] := ⟨hw0, va_S.rf⟩
  have hr := B.returns
  have hx := C0.1; have hb := C0.2.1; have hml := C0.2.2.1; have hown := C0.2.2.2.1; have hts := C0.2.2.2.2.1
  have hl := lv_entry ([.int zx0, .int zx1]) (n := 2) (Nat.le_of_ble_eq_true rfl)
  rw [lg_entry_eq]
  generalize (lg_sl ([.int zx0, .int zx1]) ++ List.replicate (2 - (lg_sl ([.int zx0, .int zx1])).length) Slot.unset).toArray = ls at hl ⊢
  have hl : lv_has ls 2 [(0, .int zx0), (1, .int zx1)] := hl
  unfold m9_soundAt at hf
  refine lv_sipush (v := (144 : Int32)) hx hb dX9_soundAt_0 (by decide) ?_
  refine lv_iconst (v := (3 : Int32)) hx hb dX9_soundAt_3 (by decide) ?_
  refine lv_bipush (v := (6 : Int32)) hx hb dX9_soundAt_4 (by decide) ?_
  refine lv_iload_n hx hb dX9_soundAt_6 rfl (lv_at hl 0 rfl) ?_
  refine lv_imul hx hb dX9_soundAt_7 ?_
  refine lv_iload_n hx hb dX9_soundAt_8 rfl (lv_at hl 1 rfl) ?_
  refine lv_iadd hx hb dX9_soundAt_9 ?_
  refine lv_imul hx hb dX9_soundAt_10 ?_
  refine lv_iadd hx hb dX9_soundAt_11 ?_
  obtain rfl := Option.some.inj hf
  exact x_iret C0 hr hw dX9_soundAt_12
noncomputable def m9_isCue (fl : Nat) (len : Nat → Nat) (X : Xm) (I : Im) (zx0 : Nat) (zx1 : Int32) : Option (Int32) :=
  nn (gR X 144 zx0) fun zv1 =>
  ck (inb (5 : Int32) (len zv1) = true) <|
  nn (m9_in fl len X I zx1 (0 : Int32) ((gA I zv1 ((5 : Int32)).toNatClampNeg) - (1 : Int32))) fun zv3 =>
  ck (isbl zv3 = true) <|
  some (zv3)
theorem hy9_isCue : yX9_isCue.cls = RX9 ∧ yX9_isCue.cls ≠ "java/lang/invoke/MethodHandle" ∧ yX9_isCue.cls ≠ "java/lang/invoke/VarHandle" ∧ (parseMethodDescriptor yX9_isCue.desc).map (fun d => d.parameters.length) = some 1 := ⟨rfl, by decide +kernel, by decide +kernel, by decide +kernel⟩
set_option maxHeartbeats 4000000 in
set_option maxRecDepth 100000 in
theorem c9_isCue (l : Launch) (E : EN) (G : GM) (fl : Nat) (X : Xm) (I : Im) (zx0 : Nat) (zx1 : Int32) (zt0 : okA E G 9 zx0) {rr : Int32} (hf : m9_isCue fl G.2.2 X I zx0 zx1 = some rr) : MT l yX9_isCue cX9_isCue 2 (some .boolean) ({ frames := 1, cells := 0, slots := 0, locals := 22 } : Room) E G I X [.ref zx0, .int zx1] (QI E G rr I X) 0 0 := by
  refine Met.ofW (cc := cX9_isCue) (maxL := 2) (ret := (some .boolean)) (by decide +kernel) rfl ?_
  intro p e s m args below meth c s₁ B hml hv
  obtain ⟨rfl, hw0, hSE⟩ := hv
  have C0 : CX p s m ([.ref zx0, .int zx1] : List Value).toArray meth c E cX9_isCue RX9 2 := ⟨B.exec, B.bytes, hml, findClass_of_methodNamed B.named, fun w hw => atoms_spec (ws := WS yX9_isCue cX9_isCue 2 (some .boolean)) B.pre w (List.mem_cons_of_mem _ hw), B.notSynchronized, hSE⟩
  have hz : s.heap.size + 0 ≤ eB E + G.1 := Nat.le_of_eq hw0.2.1
  have hw : WD E G I X s.heap s.heap [] := ⟨hw0, va_S.rf⟩
  have hr := B.returns
  have hx := C0.1; have hb := C0.2.1; have hml := C0.2.2.1; have hown := C0.2.2.2.1; have hts := C0.2.2.2.2.1
  have hl := lv_entry ([.ref zx0, .int zx1]) (n := 2) (Nat.le_of_ble_eq_true rfl)
  rw [lg_entry_eq]
  generalize (lg_sl ([.ref zx0, .int zx1]) ++ List.replicate (2 - (lg_sl ([.ref zx0, .int zx1])).length) Slot.unset).toArray = ls at hl ⊢
  have hl : lv_has ls 2 [(0, .ref zx0), (1, .int zx1)] := hl
  unfold m9_isCue at hf
  refine lv_iload_n hx hb dX9_isCue_0 rfl (lv_at hl 1 rfl) ?_
  refine lv_iconst (v := (0 : Int32)) hx hb dX9_isCue_1 (by decide) ?_
  refine lv_aload_n hx hb dX9_isCue_2 rfl (lv_at hl 0 rfl) ?_
  obtain ⟨zv1, ezv1, hf⟩ := nn_some hf
  have tzv1 : okA E G 11 zv1 := wt_r hw ezv1
  refine xg_9_0 C0 hw zt0 wd601 ezv1 dX9_isCue_3 ?_
  refine lv_iconst (v := (5 : Int32)) hx hb dX9_isCue_6 (by decide) ?_
  obtain ⟨zhb2, hf⟩ := ck_some hf
  refine x_iald C0 hw tzv1 zhb2 dX9_isCue_7 ?_
  refine lv_iconst (v := (1 : Int32)) hx hb dX9_isCue_8 (by decide) ?_
  refine lv_isub hx hb dX9_isCue_9 ?_
  obtain ⟨zv3, ze4, hf⟩ := nn_some hf
  refine x_ci (r := zv3) (I1 := I) (X1 := X) (x_runS (As := [.int zx1, .int (0 : Int32), .int ((gA I zv1 ((5 : Int32)).toNatClampNeg) - (1 : Int32))]) (rest := []) C0 (c9_in l E G fl X I zx1 (0 : Int32) ((gA I zv1 ((5 : Int32)).toNatClampNeg) - (1 : Int32)) ze4) hw wd113 wd610 wd611 wd612 ⟨rfl, rfl⟩ hy9_in ⟨Nat.le_of_ble_eq_true rfl, Nat.le_of_ble_eq_true rfl⟩ rfl hl.1 (Nat.le_of_ble_eq_true rfl) ⟨Nat.zero_le _, Nat.zero_le _⟩ dX9_isCue_10) hw (fun H locs hw => ?_)
  obtain ⟨zhn5, hf⟩ := ck_some hf
  obtain rfl := Option.some.inj hf
  exact x_zret C0 hr (isbl_nar zhn5) hw dX9_isCue_13
noncomputable def m9_isReel (fl : Nat) (len : Nat → Nat) (X : Xm) (I : Im) (zx0 : Int32) : Option (Int32) :=
  nn (m9_in fl len X I zx0 (0 : Int32) (3 : Int32)) fun zv1 =>
  ck (isbl zv1 = true) <|
  some (zv1)
theorem hy9_isReel : yX9_isReel.cls = RX9 ∧ yX9_isReel.cls ≠ "java/lang/invoke/MethodHandle" ∧ yX9_isReel.cls ≠ "java/lang/invoke/VarHandle" ∧ (parseMethodDescriptor yX9_isReel.desc).map (fun d => d.parameters.length) = some 1 := ⟨rfl, by decide +kernel, by decide +kernel, by decide +kernel⟩
set_option maxHeartbeats 4000000 in
set_option maxRecDepth 100000 in
theorem c9_isReel (l : Launch) (E : EN) (G : GM) (fl : Nat) (X : Xm) (I : Im) (zx0 : Int32) {rr : Int32} (hf : m9_isReel fl G.2.2 X I zx0 = some rr) : MT l yX9_isReel cX9_isReel 1 (some .boolean) ({ frames := 1, cells := 0, slots := 0, locals := 22 } : Room) E G I X [.int zx0] (QI E G rr I X) 0 0 := by
  refine Met.ofW (cc := cX9_isReel) (maxL := 1) (ret := (some .boolean)) (by decide +kernel) rfl ?_
  intro p e s m args below meth c s₁ B hml hv
  obtain ⟨rfl, hw0, hSE⟩ := hv
  have C0 : CX p s m ([.int zx0] : List Value).toArray meth c E cX9_isReel RX9 1 := ⟨B.exec, B.bytes, hml, findClass_of_methodNamed B.named, fun w hw => atoms_spec (ws := WS yX9_isReel cX9_isReel 1 (some .boolean)) B.pre w (List.mem_cons_of_mem _ hw), B.notSynchronized, hSE⟩
  have hz : s.heap.size + 0 ≤ eB E + G.1 := Nat.le_of_eq hw0.2.1
  have hw : WD E G I X s.heap s.heap [] := ⟨hw0, va_S.rf⟩
  have hr := B.returns
  have hx := C0.1; have hb := C0.2.1; have hml := C0.2.2.1; have hown := C0.2.2.2.1; have hts := C0.2.2.2.2.1
  have hl := lv_entry ([.int zx0]) (n := 1) (Nat.le_of_ble_eq_true rfl)
  rw [lg_entry_eq]
  generalize (lg_sl ([.int zx0]) ++ List.replicate (1 - (lg_sl ([.int zx0])).length) Slot.unset).toArray = ls at hl ⊢
  have hl : lv_has ls 1 [(0, .int zx0)] := hl
  unfold m9_isReel at hf
  refine lv_iload_n hx hb dX9_isReel_0 rfl (lv_at hl 0 rfl) ?_
  refine lv_iconst (v := (0 : Int32)) hx hb dX9_isReel_1 (by decide) ?_
  refine lv_iconst (v := (3 : Int32)) hx hb dX9_isReel_2 (by decide) ?_
  obtain ⟨zv1, ze2, hf⟩ := nn_some hf
  refine x_ci (r := zv1) (I1 := I) (X1 := X) (x_runS (As := [.int zx0, .int (0 : Int32), .int (3 : Int32)]) (rest := []) C0 (c9_in l E G fl X I zx0 (0 : Int32) (3 : Int32) ze2) hw wd113 wd610 wd611 wd612 ⟨rfl, rfl⟩ hy9_in ⟨Nat.le_of_ble_eq_true rfl, Nat.le_of_ble_eq_true rfl⟩ rfl hl.1 (Nat.le_of_ble_eq_true rfl) ⟨Nat.zero_le _, Nat.zero_le _⟩ dX9_isReel_3) hw (fun H locs hw => ?_)
  obtain ⟨zhn3, hf⟩ := ck_some hf
  obtain rfl := Option.some.inj hf
  exact x_zret C0 hr (isbl_nar zhn3) hw dX9_isReel_6
noncomputable def m9_isSound_28 (fl : Nat) (len : Nat → Nat) (X : Xm) (I : Im) (zs0 : Int32) : Option (Int32) :=
  ck (isbl zs0 = true) <|
  some (zs0)
set_option maxHeartbeats 4000000 in
set_option maxRecDepth 100000 in
theorem w9_isSound_28 {p : Program} {l : Launch} {e : Env} {s : State} {m : MethodId} {args : Array Value} {below : List Frame} {meth : Method} {c : Code} {E : EN} {G : GM} {X : Xm} {I : Im} (C0 : CX p s m args meth c E cX9_isSound RX9 3) (hr : meth.sig.returnType = (some .boolean)) (hz : s.heap.size + 0 ≤ eB E + G.1) {rr : Int32} (fl : Nat) : ∀ (H : Heap) (locs : List Loc) (ls : Array Slot) (zs0 : Int32) , WD E G I X s.heap H locs → lv_has ls 3 [] → m9_isSound_28 fl G.2.2 X I zs0 = some rr → W p l e ({ frames := 2, cells := 0, slots := 0, locals := 42 } : Room) s m args below meth c H locs 0 0 (MQ below (QI E G rr I X) args s 0 0 (eA E)) (F0 m 28 ls [.int zs0]) := by
  intro H locs ls zs0 hw hl hf
  unfold m9_isSound_28 at hf
  have hx := C0.1; have hb := C0.2.1; have hml := C0.2.2.1; have hown := C0.2.2.2.1; have hts := C0.2.2.2.2.1
  obtain ⟨zhn1, hf⟩ := ck_some hf
  obtain rfl := Option.some.inj hf
  exact x_zret C0 hr (isbl_nar zhn1) hw dX9_isSound_28
noncomputable def m9_isSound_27 (fl : Nat) (len : Nat → Nat) (X : Xm) (I : Im) : Option (Int32) :=
  m9_isSound_28 fl len X I (0 : Int32)
set_option maxHeartbeats 4000000 in
set_option maxRecDepth 100000 in
theorem w9_isSound_27 {p : Program} {l : Launch} {e : Env} {s : State} {m : MethodId} {args : Array Value} {below : List Frame} {meth : Method} {c : Code} {E : EN} {G : GM} {X : Xm} {I : Im} (C0 : CX p s m args meth c E cX9_isSound RX9 3) (hr : meth.sig.returnType = (some .boolean)) (hz : s.heap.size + 0 ≤ eB E + G.1) {rr : Int32} (fl : Nat) : ∀ (H : Heap) (locs : List Loc) (ls : Array Slot) , WD E G I X s.heap H locs → lv_has ls 3 [] → m9_isSound_27 fl G.2.2 X I = some rr → W p l e ({ frames := 2, cells := 0, slots := 0, locals := 42 } : Room) s m args below meth c H locs 0 0 (MQ below (QI E G rr I X) args s 0 0 (eA E)) (F0 m 27 ls []) := by
  intro H locs ls hw hl hf
  unfold m9_isSound_27 at hf
  have hx := C0.1; have hb := C0.2.1; have hml := C0.2.2.1; have hown := C0.2.2.2.1; have hts := C0.2.2.2.2.1
  refine lv_iconst (v := (0 : Int32)) hx hb dX9_isSound_27 (by decide) ?_
  exact w9_isSound_28 C0 hr hz fl _ _ _ (0 : Int32) hw (lv_sub hl [] rfl) hf
noncomputable def m9_isSound (fl : Nat) (len : Nat → Nat) (X : Xm) (I : Im) (zx0 : Nat) (zx1 : Int32) (zx2 : Int32) : Option (Int32) :=
  nn (m9_isReel fl len X I zx1) fun zv1 =>
  if zv1 = 0 then
    m9_isSound_27 fl len X I 
  else
    nn (m9_reel fl len X I zx0 zx1 (3 : Int32)) fun zv4 =>
    nn (m9_in fl len X I zx2 (0 : Int32) (zv4 - (1 : Int32))) fun zv6 =>
    if zv6 = 0 then
      m9_isSound_27 fl len X I 
    else
      m9_isSound_28 fl len X I (1 : Int32)
theorem hy9_isSound : yX9_isSound.cls = RX9 ∧ yX9_isSound.cls ≠ "java/lang/invoke/MethodHandle" ∧ yX9_isSound.cls ≠ "java/lang/invoke/VarHandle" ∧ (parseMethodDescriptor yX9_isSound.desc).map (fun d => d.parameters.length) = some 2 := ⟨rfl, by decide +kernel, by decide +kernel, by decide +kernel⟩
set_option maxHeartbeats 4000000 in
set_option maxRecDepth 100000 in
theorem c9_isSound (l : Launch) (E : EN) (G : GM) (fl : Nat) (X : Xm) (I : Im) (zx0 : Nat) (zx1 : Int32) (zx2 : Int32) (zt0 : okA E G 9 zx0) {rr : Int32} (hf : m9_isSound fl G.2.2 X I zx0 zx1 zx2 = some rr) : MT l yX9_isSound cX9_isSound 3 (some .boolean) ({ frames := 2, cells := 0, slots := 0, locals := 42 } : Room) E G I X [.ref zx0, .int zx1, .int zx2] (QI E G rr I X) 0 0 := by
  refine Met.ofW (cc := cX9_isSound) (maxL := 3) (ret := (some .boolean)) (by decide +kernel) rfl ?_
  intro p e s m args below meth c s₁ B hml hv
  obtain ⟨rfl, hw0, hSE⟩ := hv
  have C0 : CX p s m ([.ref zx0, .int zx1, .int zx2] : List Value).toArray meth c E cX9_isSound RX9 3 := ⟨B.exec, B.bytes, hml, findClass_of_methodNamed B.named, fun w hw => atoms_spec (ws := WS yX9_isSound cX9_isSound 3 (some .boolean)) B.pre w (List.mem_cons_of_mem _ hw), B.notSynchronized, hSE⟩
  have hz : s.heap.size + 0 ≤ eB E + G.1 := Nat.le_of_eq hw0.2.1
  have hw : WD E G I X s.heap s.heap [] := ⟨hw0, va_S.rf⟩
  have hr := B.returns
  have hx := C0.1; have hb := C0.2.1; have hml := C0.2.2.1; have hown := C0.2.2.2.1; have hts := C0.2.2.2.2.1
  have hl := lv_entry ([.ref zx0, .int zx1, .int zx2]) (n := 3) (Nat.le_of_ble_eq_true rfl)
  rw [lg_entry_eq]
  generalize (lg_sl ([.ref zx0, .int zx1, .int zx2]) ++ List.replicate (3 - (lg_sl ([.ref zx0, .int zx1, .int zx2])).length) Slot.unset).toArray = ls at hl ⊢
  have hl : lv_has ls 3 [(0, .ref zx0), (1, .int zx1), (2, .int zx2)] := hl
  unfold m9_isSound at hf
  refine lv_iload_n hx hb dX9_isSound_0 rfl (lv_at hl 1 rfl) ?_
  obtain ⟨zv1, ze2, hf⟩ := nn_some hf
  refine x_ci (r := zv1) (I1 := I) (X1 := X) (x_runS (As := [.int zx1]) (rest := []) C0 (c9_isReel l E G fl X I zx1 ze2) hw wd123 wd613 wd614 wd612 ⟨rfl, rfl⟩ hy9_isReel ⟨Nat.le_of_ble_eq_true rfl, Nat.le_of_ble_eq_true rfl⟩ rfl hl.1 (Nat.le_of_ble_eq_true rfl) ⟨Nat.zero_le _, Nat.zero_le _⟩ dX9_isSound_1) hw (fun H locs hw => ?_)
  refine lv_if_eq (tgt := 27) hx hb dX9_isSound_4 (by decide) (fun zc3 => ?_) (fun zc3 => ?_)
  · have hf := ite_t hf zc3
    exact w9_isSound_27 C0 hr hz fl _ _ _ hw (lv_sub hl [] rfl) hf
  · have hf := ite_f hf zc3
    refine lv_iload_n hx hb dX9_isSound_7 rfl (lv_at hl 2 rfl) ?_
    refine lv_iconst (v := (0 : Int32)) hx hb dX9_isSound_8 (by decide) ?_
    refine lv_aload_n hx hb dX9_isSound_9 rfl (lv_at hl 0 rfl) ?_
    refine lv_iload_n hx hb dX9_isSound_10 rfl (lv_at hl 1 rfl) ?_
    refine lv_iconst (v := (3 : Int32)) hx hb dX9_isSound_11 (by decide) ?_
    obtain ⟨zv4, ze5, hf⟩ := nn_some hf
    refine x_ci (r := zv4) (I1 := I) (X1 := X) (x_runV (As := [.int zx1, .int (3 : Int32)]) (rest := [.int (0 : Int32), .int zx2]) C0 (c9_reel l E G fl X I zx0 zx1 (3 : Int32) zt0 ze5) hw 9 zt0 (by decide) rfl wd119 wd615 wd616 wd617 wd612 ⟨rfl, rfl⟩ hy9_reel ⟨Nat.le_of_ble_eq_true rfl, Nat.le_of_ble_eq_true rfl⟩ rfl hl.1 (Nat.le_of_ble_eq_true rfl) ⟨Nat.zero_le _, Nat.zero_le _⟩ dX9_isSound_12) hw (fun H locs hw => ?_)
    refine lv_iconst (v := (1 : Int32)) hx hb dX9_isSound_15 (by decide) ?_
    refine lv_isub hx hb dX9_isSound_16 ?_
    obtain ⟨zv6, ze7, hf⟩ := nn_some hf
    refine x_ci (r := zv6) (I1 := I) (X1 := X) (x_runS (As := [.int zx2, .int (0 : Int32), .int (zv4 - (1 : Int32))]) (rest := []) C0 (c9_in l E G fl X I zx2 (0 : Int32) (zv4 - (1 : Int32)) ze7) hw wd113 wd610 wd611 wd612 ⟨rfl, rfl⟩ hy9_in ⟨Nat.le_of_ble_eq_true rfl, Nat.le_of_ble_eq_true rfl⟩ rfl hl.1 (Nat.le_of_ble_eq_true rfl) ⟨Nat.zero_le _, Nat.zero_le _⟩ dX9_isSound_17) hw (fun H locs hw => ?_)
    refine lv_if_eq (tgt := 27) hx hb dX9_isSound_20 (by decide) (fun zc8 => ?_) (fun zc8 => ?_)
    · have hf := ite_t hf zc8
      exact w9_isSound_27 C0 hr hz fl _ _ _ hw (lv_sub hl [] rfl) hf
    · have hf := ite_f hf zc8
      refine lv_iconst (v := (1 : Int32)) hx hb dX9_isSound_23 (by decide) ?_
      refine lv_goto (tgt := 28) hx hb dX9_isSound_24 (by decide) ?_
      exact w9_isSound_28 C0 hr hz fl _ _ _ (1 : Int32) hw (lv_sub hl [] rfl) hf
noncomputable def m9_beginning_5b (fl : Nat) (len : Nat → Nat) (X : Xm) (I : Im) (zr5 : Nat → Int32 → Int32 → Int32 → Int32 → Option (Int32)) (zx0 : Nat) (zx1 : Int32) (zx2 : Int32) (zx3 : Int32) (zx4 : Int32) : Option (Int32) :=
  if zx2 ≤ zx4 then
    some (zx3)
  else
    nn (gR X 144 zx0) fun zv2 =>
    nn (m9_soundAt fl len X I zx1 zx4) fun zv3 =>
    ck (inb (zv3 + (0 : Int32)) (len zv2) = true) <|
    lt ((zx3 + (gA I zv2 ((zv3 + (0 : Int32))).toNatClampNeg))) fun zv6 =>
    lt (zx4 + 1) fun zv7 =>
    zr5 zx0 zx1 zx2 zv6 zv7
noncomputable def m9_beginning_5 (fl : Nat) (len : Nat → Nat) (X : Xm) (I : Im) (n : Nat) : Nat → Int32 → Int32 → Int32 → Int32 → Option (Int32) :=
  Nat.rec (fun _ _ _ _ _ => none) (fun _ r => m9_beginning_5b fl len X I r) n
set_option maxHeartbeats 4000000 in
set_option maxRecDepth 100000 in
theorem w9_beginning_5b {p : Program} {l : Launch} {e : Env} {s : State} {m : MethodId} {args : Array Value} {below : List Frame} {meth : Method} {c : Code} {E : EN} {G : GM} {X : Xm} {I : Im} (C0 : CX p s m args meth c E cX9_beginning RX9 5) (hr : meth.sig.returnType = (some .int)) (hz : s.heap.size + 0 ≤ eB E + G.1) {rr : Int32} (fl : Nat) (zr5 : Nat → Int32 → Int32 → Int32 → Int32 → Option (Int32)) (zhr5 : ∀ (H : Heap) (locs : List Loc) (ls : Array Slot) (zx0 : Nat) (zx1 : Int32) (zx2 : Int32) (zx3 : Int32) (zx4 : Int32) (zt0 : okA E G 9 zx0), WD E G I X s.heap H locs → lv_has ls 5 [(0, .ref zx0), (1, .int zx1), (2, .int zx2), (3, .int zx3), (4, .int zx4)] → zr5 zx0 zx1 zx2 zx3 zx4 = some rr → W p l e ({ frames := 1, cells := 0, slots := 0, locals := 21 } : Room) s m args below meth c H locs 0 0 (MQ below (QI E G rr I X) args s 0 0 (eA E)) (F0 m 5 ls [])) : ∀ (H : Heap) (locs : List Loc) (ls : Array Slot) (zx0 : Nat) (zx1 : Int32) (zx2 : Int32) (zx3 : Int32) (zx4 : Int32) (zt0 : okA E G 9 zx0), WD E G I X s.heap H locs → lv_has ls 5 [(0, .ref zx0), (1, .int zx1), (2, .int zx2), (3, .int zx3), (4, .int zx4)] → m9_beginning_5b fl G.2.2 X I zr5 zx0 zx1 zx2 zx3 zx4 = some rr → W p l e ({ frames := 1, cells := 0, slots := 0, locals := 21 } : Room) s m args below meth c H locs 0 0 (MQ below (QI E G rr I X) args s 0 0 (eA E)) (F0 m 5 ls []) := by
  intro H locs ls zx0 zx1 zx2 zx3 zx4 zt0 hw hl hf
  unfold m9_beginning_5b at hf
  have hx := C0.1; have hb := C0.2.1; have hml := C0.2.2.1; have hown := C0.2.2.2.1; have hts := C0.2.2.2.2.1
  refine lv_iload hx hb dX9_beginning_5 (lv_at hl 4 rfl) ?_
  refine lv_iload_n hx hb dX9_beginning_7 rfl (lv_at hl 2 rfl) ?_
  refine lv_icmp_ge (tgt := 33) hx hb dX9_beginning_8 (by decide) (fun zc1 => ?_) (fun zc1 => ?_)
  · have hf := ite_t hf zc1
    refine lv_iload_n hx hb dX9_beginning_33 rfl (lv_at hl 3 rfl) ?_
    obtain rfl := Option.some.inj hf
    exact x_iret C0 hr hw dX9_beginning_34
  · have hf := ite_f hf zc1
    refine lv_iload_n hx hb dX9_beginning_11 rfl (lv_at hl 3 rfl) ?_
    refine lv_aload_n hx hb dX9_beginning_12 rfl (lv_at hl 0 rfl) ?_
    obtain ⟨zv2, ezv2, hf⟩ := nn_some hf
    have tzv2 : okA E G 11 zv2 := wt_r hw ezv2
    refine xg_9_0 C0 hw zt0 wd601 ezv2 dX9_beginning_13 ?_
    refine lv_iload_n hx hb dX9_beginning_16 rfl (lv_at hl 1 rfl) ?_
    refine lv_iload hx hb dX9_beginning_17 (lv_at hl 4 rfl) ?_
    obtain ⟨zv3, ze4, hf⟩ := nn_some hf
    refine x_ci (r := zv3) (I1 := I) (X1 := X) (x_runS (As := [.int zx1, .int zx4]) (rest := [.ref zv2, .int zx3]) C0 (c9_soundAt l E G fl X I zx1 zx4 ze4) hw wd121 wd618 wd619 wd612 ⟨rfl, rfl⟩ hy9_soundAt ⟨Nat.le_of_ble_eq_true rfl, Nat.le_of_ble_eq_true rfl⟩ rfl hl.1 (Nat.le_of_ble_eq_true rfl) ⟨Nat.zero_le _, Nat.zero_le _⟩ dX9_beginning_19) hw (fun H locs hw => ?_)
    refine lv_iconst (v := (0 : Int32)) hx hb dX9_beginning_22 (by decide) ?_
    refine lv_iadd hx hb dX9_beginning_23 ?_
    obtain ⟨zhb5, hf⟩ := ck_some hf
    refine x_iald C0 hw tzv2 zhb5 dX9_beginning_24 ?_
    refine lv_iadd hx hb dX9_beginning_25 ?_
    refine lv_topi (fun zv6 ezv6 => ?_)
    have hf := lt_at hf ezv6
    refine lv_istore_n (lv' := [(3, .int zv6), (0, .ref zx0), (1, .int zx1), (2, .int zx2), (4, .int zx4)]) hx hb dX9_beginning_26 rfl hl (by decide) rfl (fun ls hl => ?_)
    obtain ⟨zv7, ezv7⟩ : ∃ y : Int32, y = zx4 + 1 := ⟨_, rfl⟩
    have hf := lt_at hf ezv7
    refine lv_iinc (v := zv7) (lv' := [(4, .int zv7), (3, .int zv6), (0, .ref zx0), (1, .int zx1), (2, .int zx2)]) hx hb dX9_beginning_27 hl (k := 4) rfl (by rw [ezv7]; rfl) (by decide) rfl (fun ls hl => ?_)
    refine lv_goto (tgt := 5) hx hb dX9_beginning_30 (by decide) ?_
    exact zhr5 _ _ _ zx0 zx1 zx2 zv6 zv7 zt0 hw (lv_sub hl [2, 3, 4, 1, 0] rfl) hf
theorem w9_beginning_5 {p : Program} {l : Launch} {e : Env} {s : State} {m : MethodId} {args : Array Value} {below : List Frame} {meth : Method} {c : Code} {E : EN} {G : GM} {X : Xm} {I : Im} (C0 : CX p s m args meth c E cX9_beginning RX9 5) (hr : meth.sig.returnType = (some .int)) (hz : s.heap.size + 0 ≤ eB E + G.1) {rr : Int32} (fl : Nat) : ∀ (n : Nat) (H : Heap) (locs : List Loc) (ls : Array Slot) (zx0 : Nat) (zx1 : Int32) (zx2 : Int32) (zx3 : Int32) (zx4 : Int32) (zt0 : okA E G 9 zx0), WD E G I X s.heap H locs → lv_has ls 5 [(0, .ref zx0), (1, .int zx1), (2, .int zx2), (3, .int zx3), (4, .int zx4)] → m9_beginning_5 fl G.2.2 X I n zx0 zx1 zx2 zx3 zx4 = some rr → W p l e ({ frames := 1, cells := 0, slots := 0, locals := 21 } : Room) s m args below meth c H locs 0 0 (MQ below (QI E G rr I X) args s 0 0 (eA E)) (F0 m 5 ls []) := by
  intro n
  induction n with
  | zero => intro H locs ls zx0 zx1 zx2 zx3 zx4 zt0 hw hl hf; exact absurd (show (none : Option (Int32)) = some rr from hf) (by simp)
  | succ n ih => intro H locs ls zx0 zx1 zx2 zx3 zx4 zt0 hw hl hf; exact w9_beginning_5b C0 hr hz fl _ ih H locs ls zx0 zx1 zx2 zx3 zx4 zt0 hw hl hf
noncomputable def m9_beginning (fl : Nat) (len : Nat → Nat) (X : Xm) (I : Im) (zx0 : Nat) (zx1 : Int32) (zx2 : Int32) : Option (Int32) :=
  m9_beginning_5 fl len X I fl zx0 zx1 zx2 (0 : Int32) (0 : Int32)
theorem hy9_beginning : yX9_beginning.cls = RX9 ∧ yX9_beginning.cls ≠ "java/lang/invoke/MethodHandle" ∧ yX9_beginning.cls ≠ "java/lang/invoke/VarHandle" ∧ (parseMethodDescriptor yX9_beginning.desc).map (fun d => d.parameters.length) = some 2 := ⟨rfl, by decide +kernel, by decide +kernel, by decide +kernel⟩
set_option maxHeartbeats 4000000 in
set_option maxRecDepth 100000 in
theorem c9_beginning (l : Launch) (E : EN) (G : GM) (fl : Nat) (X : Xm) (I : Im) (zx0 : Nat) (zx1 : Int32) (zx2 : Int32) (zt0 : okA E G 9 zx0) {rr : Int32} (hf : m9_beginning fl G.2.2 X I zx0 zx1 zx2 = some rr) : MT l yX9_beginning cX9_beginning 5 (some .int) ({ frames := 1, cells := 0, slots := 0, locals := 21 } : Room) E G I X [.ref zx0, .int zx1, .int zx2] (QI E G rr I X) 0 0 := by
  refine Met.ofW (cc := cX9_beginning) (maxL := 5) (ret := (some .int)) (by decide +kernel) rfl ?_
  intro p e s m args below meth c s₁ B hml hv
  obtain ⟨rfl, hw0, hSE⟩ := hv
  have C0 : CX p s m ([.ref zx0, .int zx1, .int zx2] : List Value).toArray meth c E cX9_beginning RX9 5 := ⟨B.exec, B.bytes, hml, findClass_of_methodNamed B.named, fun w hw => atoms_spec (ws := WS yX9_beginning cX9_beginning 5 (some .int)) B.pre w (List.mem_cons_of_mem _ hw), B.notSynchronized, hSE⟩
  have hz : s.heap.size + 0 ≤ eB E + G.1 := Nat.le_of_eq hw0.2.1
  have hw : WD E G I X s.heap s.heap [] := ⟨hw0, va_S.rf⟩
  have hr := B.returns
  have hx := C0.1; have hb := C0.2.1; have hml := C0.2.2.1; have hown := C0.2.2.2.1; have hts := C0.2.2.2.2.1
  have hl := lv_entry ([.ref zx0, .int zx1, .int zx2]) (n := 5) (Nat.le_of_ble_eq_true rfl)
  rw [lg_entry_eq]
  generalize (lg_sl ([.ref zx0, .int zx1, .int zx2]) ++ List.replicate (5 - (lg_sl ([.ref zx0, .int zx1, .int zx2])).length) Slot.unset).toArray = ls at hl ⊢
  have hl : lv_has ls 5 [(0, .ref zx0), (1, .int zx1), (2, .int zx2)] := hl
  unfold m9_beginning at hf
  refine lv_iconst (v := (0 : Int32)) hx hb dX9_beginning_0 (by decide) ?_
  refine lv_istore_n (lv' := [(3, .int (0 : Int32)), (0, .ref zx0), (1, .int zx1), (2, .int zx2)]) hx hb dX9_beginning_1 rfl hl (by decide) rfl (fun ls hl => ?_)
  refine lv_iconst (v := (0 : Int32)) hx hb dX9_beginning_2 (by decide) ?_
  refine lv_istore (lv' := [(4, .int (0 : Int32)), (3, .int (0 : Int32)), (0, .ref zx0), (1, .int zx1), (2, .int zx2)]) hx hb dX9_beginning_3 hl (by decide) rfl (fun ls hl => ?_)
  exact w9_beginning_5 C0 hr hz fl fl _ _ _ zx0 zx1 zx2 (0 : Int32) (0 : Int32) zt0 hw (lv_sub hl [2, 3, 4, 1, 0] rfl) hf
noncomputable def m9_starts_73 (fl : Nat) (len : Nat → Nat) (X : Xm) (I : Im) (zx0 : Nat) (zx3 : Int32) (p_144 : Nat) : Option (Im) :=
  ck (inb (zx3 + (2 : Int32)) (len p_144) = true) <|
  lt (pA I p_144 ((zx3 + (2 : Int32))).toNatClampNeg ((gA I p_144 ((zx3 + (2 : Int32))).toNatClampNeg) + (1 : Int32))) fun zI2 =>
  some (zI2)
set_option maxHeartbeats 4000000 in
set_option maxRecDepth 100000 in
theorem w9_starts_73 {p : Program} {l : Launch} {e : Env} {s : State} {m : MethodId} {args : Array Value} {below : List Frame} {meth : Method} {c : Code} {E : EN} {G : GM} {X : Xm} (C0 : CX p s m args meth c E cX9_starts RX9 4) (hr : meth.sig.returnType = none) (hz : s.heap.size + 0 ≤ eB E + G.1) {rr : Im} (fl : Nat) : ∀ (I : Im) (H : Heap) (locs : List Loc) (ls : Array Slot) (zx0 : Nat) (zx3 : Int32) (p_144 : Nat) (zt0 : okA E G 9 zx0) (ep_144 : gR X 144 zx0 = some p_144) (tp_144 : okA E G 11 p_144), WD E G I X s.heap H locs → lv_has ls 4 [(0, .ref zx0), (3, .int zx3)] → m9_starts_73 fl G.2.2 X I zx0 zx3 p_144 = some rr → W p l e ({ frames := 1, cells := 0, slots := 0, locals := 23 } : Room) s m args below meth c H locs 0 0 (MQ below (QV E G rr X) args s 0 0 (eA E)) (F0 m 73 ls []) := by
  intro I H locs ls zx0 zx3 p_144 zt0 ep_144 tp_144 hw hl hf
  unfold m9_starts_73 at hf
  have hx := C0.1; have hb := C0.2.1; have hml := C0.2.2.1; have hown := C0.2.2.2.1; have hts := C0.2.2.2.2.1
  refine lv_aload_n hx hb dX9_starts_73 rfl (lv_at hl 0 rfl) ?_
  refine xg_9_0 C0 hw zt0 wd601 ep_144 dX9_starts_74 ?_
  refine lv_iload_n hx hb dX9_starts_77 rfl (lv_at hl 1 rfl) ?_
  refine lv_iconst (v := (2 : Int32)) hx hb dX9_starts_78 (by decide) ?_
  refine lv_iadd hx hb dX9_starts_79 ?_
  refine lv_dup2_11 hx hb dX9_starts_80 rfl rfl ?_
  obtain ⟨zhb1, hf⟩ := ck_some hf
  refine x_iald C0 hw tp_144 zhb1 dX9_starts_81 ?_
  refine lv_iconst (v := (1 : Int32)) hx hb dX9_starts_82 (by decide) ?_
  refine lv_iadd hx hb dX9_starts_83 ?_
  obtain ⟨zI2, ezI2⟩ : ∃ y : Im, y = pA I p_144 ((zx3 + (2 : Int32))).toNatClampNeg ((gA I p_144 ((zx3 + (2 : Int32))).toNatClampNeg) + (1 : Int32)) := ⟨_, rfl⟩
  have hf := lt_at hf ezI2
  refine x_iast C0 hz hw tp_144 zhb1 dX9_starts_84 ezI2 (fun H locs hw => ?_)
  obtain rfl := Option.some.inj hf
  exact x_vret C0 hr hw dX9_starts_85
noncomputable def m9_starts (fl : Nat) (len : Nat → Nat) (X : Xm) (I : Im) (zx0 : Nat) (zx1 : Int32) (zx2 : Int32) : Option (Im) :=
  nn (m9_soundAt fl len X I zx1 zx2) fun zv1 =>
  nn (m9_turn fl len X I zx0 zx1 (1 : Int32) (zx2 + (1 : Int32))) fun zI3 =>
  nn (gR X 144 zx0) fun zv5 =>
  ck (inb (zv1 + (0 : Int32)) (len zv5) = true) <|
  nn (m9_turn fl len X zI3 zx0 zx1 (2 : Int32) (gA zI3 zv5 ((zv1 + (0 : Int32))).toNatClampNeg)) fun zI7 =>
  ck (inb (zv1 + (2 : Int32)) (len zv5) = true) <|
  if (gA zI7 zv5 ((zv1 + (2 : Int32))).toNatClampNeg) = 0 then
    ck (inb (7 : Int32) (len zv5) = true) <|
    ck (inb ((296 : Int32) + (gA zI7 zv5 ((7 : Int32)).toNatClampNeg)) (len zv5) = true) <|
    lt (pA zI7 zv5 (((296 : Int32) + (gA zI7 zv5 ((7 : Int32)).toNatClampNeg))).toNatClampNeg (((6 : Int32) * zx1) + zx2)) fun zI13 =>
    lt (pA zI13 zv5 ((7 : Int32)).toNatClampNeg ((gA zI13 zv5 ((7 : Int32)).toNatClampNeg) + (1 : Int32))) fun zI14 =>
    m9_starts_73 fl len X zI14 zx0 zv1 zv5
  else
    m9_starts_73 fl len X zI7 zx0 zv1 zv5
theorem hy9_starts : yX9_starts.cls = RX9 ∧ yX9_starts.cls ≠ "java/lang/invoke/MethodHandle" ∧ yX9_starts.cls ≠ "java/lang/invoke/VarHandle" ∧ (parseMethodDescriptor yX9_starts.desc).map (fun d => d.parameters.length) = some 2 := ⟨rfl, by decide +kernel, by decide +kernel, by decide +kernel⟩
set_option maxHeartbeats 4000000 in
set_option maxRecDepth 100000 in
theorem c9_starts (l : Launch) (E : EN) (G : GM) (fl : Nat) (X : Xm) (I : Im) (zx0 : Nat) (zx1 : Int32) (zx2 : Int32) (zt0 : okA E G 9 zx0) {rr : Im} (hf : m9_starts fl G.2.2 X I zx0 zx1 zx2 = some rr) : MT l yX9_starts cX9_starts 4 none ({ frames := 1, cells := 0, slots := 0, locals := 23 } : Room) E G I X [.ref zx0, .int zx1, .int zx2] (QV E G rr X) 0 0 := by
  refine Met.ofW (cc := cX9_starts) (maxL := 4) (ret := none) (by decide +kernel) rfl ?_
  intro p e s m args below meth c s₁ B hml hv
  obtain ⟨rfl, hw0, hSE⟩ := hv
  have C0 : CX p s m ([.ref zx0, .int zx1, .int zx2] : List Value).toArray meth c E cX9_starts RX9 4 := ⟨B.exec, B.bytes, hml, findClass_of_methodNamed B.named, fun w hw => atoms_spec (ws := WS yX9_starts cX9_starts 4 none) B.pre w (List.mem_cons_of_mem _ hw), B.notSynchronized, hSE⟩
  have hz : s.heap.size + 0 ≤ eB E + G.1 := Nat.le_of_eq hw0.2.1
  have hw : WD E G I X s.heap s.heap [] := ⟨hw0, va_S.rf⟩
  have hr := B.returns
  have hx := C0.1; have hb := C0.2.1; have hml := C0.2.2.1; have hown := C0.2.2.2.1; have hts := C0.2.2.2.2.1
  have hl := lv_entry ([.ref zx0, .int zx1, .int zx2]) (n := 4) (Nat.le_of_ble_eq_true rfl)
  rw [lg_entry_eq]
  generalize (lg_sl ([.ref zx0, .int zx1, .int zx2]) ++ List.replicate (4 - (lg_sl ([.ref zx0, .int zx1, .int zx2])).length) Slot.unset).toArray = ls at hl ⊢
  have hl : lv_has ls 4 [(0, .ref zx0), (1, .int zx1), (2, .int zx2)] := hl
  unfold m9_starts at hf
  refine lv_iload_n hx hb dX9_starts_0 rfl (lv_at hl 1 rfl) ?_
  refine lv_iload_n hx hb dX9_starts_1 rfl (lv_at hl 2 rfl) ?_
  obtain ⟨zv1, ze2, hf⟩ := nn_some hf
  refine x_ci (r := zv1) (I1 := I) (X1 := X) (x_runS (As := [.int zx1, .int zx2]) (rest := []) C0 (c9_soundAt l E G fl X I zx1 zx2 ze2) hw wd121 wd618 wd619 wd612 ⟨rfl, rfl⟩ hy9_soundAt ⟨Nat.le_of_ble_eq_true rfl, Nat.le_of_ble_eq_true rfl⟩ rfl hl.1 (Nat.le_of_ble_eq_true rfl) ⟨Nat.zero_le _, Nat.zero_le _⟩ dX9_starts_2) hw (fun H locs hw => ?_)
  refine lv_istore_n (lv' := [(3, .int zv1), (0, .ref zx0), (1, .int zx1), (2, .int zx2)]) hx hb dX9_starts_5 rfl hl (by decide) rfl (fun ls hl => ?_)
  refine lv_aload_n hx hb dX9_starts_6 rfl (lv_at hl 1 rfl) ?_
  refine lv_iload_n hx hb dX9_starts_7 rfl (lv_at hl 2 rfl) ?_
  refine lv_iconst (v := (1 : Int32)) hx hb dX9_starts_8 (by decide) ?_
  refine lv_iload_n hx hb dX9_starts_9 rfl (lv_at hl 3 rfl) ?_
  refine lv_iconst (v := (1 : Int32)) hx hb dX9_starts_10 (by decide) ?_
  refine lv_iadd hx hb dX9_starts_11 ?_
  obtain ⟨zI3, ze4, hf⟩ := nn_some hf
  refine x_cv (I1 := zI3) (X1 := X) (x_runV (As := [.int zx1, .int (1 : Int32), .int (zx2 + (1 : Int32))]) (rest := []) C0 (c9_turn l E G fl X I zx0 zx1 (1 : Int32) (zx2 + (1 : Int32)) zt0 ze4) hw 9 zt0 (by decide) rfl wd120 wd620 wd621 wd622 wd612 ⟨rfl, rfl⟩ hy9_turn ⟨Nat.le_of_ble_eq_true rfl, Nat.le_of_ble_eq_true rfl⟩ rfl hl.1 (Nat.le_of_ble_eq_true rfl) ⟨Nat.zero_le _, Nat.zero_le _⟩ dX9_starts_12) hw (fun H locs hw => ?_)
  refine lv_aload_n hx hb dX9_starts_15 rfl (lv_at hl 1 rfl) ?_
  refine lv_iload_n hx hb dX9_starts_16 rfl (lv_at hl 2 rfl) ?_
  refine lv_iconst (v := (2 : Int32)) hx hb dX9_starts_17 (by decide) ?_
  refine lv_aload_n hx hb dX9_starts_18 rfl (lv_at hl 1 rfl) ?_
  obtain ⟨zv5, ezv5, hf⟩ := nn_some hf
  have tzv5 : okA E G 11 zv5 := wt_r hw ezv5
  refine xg_9_0 C0 hw zt0 wd601 ezv5 dX9_starts_19 ?_
  refine lv_iload_n hx hb dX9_starts_22 rfl (lv_at hl 0 rfl) ?_
  refine lv_iconst (v := (0 : Int32)) hx hb dX9_starts_23 (by decide) ?_
  refine lv_iadd hx hb dX9_starts_24 ?_
  obtain ⟨zhb6, hf⟩ := ck_some hf
  refine x_iald C0 hw tzv5 zhb6 dX9_starts_25 ?_
  obtain ⟨zI7, ze8, hf⟩ := nn_some hf
  refine x_cv (I1 := zI7) (X1 := X) (x_runV (As := [.int zx1, .int (2 : Int32), .int (gA zI3 zv5 ((zv1 + (0 : Int32))).toNatClampNeg)]) (rest := []) C0 (c9_turn l E G fl X zI3 zx0 zx1 (2 : Int32) (gA zI3 zv5 ((zv1 + (0 : Int32))).toNatClampNeg) zt0 ze8) hw 9 zt0 (by decide) rfl wd120 wd620 wd621 wd622 wd612 ⟨rfl, rfl⟩ hy9_turn ⟨Nat.le_of_ble_eq_true rfl, Nat.le_of_ble_eq_true rfl⟩ rfl hl.1 (Nat.le_of_ble_eq_true rfl) ⟨Nat.zero_le _, Nat.zero_le _⟩ dX9_starts_26) hw (fun H locs hw => ?_)
  refine lv_aload_n hx hb dX9_starts_29 rfl (lv_at hl 1 rfl) ?_
  refine xg_9_0 C0 hw zt0 wd601 ezv5 dX9_starts_30 ?_
  refine lv_iload_n hx hb dX9_starts_33 rfl (lv_at hl 0 rfl) ?_
  refine lv_iconst (v := (2 : Int32)) hx hb dX9_starts_34 (by decide) ?_
  refine lv_iadd hx hb dX9_starts_35 ?_
  obtain ⟨zhb9, hf⟩ := ck_some hf
  refine x_iald C0 hw tzv5 zhb9 dX9_starts_36 ?_
  refine lv_if_ne (tgt := 73) hx hb dX9_starts_37 (by decide) (fun zc10 => ?_) (fun zc10 => ?_)
  · have hf := ite_f hf zc10
    exact w9_starts_73 C0 hr hz fl zI7 _ _ _ zx0 zv1 zv5 zt0 ezv5 tzv5 hw (lv_sub hl [1, 0] rfl) hf
  · have hf := ite_t hf zc10
    refine lv_aload_n hx hb dX9_starts_40 rfl (lv_at hl 1 rfl) ?_
    refine xg_9_0 C0 hw zt0 wd601 ezv5 dX9_starts_41 ?_
    refine lv_sipush (v := (296 : Int32)) hx hb dX9_starts_44 (by decide) ?_
    refine lv_aload_n hx hb dX9_starts_47 rfl (lv_at hl 1 rfl) ?_
    refine xg_9_0 C0 hw zt0 wd601 ezv5 dX9_starts_48 ?_
    refine lv_bipush (v := (7 : Int32)) hx hb dX9_starts_51 (by decide) ?_
    obtain ⟨zhb11, hf⟩ := ck_some hf
    refine x_iald C0 hw tzv5 zhb11 dX9_starts_53 ?_
    refine lv_iadd hx hb dX9_starts_54 ?_
    refine lv_bipush (v := (6 : Int32)) hx hb dX9_starts_55 (by decide) ?_
    refine lv_iload_n hx hb dX9_starts_57 rfl (lv_at hl 2 rfl) ?_
    refine lv_imul hx hb dX9_starts_58 ?_
    refine lv_iload_n hx hb dX9_starts_59 rfl (lv_at hl 3 rfl) ?_
    refine lv_iadd hx hb dX9_starts_60 ?_
    obtain ⟨zhb12, hf⟩ := ck_some hf
    obtain ⟨zI13, ezI13⟩ : ∃ y : Im, y = pA zI7 zv5 (((296 : Int32) + (gA zI7 zv5 ((7 : Int32)).toNatClampNeg))).toNatClampNeg (((6 : Int32) * zx1) + zx2) := ⟨_, rfl⟩
    have hf := lt_at hf ezI13
    refine x_iast C0 hz hw tzv5 zhb12 dX9_starts_61 ezI13 (fun H locs hw => ?_)
    refine lv_aload_n hx hb dX9_starts_62 rfl (lv_at hl 1 rfl) ?_
    refine xg_9_0 C0 hw zt0 wd601 ezv5 dX9_starts_63 ?_
    refine lv_bipush (v := (7 : Int32)) hx hb dX9_starts_66 (by decide) ?_
    refine lv_dup2_11 hx hb dX9_starts_68 rfl rfl ?_
    refine x_iald C0 hw tzv5 zhb11 dX9_starts_69 ?_
    refine lv_iconst (v := (1 : Int32)) hx hb dX9_starts_70 (by decide) ?_
    refine lv_iadd hx hb dX9_starts_71 ?_
    obtain ⟨zI14, ezI14⟩ : ∃ y : Im, y = pA zI13 zv5 ((7 : Int32)).toNatClampNeg ((gA zI13 zv5 ((7 : Int32)).toNatClampNeg) + (1 : Int32)) := ⟨_, rfl⟩
    have hf := lt_at hf ezI14
    refine x_iast C0 hz hw tzv5 zhb11 dX9_starts_72 ezI14 (fun H locs hw => ?_)
    exact w9_starts_73 C0 hr hz fl zI14 _ _ _ zx0 zv1 zv5 zt0 ezv5 tzv5 hw (lv_sub hl [1, 0] rfl) hf
noncomputable def m9_comes (fl : Nat) (len : Nat → Nat) (X : Xm) (I : Im) (zx0 : Nat) (zx1 : Int32) : Option (Int32 × Im) :=
  nn (m9_of fl len X I zx0 zx1 (2 : Int32)) fun zv1 =>
  nn (m9_of fl len X I zx0 zx1 (3 : Int32)) fun zv3 =>
  nn (m9_of fl len X I zx0 zx1 (1 : Int32)) fun zv5 =>
  if zv5 = (2 : Int32) then
    nn (gR X 144 zx0) fun zv32 =>
    ck (inb (((216 : Int32) + ((2 : Int32) * zv1)) + (1 : Int32)) (len zv32) = true) <|
    lt (pA I zv32 ((((216 : Int32) + ((2 : Int32) * zv1)) + (1 : Int32))).toNatClampNeg zv3) fun zI34 =>
    some ((1 : Int32), zI34)
  else
    nn (m9_of fl len X I zx0 zx1 (1 : Int32)) fun zv8 =>
    if zv8 = (1 : Int32) then
      nn (gR X 144 zx0) fun zv21 =>
      ck (inb (6 : Int32) (len zv21) = true) <|
      lt (((224 : Int32) + ((3 : Int32) * (gA I zv21 ((6 : Int32)).toNatClampNeg)))) fun zv23 =>
      ck (inb zv23 (len zv21) = true) <|
      lt (pA I zv21 (zv23).toNatClampNeg zv1) fun zI25 =>
      ck (inb (zv23 + (1 : Int32)) (len zv21) = true) <|
      lt (pA zI25 zv21 ((zv23 + (1 : Int32))).toNatClampNeg zv3) fun zI27 =>
      ck (inb (1 : Int32) (len zv21) = true) <|
      ck (inb (zv23 + (2 : Int32)) (len zv21) = true) <|
      lt (pA zI27 zv21 ((zv23 + (2 : Int32))).toNatClampNeg (gA zI27 zv21 ((1 : Int32)).toNatClampNeg)) fun zI30 =>
      lt (pA zI30 zv21 ((6 : Int32)).toNatClampNeg ((gA zI30 zv21 ((6 : Int32)).toNatClampNeg) + (1 : Int32))) fun zI31 =>
      some ((1 : Int32), zI31)
    else
      nn (m9_reel fl len X I zx0 zv1 (1 : Int32)) fun zv11 =>
      if zv11 ≤ 0 then
        nn (m9_reel fl len X I zx0 zv1 (0 : Int32)) fun zv14 =>
        nn (m9_beginning fl len X I zx0 zv1 zv3) fun zv16 =>
        if zv14 = zv16 then
          nn (m9_starts fl len X I zx0 zv1 zv3) fun zI19 =>
          some ((1 : Int32), zI19)
        else
          some ((3 : Int32), I)
      else
        some ((2 : Int32), I)
theorem hy9_comes : yX9_comes.cls = RX9 ∧ yX9_comes.cls ≠ "java/lang/invoke/MethodHandle" ∧ yX9_comes.cls ≠ "java/lang/invoke/VarHandle" ∧ (parseMethodDescriptor yX9_comes.desc).map (fun d => d.parameters.length) = some 1 := ⟨rfl, by decide +kernel, by decide +kernel, by decide +kernel⟩
set_option maxHeartbeats 4000000 in
set_option maxRecDepth 100000 in
theorem c9_comes (l : Launch) (E : EN) (G : GM) (fl : Nat) (X : Xm) (I : Im) (zx0 : Nat) (zx1 : Int32) (zt0 : okA E G 9 zx0) {rr : Int32 × Im} (hf : m9_comes fl G.2.2 X I zx0 zx1 = some rr) : MT l yX9_comes cX9_comes 5 (some .int) ({ frames := 2, cells := 0, slots := 0, locals := 46 } : Room) E G I X [.ref zx0, .int zx1] (QI E G rr.1 rr.2 X) 0 0 := by
  refine Met.ofW (cc := cX9_comes) (maxL := 5) (ret := (some .int)) (by decide +kernel) rfl ?_
  intro p e s m args below meth c s₁ B hml hv
  obtain ⟨rfl, hw0, hSE⟩ := hv
  have C0 : CX p s m ([.ref zx0, .int zx1] : List Value).toArray meth c E cX9_comes RX9 5 := ⟨B.exec, B.bytes, hml, findClass_of_methodNamed B.named, fun w hw => atoms_spec (ws := WS yX9_comes cX9_comes 5 (some .int)) B.pre w (List.mem_cons_of_mem _ hw), B.notSynchronized, hSE⟩
  have hz : s.heap.size + 0 ≤ eB E + G.1 := Nat.le_of_eq hw0.2.1
  have hw : WD E G I X s.heap s.heap [] := ⟨hw0, va_S.rf⟩
  have hr := B.returns
  have hx := C0.1; have hb := C0.2.1; have hml := C0.2.2.1; have hown := C0.2.2.2.1; have hts := C0.2.2.2.2.1
  have hl := lv_entry ([.ref zx0, .int zx1]) (n := 5) (Nat.le_of_ble_eq_true rfl)
  rw [lg_entry_eq]
  generalize (lg_sl ([.ref zx0, .int zx1]) ++ List.replicate (5 - (lg_sl ([.ref zx0, .int zx1])).length) Slot.unset).toArray = ls at hl ⊢
  have hl : lv_has ls 5 [(0, .ref zx0), (1, .int zx1)] := hl
  unfold m9_comes at hf
  refine lv_aload_n hx hb dX9_comes_0 rfl (lv_at hl 0 rfl) ?_
  refine lv_iload_n hx hb dX9_comes_1 rfl (lv_at hl 1 rfl) ?_
  refine lv_iconst (v := (2 : Int32)) hx hb dX9_comes_2 (by decide) ?_
  obtain ⟨zv1, ze2, hf⟩ := nn_some hf
  refine x_ci (r := zv1) (I1 := I) (X1 := X) (x_runV (As := [.int zx1, .int (2 : Int32)]) (rest := []) C0 (c9_of l E G fl X I zx0 zx1 (2 : Int32) zt0 ze2) hw 9 zt0 (by decide) rfl wd117 wd623 wd624 wd625 wd612 ⟨rfl, rfl⟩ hy9_of ⟨Nat.le_of_ble_eq_true rfl, Nat.le_of_ble_eq_true rfl⟩ rfl hl.1 (Nat.le_of_ble_eq_true rfl) ⟨Nat.zero_le _, Nat.zero_le _⟩ dX9_comes_3) hw (fun H locs hw => ?_)
  refine lv_istore_n (lv' := [(2, .int zv1), (0, .ref zx0), (1, .int zx1)]) hx hb dX9_comes_6 rfl hl (by decide) rfl (fun ls hl => ?_)
  refine lv_aload_n hx hb dX9_comes_7 rfl (lv_at hl 1 rfl) ?_
  refine lv_iload_n hx hb dX9_comes_8 rfl (lv_at hl 2 rfl) ?_
  refine lv_iconst (v := (3 : Int32)) hx hb dX9_comes_9 (by decide) ?_
  obtain ⟨zv3, ze4, hf⟩ := nn_some hf
  refine x_ci (r := zv3) (I1 := I) (X1 := X) (x_runV (As := [.int zx1, .int (3 : Int32)]) (rest := []) C0 (c9_of l E G fl X I zx0 zx1 (3 : Int32) zt0 ze4) hw 9 zt0 (by decide) rfl wd117 wd623 wd624 wd625 wd612 ⟨rfl, rfl⟩ hy9_of ⟨Nat.le_of_ble_eq_true rfl, Nat.le_of_ble_eq_true rfl⟩ rfl hl.1 (Nat.le_of_ble_eq_true rfl) ⟨Nat.zero_le _, Nat.zero_le _⟩ dX9_comes_10) hw (fun H locs hw => ?_)
  refine lv_istore_n (lv' := [(3, .int zv3), (2, .int zv1), (0, .ref zx0), (1, .int zx1)]) hx hb dX9_comes_13 rfl hl (by decide) rfl (fun ls hl => ?_)
  refine lv_aload_n hx hb dX9_comes_14 rfl (lv_at hl 2 rfl) ?_
  refine lv_iload_n hx hb dX9_comes_15 rfl (lv_at hl 3 rfl) ?_
  refine lv_iconst (v := (1 : Int32)) hx hb dX9_comes_16 (by decide) ?_
  obtain ⟨zv5, ze6, hf⟩ := nn_some hf
  refine x_ci (r := zv5) (I1 := I) (X1 := X) (x_runV (As := [.int zx1, .int (1 : Int32)]) (rest := []) C0 (c9_of l E G fl X I zx0 zx1 (1 : Int32) zt0 ze6) hw 9 zt0 (by decide) rfl wd117 wd623 wd624 wd625 wd612 ⟨rfl, rfl⟩ hy9_of ⟨Nat.le_of_ble_eq_true rfl, Nat.le_of_ble_eq_true rfl⟩ rfl hl.1 (Nat.le_of_ble_eq_true rfl) ⟨Nat.zero_le _, Nat.zero_le _⟩ dX9_comes_17) hw (fun H locs hw => ?_)
  refine lv_iconst (v := (2 : Int32)) hx hb dX9_comes_20 (by decide) ?_
  refine lv_icmp_ne (tgt := 41) hx hb dX9_comes_21 (by decide) (fun zc7 => ?_) (fun zc7 => ?_)
  · have hf := ite_f hf zc7
    refine lv_aload_n hx hb dX9_comes_41 rfl (lv_at hl 2 rfl) ?_
    refine lv_iload_n hx hb dX9_comes_42 rfl (lv_at hl 3 rfl) ?_
    refine lv_iconst (v := (1 : Int32)) hx hb dX9_comes_43 (by decide) ?_
    obtain ⟨zv8, ze9, hf⟩ := nn_some hf
    refine x_ci (r := zv8) (I1 := I) (X1 := X) (x_runV (As := [.int zx1, .int (1 : Int32)]) (rest := []) C0 (c9_of l E G fl X I zx0 zx1 (1 : Int32) zt0 ze9) hw 9 zt0 (by decide) rfl wd117 wd623 wd624 wd625 wd612 ⟨rfl, rfl⟩ hy9_of ⟨Nat.le_of_ble_eq_true rfl, Nat.le_of_ble_eq_true rfl⟩ rfl hl.1 (Nat.le_of_ble_eq_true rfl) ⟨Nat.zero_le _, Nat.zero_le _⟩ dX9_comes_44) hw (fun H locs hw => ?_)
    refine lv_iconst (v := (1 : Int32)) hx hb dX9_comes_47 (by decide) ?_
    refine lv_icmp_ne (tgt := 112) hx hb dX9_comes_48 (by decide) (fun zc10 => ?_) (fun zc10 => ?_)
    · have hf := ite_f hf zc10
      refine lv_aload_n hx hb dX9_comes_112 rfl (lv_at hl 2 rfl) ?_
      refine lv_iload_n hx hb dX9_comes_113 rfl (lv_at hl 1 rfl) ?_
      refine lv_iconst (v := (1 : Int32)) hx hb dX9_comes_114 (by decide) ?_
      obtain ⟨zv11, ze12, hf⟩ := nn_some hf
      refine x_ci (r := zv11) (I1 := I) (X1 := X) (x_runV (As := [.int zv1, .int (1 : Int32)]) (rest := []) C0 (c9_reel l E G fl X I zx0 zv1 (1 : Int32) zt0 ze12) hw 9 zt0 (by decide) rfl wd119 wd615 wd616 wd617 wd612 ⟨rfl, rfl⟩ hy9_reel ⟨Nat.le_of_ble_eq_true rfl, Nat.le_of_ble_eq_true rfl⟩ rfl hl.1 (Nat.le_of_ble_eq_true rfl) ⟨Nat.zero_le _, Nat.zero_le _⟩ dX9_comes_115) hw (fun H locs hw => ?_)
      refine lv_if_le (tgt := 123) hx hb dX9_comes_118 (by decide) (fun zc13 => ?_) (fun zc13 => ?_)
      · have hf := ite_t hf zc13
        refine lv_aload_n hx hb dX9_comes_123 rfl (lv_at hl 2 rfl) ?_
        refine lv_iload_n hx hb dX9_comes_124 rfl (lv_at hl 1 rfl) ?_
        refine lv_iconst (v := (0 : Int32)) hx hb dX9_comes_125 (by decide) ?_
        obtain ⟨zv14, ze15, hf⟩ := nn_some hf
        refine x_ci (r := zv14) (I1 := I) (X1 := X) (x_runV (As := [.int zv1, .int (0 : Int32)]) (rest := []) C0 (c9_reel l E G fl X I zx0 zv1 (0 : Int32) zt0 ze15) hw 9 zt0 (by decide) rfl wd119 wd615 wd616 wd617 wd612 ⟨rfl, rfl⟩ hy9_reel ⟨Nat.le_of_ble_eq_true rfl, Nat.le_of_ble_eq_true rfl⟩ rfl hl.1 (Nat.le_of_ble_eq_true rfl) ⟨Nat.zero_le _, Nat.zero_le _⟩ dX9_comes_126) hw (fun H locs hw => ?_)
        refine lv_aload_n hx hb dX9_comes_129 rfl (lv_at hl 2 rfl) ?_
        refine lv_iload_n hx hb dX9_comes_130 rfl (lv_at hl 1 rfl) ?_
        refine lv_iload_n hx hb dX9_comes_131 rfl (lv_at hl 0 rfl) ?_
        obtain ⟨zv16, ze17, hf⟩ := nn_some hf
        refine x_ci (r := zv16) (I1 := I) (X1 := X) (x_runV (As := [.int zv1, .int zv3]) (rest := [.int zv14]) C0 (c9_beginning l E G fl X I zx0 zv1 zv3 zt0 ze17) hw 9 zt0 (by decide) rfl wd125 wd626 wd627 wd628 wd612 ⟨rfl, rfl⟩ hy9_beginning ⟨Nat.le_of_ble_eq_true rfl, Nat.le_of_ble_eq_true rfl⟩ rfl hl.1 (Nat.le_of_ble_eq_true rfl) ⟨Nat.zero_le _, Nat.zero_le _⟩ dX9_comes_132) hw (fun H locs hw => ?_)
        refine lv_icmp_eq (tgt := 140) hx hb dX9_comes_135 (by decide) (fun zc18 => ?_) (fun zc18 => ?_)
        · have hf := ite_t hf zc18
          refine lv_aload_n hx hb dX9_comes_140 rfl (lv_at hl 2 rfl) ?_
          refine lv_iload_n hx hb dX9_comes_141 rfl (lv_at hl 1 rfl) ?_
          refine lv_iload_n hx hb dX9_comes_142 rfl (lv_at hl 0 rfl) ?_
          obtain ⟨zI19, ze20, hf⟩ := nn_some hf
          refine x_cv (I1 := zI19) (X1 := X) (x_runV (As := [.int zv1, .int zv3]) (rest := []) C0 (c9_starts l E G fl X I zx0 zv1 zv3 zt0 ze20) hw 9 zt0 (by decide) rfl wd126 wd629 wd630 wd631 wd612 ⟨rfl, rfl⟩ hy9_starts ⟨Nat.le_of_ble_eq_true rfl, Nat.le_of_ble_eq_true rfl⟩ rfl hl.1 (Nat.le_of_ble_eq_true rfl) ⟨Nat.zero_le _, Nat.zero_le _⟩ dX9_comes_143) hw (fun H locs hw => ?_)
          refine lv_iconst (v := (1 : Int32)) hx hb dX9_comes_146 (by decide) ?_
          obtain rfl := Option.some.inj hf
          exact x_iret C0 hr hw dX9_comes_147
        · have hf := ite_f hf zc18
          refine lv_iconst (v := (3 : Int32)) hx hb dX9_comes_138 (by decide) ?_
          obtain rfl := Option.some.inj hf
          exact x_iret C0 hr hw dX9_comes_139
      · have hf := ite_f hf zc13
        refine lv_iconst (v := (2 : Int32)) hx hb dX9_comes_121 (by decide) ?_
        obtain rfl := Option.some.inj hf
        exact x_iret C0 hr hw dX9_comes_122
    · have hf := ite_t hf zc10
      refine lv_sipush (v := (224 : Int32)) hx hb dX9_comes_51 (by decide) ?_
      refine lv_iconst (v := (3 : Int32)) hx hb dX9_comes_54 (by decide) ?_
      refine lv_aload_n hx hb dX9_comes_55 rfl (lv_at hl 2 rfl) ?_
      obtain ⟨zv21, ezv21, hf⟩ := nn_some hf
      have tzv21 : okA E G 11 zv21 := wt_r hw ezv21
      refine xg_9_0 C0 hw zt0 wd601 ezv21 dX9_comes_56 ?_
      refine lv_bipush (v := (6 : Int32)) hx hb dX9_comes_59 (by decide) ?_
      obtain ⟨zhb22, hf⟩ := ck_some hf
      refine x_iald C0 hw tzv21 zhb22 dX9_comes_61 ?_
      refine lv_imul hx hb dX9_comes_62 ?_
      refine lv_iadd hx hb dX9_comes_63 ?_
      refine lv_topi (fun zv23 ezv23 => ?_)
      have hf := lt_at hf ezv23
      refine lv_istore (lv' := [(4, .int zv23), (3, .int zv3), (2, .int zv1), (0, .ref zx0), (1, .int zx1)]) hx hb dX9_comes_64 hl (by decide) rfl (fun ls hl => ?_)
      refine lv_aload_n hx hb dX9_comes_66 rfl (lv_at hl 3 rfl) ?_
      refine xg_9_0 C0 hw zt0 wd601 ezv21 dX9_comes_67 ?_
      refine lv_iload hx hb dX9_comes_70 (lv_at hl 0 rfl) ?_
      refine lv_iload_n hx hb dX9_comes_72 rfl (lv_at hl 2 rfl) ?_
      obtain ⟨zhb24, hf⟩ := ck_some hf
      obtain ⟨zI25, ezI25⟩ : ∃ y : Im, y = pA I zv21 (zv23).toNatClampNeg zv1 := ⟨_, rfl⟩
      have hf := lt_at hf ezI25
      refine x_iast C0 hz hw tzv21 zhb24 dX9_comes_73 ezI25 (fun H locs hw => ?_)
      refine lv_aload_n hx hb dX9_comes_74 rfl (lv_at hl 3 rfl) ?_
      refine xg_9_0 C0 hw zt0 wd601 ezv21 dX9_comes_75 ?_
      refine lv_iload hx hb dX9_comes_78 (lv_at hl 0 rfl) ?_
      refine lv_iconst (v := (1 : Int32)) hx hb dX9_comes_80 (by decide) ?_
      refine lv_iadd hx hb dX9_comes_81 ?_
      refine lv_iload_n hx hb dX9_comes_82 rfl (lv_at hl 1 rfl) ?_
      obtain ⟨zhb26, hf⟩ := ck_some hf
      obtain ⟨zI27, ezI27⟩ : ∃ y : Im, y = pA zI25 zv21 ((zv23 + (1 : Int32))).toNatClampNeg zv3 := ⟨_, rfl⟩
      have hf := lt_at hf ezI27
      refine x_iast C0 hz hw tzv21 zhb26 dX9_comes_83 ezI27 (fun H locs hw => ?_)
      refine lv_aload_n hx hb dX9_comes_84 rfl (lv_at hl 3 rfl) ?_
      refine xg_9_0 C0 hw zt0 wd601 ezv21 dX9_comes_85 ?_
      refine lv_iload hx hb dX9_comes_88 (lv_at hl 0 rfl) ?_
      refine lv_iconst (v := (2 : Int32)) hx hb dX9_comes_90 (by decide) ?_
      refine lv_iadd hx hb dX9_comes_91 ?_
      refine lv_aload_n hx hb dX9_comes_92 rfl (lv_at hl 3 rfl) ?_
      refine xg_9_0 C0 hw zt0 wd601 ezv21 dX9_comes_93 ?_
      refine lv_iconst (v := (1 : Int32)) hx hb dX9_comes_96 (by decide) ?_
      obtain ⟨zhb28, hf⟩ := ck_some hf
      refine x_iald C0 hw tzv21 zhb28 dX9_comes_97 ?_
      obtain ⟨zhb29, hf⟩ := ck_some hf
      obtain ⟨zI30, ezI30⟩ : ∃ y : Im, y = pA zI27 zv21 ((zv23 + (2 : Int32))).toNatClampNeg (gA zI27 zv21 ((1 : Int32)).toNatClampNeg) := ⟨_, rfl⟩
      have hf := lt_at hf ezI30
      refine x_iast C0 hz hw tzv21 zhb29 dX9_comes_98 ezI30 (fun H locs hw => ?_)
      refine lv_aload_n hx hb dX9_comes_99 rfl (lv_at hl 3 rfl) ?_
      refine xg_9_0 C0 hw zt0 wd601 ezv21 dX9_comes_100 ?_
      refine lv_bipush (v := (6 : Int32)) hx hb dX9_comes_103 (by decide) ?_
      refine lv_dup2_11 hx hb dX9_comes_105 rfl rfl ?_
      refine x_iald C0 hw tzv21 zhb22 dX9_comes_106 ?_
      refine lv_iconst (v := (1 : Int32)) hx hb dX9_comes_107 (by decide) ?_
      refine lv_iadd hx hb dX9_comes_108 ?_
      obtain ⟨zI31, ezI31⟩ : ∃ y : Im, y = pA zI30 zv21 ((6 : Int32)).toNatClampNeg ((gA zI30 zv21 ((6 : Int32)).toNatClampNeg) + (1 : Int32)) := ⟨_, rfl⟩
      have hf := lt_at hf ezI31
      refine x_iast C0 hz hw tzv21 zhb22 dX9_comes_109 ezI31 (fun H locs hw => ?_)
      refine lv_iconst (v := (1 : Int32)) hx hb dX9_comes_110 (by decide) ?_
      obtain rfl := Option.some.inj hf
      exact x_iret C0 hr hw dX9_comes_111
  · have hf := ite_t hf zc7
    refine lv_aload_n hx hb dX9_comes_24 rfl (lv_at hl 2 rfl) ?_
    obtain ⟨zv32, ezv32, hf⟩ := nn_some hf
    have tzv32 : okA E G 11 zv32 := wt_r hw ezv32
    refine xg_9_0 C0 hw zt0 wd601 ezv32 dX9_comes_25 ?_
    refine lv_sipush (v := (216 : Int32)) hx hb dX9_comes_28 (by decide) ?_
    refine lv_iconst (v := (2 : Int32)) hx hb dX9_comes_31 (by decide) ?_
    refine lv_iload_n hx hb dX9_comes_32 rfl (lv_at hl 1 rfl) ?_
    refine lv_imul hx hb dX9_comes_33 ?_
    refine lv_iadd hx hb dX9_comes_34 ?_
    refine lv_iconst (v := (1 : Int32)) hx hb dX9_comes_35 (by decide) ?_
    refine lv_iadd hx hb dX9_comes_36 ?_
    refine lv_iload_n hx hb dX9_comes_37 rfl (lv_at hl 0 rfl) ?_
    obtain ⟨zhb33, hf⟩ := ck_some hf
    obtain ⟨zI34, ezI34⟩ : ∃ y : Im, y = pA I zv32 ((((216 : Int32) + ((2 : Int32) * zv1)) + (1 : Int32))).toNatClampNeg zv3 := ⟨_, rfl⟩
    have hf := lt_at hf ezI34
    refine x_iast C0 hz hw tzv32 zhb33 dX9_comes_38 ezI34 (fun H locs hw => ?_)
    refine lv_iconst (v := (1 : Int32)) hx hb dX9_comes_39 (by decide) ?_
    obtain rfl := Option.some.inj hf
    exact x_iret C0 hr hw dX9_comes_40
noncomputable def m9_nearer_34 (fl : Nat) (len : Nat → Nat) (X : Xm) (I : Im) (zs0 : Int32) : Option (Int32) :=
  some (zs0)
set_option maxHeartbeats 4000000 in
set_option maxRecDepth 100000 in
theorem w9_nearer_34 {p : Program} {l : Launch} {e : Env} {s : State} {m : MethodId} {args : Array Value} {below : List Frame} {meth : Method} {c : Code} {E : EN} {G : GM} {X : Xm} {I : Im} (C0 : CX p s m args meth c E cX9_nearer RX9 3) (hr : meth.sig.returnType = (some .int)) (hz : s.heap.size + 0 ≤ eB E + G.1) {rr : Int32} (fl : Nat) : ∀ (H : Heap) (locs : List Loc) (ls : Array Slot) (zs0 : Int32) , WD E G I X s.heap H locs → lv_has ls 3 [] → m9_nearer_34 fl G.2.2 X I zs0 = some rr → W p l e ({ frames := 0, cells := 0, slots := 0, locals := 0 } : Room) s m args below meth c H locs 0 0 (MQ below (QI E G rr I X) args s 0 0 (eA E)) (F0 m 34 ls [.int zs0]) := by
  intro H locs ls zs0 hw hl hf
  unfold m9_nearer_34 at hf
  have hx := C0.1; have hb := C0.2.1; have hml := C0.2.2.1; have hown := C0.2.2.2.1; have hts := C0.2.2.2.2.1
  obtain rfl := Option.some.inj hf
  exact x_iret C0 hr hw dX9_nearer_34
noncomputable def m9_nearer_19 (fl : Nat) (len : Nat → Nat) (X : Xm) (I : Im) (zs0 : Int32) : Option (Int32) :=
  some (zs0)
set_option maxHeartbeats 4000000 in
set_option maxRecDepth 100000 in
theorem w9_nearer_19 {p : Program} {l : Launch} {e : Env} {s : State} {m : MethodId} {args : Array Value} {below : List Frame} {meth : Method} {c : Code} {E : EN} {G : GM} {X : Xm} {I : Im} (C0 : CX p s m args meth c E cX9_nearer RX9 3) (hr : meth.sig.returnType = (some .int)) (hz : s.heap.size + 0 ≤ eB E + G.1) {rr : Int32} (fl : Nat) : ∀ (H : Heap) (locs : List Loc) (ls : Array Slot) (zs0 : Int32) , WD E G I X s.heap H locs → lv_has ls 3 [] → m9_nearer_19 fl G.2.2 X I zs0 = some rr → W p l e ({ frames := 0, cells := 0, slots := 0, locals := 0 } : Room) s m args below meth c H locs 0 0 (MQ below (QI E G rr I X) args s 0 0 (eA E)) (F0 m 19 ls [.int zs0]) := by
  intro H locs ls zs0 hw hl hf
  unfold m9_nearer_19 at hf
  have hx := C0.1; have hb := C0.2.1; have hml := C0.2.2.1; have hown := C0.2.2.2.1; have hts := C0.2.2.2.2.1
  obtain rfl := Option.some.inj hf
  exact x_iret C0 hr hw dX9_nearer_19
noncomputable def m9_nearer (fl : Nat) (len : Nat → Nat) (X : Xm) (I : Im) (zx0 : Int32) (zx1 : Int32) (zx2 : Int32) : Option (Int32) :=
  if zx1 ≤ zx0 then
    if (zx0 - zx1) ≤ zx2 then
      m9_nearer_34 fl len X I zx1
    else
      m9_nearer_34 fl len X I (zx0 - zx2)
  else
    if (zx1 - zx0) ≤ zx2 then
      m9_nearer_19 fl len X I zx1
    else
      m9_nearer_19 fl len X I (zx0 + zx2)
theorem hy9_nearer : yX9_nearer.cls = RX9 ∧ yX9_nearer.cls ≠ "java/lang/invoke/MethodHandle" ∧ yX9_nearer.cls ≠ "java/lang/invoke/VarHandle" ∧ (parseMethodDescriptor yX9_nearer.desc).map (fun d => d.parameters.length) = some 3 := ⟨rfl, by decide +kernel, by decide +kernel, by decide +kernel⟩
set_option maxHeartbeats 4000000 in
set_option maxRecDepth 100000 in
theorem c9_nearer (l : Launch) (E : EN) (G : GM) (fl : Nat) (X : Xm) (I : Im) (zx0 : Int32) (zx1 : Int32) (zx2 : Int32) {rr : Int32} (hf : m9_nearer fl G.2.2 X I zx0 zx1 zx2 = some rr) : MT l yX9_nearer cX9_nearer 3 (some .int) ({ frames := 0, cells := 0, slots := 0, locals := 0 } : Room) E G I X [.int zx0, .int zx1, .int zx2] (QI E G rr I X) 0 0 := by
  refine Met.ofW (cc := cX9_nearer) (maxL := 3) (ret := (some .int)) (by decide +kernel) rfl ?_
  intro p e s m args below meth c s₁ B hml hv
  obtain ⟨rfl, hw0, hSE⟩ := hv
  have C0 : CX p s m ([.int zx0, .int zx1, .int zx2] : List Value).toArray meth c E cX9_nearer RX9 3 := ⟨B.exec, B.bytes, hml, findClass_of_methodNamed B.named, fun w hw => atoms_spec (ws := WS yX9_nearer cX9_nearer 3 (some .int)) B.pre w (List.mem_cons_of_mem _ hw), B.notSynchronized, hSE⟩
  have hz : s.heap.size + 0 ≤ eB E + G.1 := Nat.le_of_eq hw0.2.1
  have hw : WD E G I X s.heap s.heap [] := ⟨hw0, va_S.rf⟩
  have hr := B.returns
  have hx := C0.1; have hb := C0.2.1; have hml := C0.2.2.1; have hown := C0.2.2.2.1; have hts := C0.2.2.2.2.1
  have hl := lv_entry ([.int zx0, .int zx1, .int zx2]) (n := 3) (Nat.le_of_ble_eq_true rfl)
  rw [lg_entry_eq]
  generalize (lg_sl ([.int zx0, .int zx1, .int zx2]) ++ List.replicate (3 - (lg_sl ([.int zx0, .int zx1, .int zx2])).length) Slot.unset).toArray = ls at hl ⊢
  have hl : lv_has ls 3 [(0, .int zx0), (1, .int zx1), (2, .int zx2)] := hl
  unfold m9_nearer at hf
  refine lv_iload_n hx hb dX9_nearer_0 rfl (lv_at hl 0 rfl) ?_
  refine lv_iload_n hx hb dX9_nearer_1 rfl (lv_at hl 1 rfl) ?_
  refine lv_icmp_ge (tgt := 20) hx hb dX9_nearer_2 (by decide) (fun zc1 => ?_) (fun zc1 => ?_)
  · have hf := ite_t hf zc1
    refine lv_iload_n hx hb dX9_nearer_20 rfl (lv_at hl 0 rfl) ?_
    refine lv_iload_n hx hb dX9_nearer_21 rfl (lv_at hl 1 rfl) ?_
    refine lv_isub hx hb dX9_nearer_22 ?_
    refine lv_iload_n hx hb dX9_nearer_23 rfl (lv_at hl 2 rfl) ?_
    refine lv_icmp_le (tgt := 33) hx hb dX9_nearer_24 (by decide) (fun zc2 => ?_) (fun zc2 => ?_)
    · have hf := ite_t hf zc2
      refine lv_iload_n hx hb dX9_nearer_33 rfl (lv_at hl 1 rfl) ?_
      exact w9_nearer_34 C0 hr hz fl _ _ _ zx1 hw (lv_sub hl [] rfl) hf
    · have hf := ite_f hf zc2
      refine lv_iload_n hx hb dX9_nearer_27 rfl (lv_at hl 0 rfl) ?_
      refine lv_iload_n hx hb dX9_nearer_28 rfl (lv_at hl 2 rfl) ?_
      refine lv_isub hx hb dX9_nearer_29 ?_
      refine lv_goto (tgt := 34) hx hb dX9_nearer_30 (by decide) ?_
      exact w9_nearer_34 C0 hr hz fl _ _ _ (zx0 - zx2) hw (lv_sub hl [] rfl) hf
  · have hf := ite_f hf zc1
    refine lv_iload_n hx hb dX9_nearer_5 rfl (lv_at hl 1 rfl) ?_
    refine lv_iload_n hx hb dX9_nearer_6 rfl (lv_at hl 0 rfl) ?_
    refine lv_isub hx hb dX9_nearer_7 ?_
    refine lv_iload_n hx hb dX9_nearer_8 rfl (lv_at hl 2 rfl) ?_
    refine lv_icmp_le (tgt := 18) hx hb dX9_nearer_9 (by decide) (fun zc3 => ?_) (fun zc3 => ?_)
    · have hf := ite_t hf zc3
      refine lv_iload_n hx hb dX9_nearer_18 rfl (lv_at hl 1 rfl) ?_
      exact w9_nearer_19 C0 hr hz fl _ _ _ zx1 hw (lv_sub hl [] rfl) hf
    · have hf := ite_f hf zc3
      refine lv_iload_n hx hb dX9_nearer_12 rfl (lv_at hl 0 rfl) ?_
      refine lv_iload_n hx hb dX9_nearer_13 rfl (lv_at hl 2 rfl) ?_
      refine lv_iadd hx hb dX9_nearer_14 ?_
      refine lv_goto (tgt := 19) hx hb dX9_nearer_15 (by decide) ?_
      exact w9_nearer_19 C0 hr hz fl _ _ _ (zx0 + zx2) hw (lv_sub hl [] rfl) hf
noncomputable def m9_gives (fl : Nat) (len : Nat → Nat) (X : Xm) (I : Im) (zx0 : Nat) (zx1 : Int32) (zx2 : Int32) : Option (Int32) :=
  nn (gR X 144 zx0) fun zv1 =>
  ck (inb ((216 : Int32) + ((2 : Int32) * zx1)) (len zv1) = true) <|
  some (((zx2 * (gA I zv1 (((216 : Int32) + ((2 : Int32) * zx1))).toNatClampNeg)) / (50 : Int32)))
theorem hy9_gives : yX9_gives.cls = RX9 ∧ yX9_gives.cls ≠ "java/lang/invoke/MethodHandle" ∧ yX9_gives.cls ≠ "java/lang/invoke/VarHandle" ∧ (parseMethodDescriptor yX9_gives.desc).map (fun d => d.parameters.length) = some 2 := ⟨rfl, by decide +kernel, by decide +kernel, by decide +kernel⟩
set_option maxHeartbeats 4000000 in
set_option maxRecDepth 100000 in
theorem c9_gives (l : Launch) (E : EN) (G : GM) (fl : Nat) (X : Xm) (I : Im) (zx0 : Nat) (zx1 : Int32) (zx2 : Int32) (zt0 : okA E G 9 zx0) {rr : Int32} (hf : m9_gives fl G.2.2 X I zx0 zx1 zx2 = some rr) : MT l yX9_gives cX9_gives 3 (some .int) ({ frames := 0, cells := 0, slots := 0, locals := 0 } : Room) E G I X [.ref zx0, .int zx1, .int zx2] (QI E G rr I X) 0 0 := by
  refine Met.ofW (cc := cX9_gives) (maxL := 3) (ret := (some .int)) (by decide +kernel) rfl ?_
  intro p e s m args below meth c s₁ B hml hv
  obtain ⟨rfl, hw0, hSE⟩ := hv
  have C0 : CX p s m ([.ref zx0, .int zx1, .int zx2] : List Value).toArray meth c E cX9_gives RX9 3 := ⟨B.exec, B.bytes, hml, findClass_of_methodNamed B.named, fun w hw => atoms_spec (ws := WS yX9_gives cX9_gives 3 (some .int)) B.pre w (List.mem_cons_of_mem _ hw), B.notSynchronized, hSE⟩
  have hz : s.heap.size + 0 ≤ eB E + G.1 := Nat.le_of_eq hw0.2.1
  have hw : WD E G I X s.heap s.heap [] := ⟨hw0, va_S.rf⟩
  have hr := B.returns
  have hx := C0.1; have hb := C0.2.1; have hml := C0.2.2.1; have hown := C0.2.2.2.1; have hts := C0.2.2.2.2.1
  have hl := lv_entry ([.ref zx0, .int zx1, .int zx2]) (n := 3) (Nat.le_of_ble_eq_true rfl)
  rw [lg_entry_eq]
  generalize (lg_sl ([.ref zx0, .int zx1, .int zx2]) ++ List.replicate (3 - (lg_sl ([.ref zx0, .int zx1, .int zx2])).length) Slot.unset).toArray = ls at hl ⊢
  have hl : lv_has ls 3 [(0, .ref zx0), (1, .int zx1), (2, .int zx2)] := hl
  unfold m9_gives at hf
  refine lv_iload_n hx hb dX9_gives_0 rfl (lv_at hl 2 rfl) ?_
  refine lv_aload_n hx hb dX9_gives_1 rfl (lv_at hl 0 rfl) ?_
  obtain ⟨zv1, ezv1, hf⟩ := nn_some hf
  have tzv1 : okA E G 11 zv1 := wt_r hw ezv1
  refine xg_9_0 C0 hw zt0 wd601 ezv1 dX9_gives_2 ?_
  refine lv_sipush (v := (216 : Int32)) hx hb dX9_gives_5 (by decide) ?_
  refine lv_iconst (v := (2 : Int32)) hx hb dX9_gives_8 (by decide) ?_
  refine lv_iload_n hx hb dX9_gives_9 rfl (lv_at hl 1 rfl) ?_
  refine lv_imul hx hb dX9_gives_10 ?_
  refine lv_iadd hx hb dX9_gives_11 ?_
  obtain ⟨zhb2, hf⟩ := ck_some hf
  refine x_iald C0 hw tzv1 zhb2 dX9_gives_12 ?_
  refine lv_imul hx hb dX9_gives_13 ?_
  refine lv_bipush (v := (50 : Int32)) hx hb dX9_gives_14 (by decide) ?_
  refine lv_idiv hx hb dX9_gives_16 (by decide) ?_
  obtain rfl := Option.some.inj hf
  exact x_iret C0 hr hw dX9_gives_17
noncomputable def m9_heard_57b (fl : Nat) (len : Nat → Nat) (X : Xm) (I : Im) (zr57 : Nat → Int32 → Int32 → Option (Int32)) (zx0 : Nat) (zx1 : Int32) (zx2 : Int32) : Option (Int32) :=
  nn (gR X 144 zx0) fun zv1 =>
  ck (inb (6 : Int32) (len zv1) = true) <|
  if (gA I zv1 ((6 : Int32)).toNatClampNeg) ≤ zx2 then
    some (zx1)
  else
    ck (inb ((224 : Int32) + ((3 : Int32) * zx2)) (len zv1) = true) <|
    ck (inb (((224 : Int32) + ((3 : Int32) * zx2)) + (1 : Int32)) (len zv1) = true) <|
    nn (m9_gives fl len X I zx0 (gA I zv1 (((224 : Int32) + ((3 : Int32) * zx2))).toNatClampNeg) (gA I zv1 ((((224 : Int32) + ((3 : Int32) * zx2)) + (1 : Int32))).toNatClampNeg)) fun zv6 =>
    lt ((zx1 + zv6)) fun zv8 =>
    lt (zx2 + 1) fun zv9 =>
    zr57 zx0 zv8 zv9
noncomputable def m9_heard_57 (fl : Nat) (len : Nat → Nat) (X : Xm) (I : Im) (n : Nat) : Nat → Int32 → Int32 → Option (Int32) :=
  Nat.rec (fun _ _ _ => none) (fun _ r => m9_heard_57b fl len X I r) n
set_option maxHeartbeats 4000000 in
set_option maxRecDepth 100000 in
theorem w9_heard_57b {p : Program} {l : Launch} {e : Env} {s : State} {m : MethodId} {args : Array Value} {below : List Frame} {meth : Method} {c : Code} {E : EN} {G : GM} {X : Xm} {I : Im} (C0 : CX p s m args meth c E cX9_heard RX9 3) (hr : meth.sig.returnType = (some .int)) (hz : s.heap.size + 0 ≤ eB E + G.1) {rr : Int32} (fl : Nat) (zr57 : Nat → Int32 → Int32 → Option (Int32)) (zhr57 : ∀ (H : Heap) (locs : List Loc) (ls : Array Slot) (zx0 : Nat) (zx1 : Int32) (zx2 : Int32) (zt0 : okA E G 9 zx0), WD E G I X s.heap H locs → lv_has ls 3 [(0, .ref zx0), (1, .int zx1), (2, .int zx2)] → zr57 zx0 zx1 zx2 = some rr → W p l e ({ frames := 1, cells := 0, slots := 0, locals := 22 } : Room) s m args below meth c H locs 0 0 (MQ below (QI E G rr I X) args s 0 0 (eA E)) (F0 m 57 ls [])) : ∀ (H : Heap) (locs : List Loc) (ls : Array Slot) (zx0 : Nat) (zx1 : Int32) (zx2 : Int32) (zt0 : okA E G 9 zx0), WD E G I X s.heap H locs → lv_has ls 3 [(0, .ref zx0), (1, .int zx1), (2, .int zx2)] → m9_heard_57b fl G.2.2 X I zr57 zx0 zx1 zx2 = some rr → W p l e ({ frames := 1, cells := 0, slots := 0, locals := 22 } : Room) s m args below meth c H locs 0 0 (MQ below (QI E G rr I X) args s 0 0 (eA E)) (F0 m 57 ls []) := by
  intro H locs ls zx0 zx1 zx2 zt0 hw hl hf
  unfold m9_heard_57b at hf
  have hx := C0.1; have hb := C0.2.1; have hml := C0.2.2.1; have hown := C0.2.2.2.1; have hts := C0.2.2.2.2.1
  refine lv_iload_n hx hb dX9_heard_57 rfl (lv_at hl 2 rfl) ?_
  refine lv_aload_n hx hb dX9_heard_58 rfl (lv_at hl 0 rfl) ?_
  obtain ⟨zv1, ezv1, hf⟩ := nn_some hf
  have tzv1 : okA E G 11 zv1 := wt_r hw ezv1
  refine xg_9_0 C0 hw zt0 wd601 ezv1 dX9_heard_59 ?_
  refine lv_bipush (v := (6 : Int32)) hx hb dX9_heard_62 (by decide) ?_
  obtain ⟨zhb2, hf⟩ := ck_some hf
  refine x_iald C0 hw tzv1 zhb2 dX9_heard_64 ?_
  refine lv_icmp_ge (tgt := 107) hx hb dX9_heard_65 (by decide) (fun zc3 => ?_) (fun zc3 => ?_)
  · have hf := ite_t hf zc3
    refine lv_iload_n hx hb dX9_heard_107 rfl (lv_at hl 1 rfl) ?_
    obtain rfl := Option.some.inj hf
    exact x_iret C0 hr hw dX9_heard_108
  · have hf := ite_f hf zc3
    refine lv_iload_n hx hb dX9_heard_68 rfl (lv_at hl 1 rfl) ?_
    refine lv_aload_n hx hb dX9_heard_69 rfl (lv_at hl 0 rfl) ?_
    refine lv_aload_n hx hb dX9_heard_70 rfl (lv_at hl 0 rfl) ?_
    refine xg_9_0 C0 hw zt0 wd601 ezv1 dX9_heard_71 ?_
    refine lv_sipush (v := (224 : Int32)) hx hb dX9_heard_74 (by decide) ?_
    refine lv_iconst (v := (3 : Int32)) hx hb dX9_heard_77 (by decide) ?_
    refine lv_iload_n hx hb dX9_heard_78 rfl (lv_at hl 2 rfl) ?_
    refine lv_imul hx hb dX9_heard_79 ?_
    refine lv_iadd hx hb dX9_heard_80 ?_
    obtain ⟨zhb4, hf⟩ := ck_some hf
    refine x_iald C0 hw tzv1 zhb4 dX9_heard_81 ?_
    refine lv_aload_n hx hb dX9_heard_82 rfl (lv_at hl 0 rfl) ?_
    refine xg_9_0 C0 hw zt0 wd601 ezv1 dX9_heard_83 ?_
    refine lv_sipush (v := (224 : Int32)) hx hb dX9_heard_86 (by decide) ?_
    refine lv_iconst (v := (3 : Int32)) hx hb dX9_heard_89 (by decide) ?_
    refine lv_iload_n hx hb dX9_heard_90 rfl (lv_at hl 2 rfl) ?_
    refine lv_imul hx hb dX9_heard_91 ?_
    refine lv_iadd hx hb dX9_heard_92 ?_
    refine lv_iconst (v := (1 : Int32)) hx hb dX9_heard_93 (by decide) ?_
    refine lv_iadd hx hb dX9_heard_94 ?_
    obtain ⟨zhb5, hf⟩ := ck_some hf
    refine x_iald C0 hw tzv1 zhb5 dX9_heard_95 ?_
    obtain ⟨zv6, ze7, hf⟩ := nn_some hf
    refine x_ci (r := zv6) (I1 := I) (X1 := X) (x_runV (As := [.int (gA I zv1 (((224 : Int32) + ((3 : Int32) * zx2))).toNatClampNeg), .int (gA I zv1 ((((224 : Int32) + ((3 : Int32) * zx2)) + (1 : Int32))).toNatClampNeg)]) (rest := [.int zx1]) C0 (c9_gives l E G fl X I zx0 (gA I zv1 (((224 : Int32) + ((3 : Int32) * zx2))).toNatClampNeg) (gA I zv1 ((((224 : Int32) + ((3 : Int32) * zx2)) + (1 : Int32))).toNatClampNeg) zt0 ze7) hw 9 zt0 (by decide) rfl wd129 wd632 wd633 wd634 wd612 ⟨rfl, rfl⟩ hy9_gives ⟨Nat.le_of_ble_eq_true rfl, Nat.le_of_ble_eq_true rfl⟩ rfl hl.1 (Nat.le_of_ble_eq_true rfl) ⟨Nat.zero_le _, Nat.zero_le _⟩ dX9_heard_96) hw (fun H locs hw => ?_)
    refine lv_iadd hx hb dX9_heard_99 ?_
    refine lv_topi (fun zv8 ezv8 => ?_)
    have hf := lt_at hf ezv8
    refine lv_istore_n (lv' := [(1, .int zv8), (0, .ref zx0), (2, .int zx2)]) hx hb dX9_heard_100 rfl hl (by decide) rfl (fun ls hl => ?_)
    obtain ⟨zv9, ezv9⟩ : ∃ y : Int32, y = zx2 + 1 := ⟨_, rfl⟩
    have hf := lt_at hf ezv9
    refine lv_iinc (v := zv9) (lv' := [(2, .int zv9), (1, .int zv8), (0, .ref zx0)]) hx hb dX9_heard_101 hl (k := 2) rfl (by rw [ezv9]; rfl) (by decide) rfl (fun ls hl => ?_)
    refine lv_goto (tgt := 57) hx hb dX9_heard_104 (by decide) ?_
    exact zhr57 _ _ _ zx0 zv8 zv9 zt0 hw (lv_sub hl [2, 1, 0] rfl) hf
theorem w9_heard_57 {p : Program} {l : Launch} {e : Env} {s : State} {m : MethodId} {args : Array Value} {below : List Frame} {meth : Method} {c : Code} {E : EN} {G : GM} {X : Xm} {I : Im} (C0 : CX p s m args meth c E cX9_heard RX9 3) (hr : meth.sig.returnType = (some .int)) (hz : s.heap.size + 0 ≤ eB E + G.1) {rr : Int32} (fl : Nat) : ∀ (n : Nat) (H : Heap) (locs : List Loc) (ls : Array Slot) (zx0 : Nat) (zx1 : Int32) (zx2 : Int32) (zt0 : okA E G 9 zx0), WD E G I X s.heap H locs → lv_has ls 3 [(0, .ref zx0), (1, .int zx1), (2, .int zx2)] → m9_heard_57 fl G.2.2 X I n zx0 zx1 zx2 = some rr → W p l e ({ frames := 1, cells := 0, slots := 0, locals := 22 } : Room) s m args below meth c H locs 0 0 (MQ below (QI E G rr I X) args s 0 0 (eA E)) (F0 m 57 ls []) := by
  intro n
  induction n with
  | zero => intro H locs ls zx0 zx1 zx2 zt0 hw hl hf; exact absurd (show (none : Option (Int32)) = some rr from hf) (by simp)
  | succ n ih => intro H locs ls zx0 zx1 zx2 zt0 hw hl hf; exact w9_heard_57b C0 hr hz fl _ ih H locs ls zx0 zx1 zx2 zt0 hw hl hf
noncomputable def m9_heard_47 (fl : Nat) (len : Nat → Nat) (X : Xm) (I : Im) (zr4 : Nat → Int32 → Int32 → Option (Int32)) (zx0 : Nat) (zx2 : Int32) (zs0 : Int32) (zs1 : Int32) : Option (Int32) :=
  lt ((zs0 + zs1)) fun zv1 =>
  lt (zx2 + 1) fun zv2 =>
  zr4 zx0 zv1 zv2
set_option maxHeartbeats 4000000 in
set_option maxRecDepth 100000 in
theorem w9_heard_47 {p : Program} {l : Launch} {e : Env} {s : State} {m : MethodId} {args : Array Value} {below : List Frame} {meth : Method} {c : Code} {E : EN} {G : GM} {X : Xm} {I : Im} (C0 : CX p s m args meth c E cX9_heard RX9 3) (hr : meth.sig.returnType = (some .int)) (hz : s.heap.size + 0 ≤ eB E + G.1) {rr : Int32} (fl : Nat) (zr4 : Nat → Int32 → Int32 → Option (Int32)) (zhr4 : ∀ (H : Heap) (locs : List Loc) (ls : Array Slot) (zx0 : Nat) (zx1 : Int32) (zx2 : Int32) (zt0 : okA E G 9 zx0), WD E G I X s.heap H locs → lv_has ls 3 [(0, .ref zx0), (1, .int zx1), (2, .int zx2)] → zr4 zx0 zx1 zx2 = some rr → W p l e ({ frames := 1, cells := 0, slots := 0, locals := 22 } : Room) s m args below meth c H locs 0 0 (MQ below (QI E G rr I X) args s 0 0 (eA E)) (F0 m 4 ls [])) : ∀ (H : Heap) (locs : List Loc) (ls : Array Slot) (zx0 : Nat) (zx2 : Int32) (zs0 : Int32) (zs1 : Int32) (zt0 : okA E G 9 zx0), WD E G I X s.heap H locs → lv_has ls 3 [(0, .ref zx0), (2, .int zx2)] → m9_heard_47 fl G.2.2 X I zr4 zx0 zx2 zs0 zs1 = some rr → W p l e ({ frames := 1, cells := 0, slots := 0, locals := 22 } : Room) s m args below meth c H locs 0 0 (MQ below (QI E G rr I X) args s 0 0 (eA E)) (F0 m 47 ls [.int zs1, .int zs0]) := by
  intro H locs ls zx0 zx2 zs0 zs1 zt0 hw hl hf
  unfold m9_heard_47 at hf
  have hx := C0.1; have hb := C0.2.1; have hml := C0.2.2.1; have hown := C0.2.2.2.1; have hts := C0.2.2.2.2.1
  refine lv_iadd hx hb dX9_heard_47 ?_
  refine lv_topi (fun zv1 ezv1 => ?_)
  have hf := lt_at hf ezv1
  refine lv_istore_n (lv' := [(1, .int zv1), (0, .ref zx0), (2, .int zx2)]) hx hb dX9_heard_48 rfl hl (by decide) rfl (fun ls hl => ?_)
  obtain ⟨zv2, ezv2⟩ : ∃ y : Int32, y = zx2 + 1 := ⟨_, rfl⟩
  have hf := lt_at hf ezv2
  refine lv_iinc (v := zv2) (lv' := [(2, .int zv2), (1, .int zv1), (0, .ref zx0)]) hx hb dX9_heard_49 hl (k := 2) rfl (by rw [ezv2]; rfl) (by decide) rfl (fun ls hl => ?_)
  refine lv_goto (tgt := 4) hx hb dX9_heard_52 (by decide) ?_
  exact zhr4 _ _ _ zx0 zv1 zv2 zt0 hw (lv_sub hl [2, 1, 0] rfl) hf
noncomputable def m9_heard_4b (fl : Nat) (len : Nat → Nat) (X : Xm) (I : Im) (zr4 : Nat → Int32 → Int32 → Option (Int32)) (zx0 : Nat) (zx1 : Int32) (zx2 : Int32) : Option (Int32) :=
  if (4 : Int32) ≤ zx2 then
    m9_heard_57 fl len X I fl zx0 zx1 (0 : Int32)
  else
    nn (m9_reel fl len X I zx0 zx2 (1 : Int32)) fun zv2 =>
    if zv2 ≤ 0 then
      m9_heard_47 fl len X I zr4 zx0 zx2 zx1 (0 : Int32)
    else
      nn (gR X 144 zx0) fun zv5 =>
      nn (m9_reel fl len X I zx0 zx2 (1 : Int32)) fun zv6 =>
      nn (m9_soundAt fl len X I zx2 (zv6 - (1 : Int32))) fun zv8 =>
      ck (inb (zv8 + (1 : Int32)) (len zv5) = true) <|
      nn (m9_gives fl len X I zx0 zx2 (gA I zv5 ((zv8 + (1 : Int32))).toNatClampNeg)) fun zv11 =>
      m9_heard_47 fl len X I zr4 zx0 zx2 zx1 zv11
noncomputable def m9_heard_4 (fl : Nat) (len : Nat → Nat) (X : Xm) (I : Im) (n : Nat) : Nat → Int32 → Int32 → Option (Int32) :=
  Nat.rec (fun _ _ _ => none) (fun _ r => m9_heard_4b fl len X I r) n
set_option maxHeartbeats 4000000 in
set_option maxRecDepth 100000 in
theorem w9_heard_4b {p : Program} {l : Launch} {e : Env} {s : State} {m : MethodId} {args : Array Value} {below : List Frame} {meth : Method} {c : Code} {E : EN} {G : GM} {X : Xm} {I : Im} (C0 : CX p s m args meth c E cX9_heard RX9 3) (hr : meth.sig.returnType = (some .int)) (hz : s.heap.size + 0 ≤ eB E + G.1) {rr : Int32} (fl : Nat) (zr4 : Nat → Int32 → Int32 → Option (Int32)) (zhr4 : ∀ (H : Heap) (locs : List Loc) (ls : Array Slot) (zx0 : Nat) (zx1 : Int32) (zx2 : Int32) (zt0 : okA E G 9 zx0), WD E G I X s.heap H locs → lv_has ls 3 [(0, .ref zx0), (1, .int zx1), (2, .int zx2)] → zr4 zx0 zx1 zx2 = some rr → W p l e ({ frames := 1, cells := 0, slots := 0, locals := 22 } : Room) s m args below meth c H locs 0 0 (MQ below (QI E G rr I X) args s 0 0 (eA E)) (F0 m 4 ls [])) : ∀ (H : Heap) (locs : List Loc) (ls : Array Slot) (zx0 : Nat) (zx1 : Int32) (zx2 : Int32) (zt0 : okA E G 9 zx0), WD E G I X s.heap H locs → lv_has ls 3 [(0, .ref zx0), (1, .int zx1), (2, .int zx2)] → m9_heard_4b fl G.2.2 X I zr4 zx0 zx1 zx2 = some rr → W p l e ({ frames := 1, cells := 0, slots := 0, locals := 22 } : Room) s m args below meth c H locs 0 0 (MQ below (QI E G rr I X) args s 0 0 (eA E)) (F0 m 4 ls []) := by
  intro H locs ls zx0 zx1 zx2 zt0 hw hl hf
  unfold m9_heard_4b at hf
  have hx := C0.1; have hb := C0.2.1; have hml := C0.2.2.1; have hown := C0.2.2.2.1; have hts := C0.2.2.2.2.1
  refine lv_iload_n hx hb dX9_heard_4 rfl (lv_at hl 2 rfl) ?_
  refine lv_iconst (v := (4 : Int32)) hx hb dX9_heard_5 (by decide) ?_
  refine lv_icmp_ge (tgt := 55) hx hb dX9_heard_6 (by decide) (fun zc1 => ?_) (fun zc1 => ?_)
  · have hf := ite_t hf zc1
    refine lv_iconst (v := (0 : Int32)) hx hb dX9_heard_55 (by decide) ?_
    refine lv_istore_n (lv' := [(2, .int (0 : Int32)), (0, .ref zx0), (1, .int zx1)]) hx hb dX9_heard_56 rfl hl (by decide) rfl (fun ls hl => ?_)
    exact w9_heard_57 C0 hr hz fl fl _ _ _ zx0 zx1 (0 : Int32) zt0 hw (lv_sub hl [1, 2, 0] rfl) hf
  · have hf := ite_f hf zc1
    refine lv_iload_n hx hb dX9_heard_9 rfl (lv_at hl 1 rfl) ?_
    refine lv_aload_n hx hb dX9_heard_10 rfl (lv_at hl 0 rfl) ?_
    refine lv_iload_n hx hb dX9_heard_11 rfl (lv_at hl 2 rfl) ?_
    refine lv_iconst (v := (1 : Int32)) hx hb dX9_heard_12 (by decide) ?_
    obtain ⟨zv2, ze3, hf⟩ := nn_some hf
    refine x_ci (r := zv2) (I1 := I) (X1 := X) (x_runV (As := [.int zx2, .int (1 : Int32)]) (rest := [.int zx1]) C0 (c9_reel l E G fl X I zx0 zx2 (1 : Int32) zt0 ze3) hw 9 zt0 (by decide) rfl wd119 wd615 wd616 wd617 wd612 ⟨rfl, rfl⟩ hy9_reel ⟨Nat.le_of_ble_eq_true rfl, Nat.le_of_ble_eq_true rfl⟩ rfl hl.1 (Nat.le_of_ble_eq_true rfl) ⟨Nat.zero_le _, Nat.zero_le _⟩ dX9_heard_13) hw (fun H locs hw => ?_)
    refine lv_if_le (tgt := 46) hx hb dX9_heard_16 (by decide) (fun zc4 => ?_) (fun zc4 => ?_)
    · have hf := ite_t hf zc4
      refine lv_iconst (v := (0 : Int32)) hx hb dX9_heard_46 (by decide) ?_
      exact w9_heard_47 C0 hr hz fl zr4 zhr4 _ _ _ zx0 zx2 zx1 (0 : Int32) zt0 hw (lv_sub hl [0, 2] rfl) hf
    · have hf := ite_f hf zc4
      refine lv_aload_n hx hb dX9_heard_19 rfl (lv_at hl 0 rfl) ?_
      refine lv_iload_n hx hb dX9_heard_20 rfl (lv_at hl 2 rfl) ?_
      refine lv_aload_n hx hb dX9_heard_21 rfl (lv_at hl 0 rfl) ?_
      obtain ⟨zv5, ezv5, hf⟩ := nn_some hf
      have tzv5 : okA E G 11 zv5 := wt_r hw ezv5
      refine xg_9_0 C0 hw zt0 wd601 ezv5 dX9_heard_22 ?_
      refine lv_iload_n hx hb dX9_heard_25 rfl (lv_at hl 2 rfl) ?_
      refine lv_aload_n hx hb dX9_heard_26 rfl (lv_at hl 0 rfl) ?_
      refine lv_iload_n hx hb dX9_heard_27 rfl (lv_at hl 2 rfl) ?_
      refine lv_iconst (v := (1 : Int32)) hx hb dX9_heard_28 (by decide) ?_
      obtain ⟨zv6, ze7, hf⟩ := nn_some hf
      refine x_ci (r := zv6) (I1 := I) (X1 := X) (x_runV (As := [.int zx2, .int (1 : Int32)]) (rest := [.int zx2, .ref zv5, .int zx2, .ref zx0, .int zx1]) C0 (c9_reel l E G fl X I zx0 zx2 (1 : Int32) zt0 ze7) hw 9 zt0 (by decide) rfl wd119 wd615 wd616 wd617 wd612 ⟨rfl, rfl⟩ hy9_reel ⟨Nat.le_of_ble_eq_true rfl, Nat.le_of_ble_eq_true rfl⟩ rfl hl.1 (Nat.le_of_ble_eq_true rfl) ⟨Nat.zero_le _, Nat.zero_le _⟩ dX9_heard_29) hw (fun H locs hw => ?_)
      refine lv_iconst (v := (1 : Int32)) hx hb dX9_heard_32 (by decide) ?_
      refine lv_isub hx hb dX9_heard_33 ?_
      obtain ⟨zv8, ze9, hf⟩ := nn_some hf
      refine x_ci (r := zv8) (I1 := I) (X1 := X) (x_runS (As := [.int zx2, .int (zv6 - (1 : Int32))]) (rest := [.ref zv5, .int zx2, .ref zx0, .int zx1]) C0 (c9_soundAt l E G fl X I zx2 (zv6 - (1 : Int32)) ze9) hw wd121 wd618 wd619 wd612 ⟨rfl, rfl⟩ hy9_soundAt ⟨Nat.le_of_ble_eq_true rfl, Nat.le_of_ble_eq_true rfl⟩ rfl hl.1 (Nat.le_of_ble_eq_true rfl) ⟨Nat.zero_le _, Nat.zero_le _⟩ dX9_heard_34) hw (fun H locs hw => ?_)
      refine lv_iconst (v := (1 : Int32)) hx hb dX9_heard_37 (by decide) ?_
      refine lv_iadd hx hb dX9_heard_38 ?_
      obtain ⟨zhb10, hf⟩ := ck_some hf
      refine x_iald C0 hw tzv5 zhb10 dX9_heard_39 ?_
      obtain ⟨zv11, ze12, hf⟩ := nn_some hf
      refine x_ci (r := zv11) (I1 := I) (X1 := X) (x_runV (As := [.int zx2, .int (gA I zv5 ((zv8 + (1 : Int32))).toNatClampNeg)]) (rest := [.int zx1]) C0 (c9_gives l E G fl X I zx0 zx2 (gA I zv5 ((zv8 + (1 : Int32))).toNatClampNeg) zt0 ze12) hw 9 zt0 (by decide) rfl wd129 wd632 wd633 wd634 wd612 ⟨rfl, rfl⟩ hy9_gives ⟨Nat.le_of_ble_eq_true rfl, Nat.le_of_ble_eq_true rfl⟩ rfl hl.1 (Nat.le_of_ble_eq_true rfl) ⟨Nat.zero_le _, Nat.zero_le _⟩ dX9_heard_40) hw (fun H locs hw => ?_)
      refine lv_goto (tgt := 47) hx hb dX9_heard_43 (by decide) ?_
      exact w9_heard_47 C0 hr hz fl zr4 zhr4 _ _ _ zx0 zx2 zx1 zv11 zt0 hw (lv_sub hl [0, 2] rfl) hf
theorem w9_heard_4 {p : Program} {l : Launch} {e : Env} {s : State} {m : MethodId} {args : Array Value} {below : List Frame} {meth : Method} {c : Code} {E : EN} {G : GM} {X : Xm} {I : Im} (C0 : CX p s m args meth c E cX9_heard RX9 3) (hr : meth.sig.returnType = (some .int)) (hz : s.heap.size + 0 ≤ eB E + G.1) {rr : Int32} (fl : Nat) : ∀ (n : Nat) (H : Heap) (locs : List Loc) (ls : Array Slot) (zx0 : Nat) (zx1 : Int32) (zx2 : Int32) (zt0 : okA E G 9 zx0), WD E G I X s.heap H locs → lv_has ls 3 [(0, .ref zx0), (1, .int zx1), (2, .int zx2)] → m9_heard_4 fl G.2.2 X I n zx0 zx1 zx2 = some rr → W p l e ({ frames := 1, cells := 0, slots := 0, locals := 22 } : Room) s m args below meth c H locs 0 0 (MQ below (QI E G rr I X) args s 0 0 (eA E)) (F0 m 4 ls []) := by
  intro n
  induction n with
  | zero => intro H locs ls zx0 zx1 zx2 zt0 hw hl hf; exact absurd (show (none : Option (Int32)) = some rr from hf) (by simp)
  | succ n ih => intro H locs ls zx0 zx1 zx2 zt0 hw hl hf; exact w9_heard_4b C0 hr hz fl _ ih H locs ls zx0 zx1 zx2 zt0 hw hl hf
noncomputable def m9_heard (fl : Nat) (len : Nat → Nat) (X : Xm) (I : Im) (zx0 : Nat) : Option (Int32) :=
  m9_heard_4 fl len X I fl zx0 (0 : Int32) (0 : Int32)
theorem hy9_heard : yX9_heard.cls = RX9 ∧ yX9_heard.cls ≠ "java/lang/invoke/MethodHandle" ∧ yX9_heard.cls ≠ "java/lang/invoke/VarHandle" ∧ (parseMethodDescriptor yX9_heard.desc).map (fun d => d.parameters.length) = some 0 := ⟨rfl, by decide +kernel, by decide +kernel, by decide +kernel⟩
set_option maxHeartbeats 4000000 in
set_option maxRecDepth 100000 in
theorem c9_heard (l : Launch) (E : EN) (G : GM) (fl : Nat) (X : Xm) (I : Im) (zx0 : Nat) (zt0 : okA E G 9 zx0) {rr : Int32} (hf : m9_heard fl G.2.2 X I zx0 = some rr) : MT l yX9_heard cX9_heard 3 (some .int) ({ frames := 1, cells := 0, slots := 0, locals := 22 } : Room) E G I X [.ref zx0] (QI E G rr I X) 0 0 := by
  refine Met.ofW (cc := cX9_heard) (maxL := 3) (ret := (some .int)) (by decide +kernel) rfl ?_
  intro p e s m args below meth c s₁ B hml hv
  obtain ⟨rfl, hw0, hSE⟩ := hv
  have C0 : CX p s m ([.ref zx0] : List Value).toArray meth c E cX9_heard RX9 3 := ⟨B.exec, B.bytes, hml, findClass_of_methodNamed B.named, fun w hw => atoms_spec (ws := WS yX9_heard cX9_heard 3 (some .int)) B.pre w (List.mem_cons_of_mem _ hw), B.notSynchronized, hSE⟩
  have hz : s.heap.size + 0 ≤ eB E + G.1 := Nat.le_of_eq hw0.2.1
  have hw : WD E G I X s.heap s.heap [] := ⟨hw0, va_S.rf⟩
  have hr := B.returns
  have hx := C0.1; have hb := C0.2.1; have hml := C0.2.2.1; have hown := C0.2.2.2.1; have hts := C0.2.2.2.2.1
  have hl := lv_entry ([.ref zx0]) (n := 3) (Nat.le_of_ble_eq_true rfl)
  rw [lg_entry_eq]
  generalize (lg_sl ([.ref zx0]) ++ List.replicate (3 - (lg_sl ([.ref zx0])).length) Slot.unset).toArray = ls at hl ⊢
  have hl : lv_has ls 3 [(0, .ref zx0)] := hl
  unfold m9_heard at hf
  refine lv_iconst (v := (0 : Int32)) hx hb dX9_heard_0 (by decide) ?_
  refine lv_istore_n (lv' := [(1, .int (0 : Int32)), (0, .ref zx0)]) hx hb dX9_heard_1 rfl hl (by decide) rfl (fun ls hl => ?_)
  refine lv_iconst (v := (0 : Int32)) hx hb dX9_heard_2 (by decide) ?_
  refine lv_istore_n (lv' := [(2, .int (0 : Int32)), (1, .int (0 : Int32)), (0, .ref zx0)]) hx hb dX9_heard_3 rfl hl (by decide) rfl (fun ls hl => ?_)
  exact w9_heard_4 C0 hr hz fl fl _ _ _ zx0 (0 : Int32) (0 : Int32) zt0 hw (lv_sub hl [2, 1, 0] rfl) hf
noncomputable def m9_goesOn_62 (fl : Nat) (len : Nat → Nat) (X : Xm) (I : Im) : Option (Im) :=
  some (I)
set_option maxHeartbeats 4000000 in
set_option maxRecDepth 100000 in
theorem w9_goesOn_62 {p : Program} {l : Launch} {e : Env} {s : State} {m : MethodId} {args : Array Value} {below : List Frame} {meth : Method} {c : Code} {E : EN} {G : GM} {X : Xm} (C0 : CX p s m args meth c E cX9_goesOn RX9 2) (hr : meth.sig.returnType = none) (hz : s.heap.size + 0 ≤ eB E + G.1) {rr : Im} (fl : Nat) : ∀ (I : Im) (H : Heap) (locs : List Loc) (ls : Array Slot) , WD E G I X s.heap H locs → lv_has ls 2 [] → m9_goesOn_62 fl G.2.2 X I = some rr → W p l e ({ frames := 1, cells := 0, slots := 0, locals := 23 } : Room) s m args below meth c H locs 0 0 (MQ below (QV E G rr X) args s 0 0 (eA E)) (F0 m 62 ls []) := by
  intro I H locs ls hw hl hf
  unfold m9_goesOn_62 at hf
  have hx := C0.1; have hb := C0.2.1; have hml := C0.2.2.1; have hown := C0.2.2.2.1; have hts := C0.2.2.2.2.1
  obtain rfl := Option.some.inj hf
  exact x_vret C0 hr hw dX9_goesOn_62
noncomputable def m9_goesOn_59 (fl : Nat) (len : Nat → Nat) (X : Xm) (I : Im) (zs0 : Nat) (zs1 : Int32) (zs2 : Int32) (zs3 : Int32) : Option (Im) :=
  nn (m9_turn fl len X I zs0 zs1 zs2 zs3) fun zI1 =>
  m9_goesOn_62 fl len X zI1
set_option maxHeartbeats 4000000 in
set_option maxRecDepth 100000 in
theorem w9_goesOn_59 {p : Program} {l : Launch} {e : Env} {s : State} {m : MethodId} {args : Array Value} {below : List Frame} {meth : Method} {c : Code} {E : EN} {G : GM} {X : Xm} (C0 : CX p s m args meth c E cX9_goesOn RX9 2) (hr : meth.sig.returnType = none) (hz : s.heap.size + 0 ≤ eB E + G.1) {rr : Im} (fl : Nat) : ∀ (I : Im) (H : Heap) (locs : List Loc) (ls : Array Slot) (zs0 : Nat) (zs1 : Int32) (zs2 : Int32) (zs3 : Int32) (zts0 : okA E G 9 zs0), WD E G I X s.heap H locs → lv_has ls 2 [] → m9_goesOn_59 fl G.2.2 X I zs0 zs1 zs2 zs3 = some rr → W p l e ({ frames := 1, cells := 0, slots := 0, locals := 23 } : Room) s m args below meth c H locs 0 0 (MQ below (QV E G rr X) args s 0 0 (eA E)) (F0 m 59 ls [.int zs3, .int zs2, .int zs1, .ref zs0]) := by
  intro I H locs ls zs0 zs1 zs2 zs3 zts0 hw hl hf
  unfold m9_goesOn_59 at hf
  have hx := C0.1; have hb := C0.2.1; have hml := C0.2.2.1; have hown := C0.2.2.2.1; have hts := C0.2.2.2.2.1
  obtain ⟨zI1, ze2, hf⟩ := nn_some hf
  refine x_cv (I1 := zI1) (X1 := X) (x_runV (As := [.int zs1, .int zs2, .int zs3]) (rest := []) C0 (c9_turn l E G fl X I zs0 zs1 zs2 zs3 zts0 ze2) hw 9 zts0 (by decide) rfl wd120 wd620 wd621 wd622 wd612 ⟨rfl, rfl⟩ hy9_turn ⟨Nat.le_of_ble_eq_true rfl, Nat.le_of_ble_eq_true rfl⟩ rfl hl.1 (Nat.le_of_ble_eq_true rfl) ⟨Nat.zero_le _, Nat.zero_le _⟩ dX9_goesOn_59) hw (fun H locs hw => ?_)
  exact w9_goesOn_62 C0 hr hz fl zI1 _ _ _ hw (lv_sub hl [] rfl) hf
noncomputable def m9_goesOn (fl : Nat) (len : Nat → Nat) (X : Xm) (I : Im) (zx0 : Nat) (zx1 : Int32) : Option (Im) :=
  nn (m9_reel fl len X I zx0 zx1 (1 : Int32)) fun zv1 =>
  if zv1 ≤ 0 then
    m9_goesOn_62 fl len X I
  else
    nn (m9_reel fl len X I zx0 zx1 (0 : Int32)) fun zv4 =>
    nn (m9_turn fl len X I zx0 zx1 (0 : Int32) (zv4 + (1 : Int32))) fun zI6 =>
    nn (m9_reel fl len X zI6 zx0 zx1 (2 : Int32)) fun zv8 =>
    nn (m9_turn fl len X zI6 zx0 zx1 (2 : Int32) (zv8 - (1 : Int32))) fun zI10 =>
    nn (m9_reel fl len X zI10 zx0 zx1 (2 : Int32)) fun zv12 =>
    if zv12 = 0 then
      m9_goesOn_59 fl len X zI10 zx0 zx1 (1 : Int32) (0 : Int32)
    else
      nn (m9_reel fl len X zI10 zx0 zx1 (1 : Int32)) fun zv15 =>
      m9_goesOn_59 fl len X zI10 zx0 zx1 (1 : Int32) zv15
theorem hy9_goesOn : yX9_goesOn.cls = RX9 ∧ yX9_goesOn.cls ≠ "java/lang/invoke/MethodHandle" ∧ yX9_goesOn.cls ≠ "java/lang/invoke/VarHandle" ∧ (parseMethodDescriptor yX9_goesOn.desc).map (fun d => d.parameters.length) = some 1 := ⟨rfl, by decide +kernel, by decide +kernel, by decide +kernel⟩
set_option maxHeartbeats 4000000 in
set_option maxRecDepth 100000 in
theorem c9_goesOn (l : Launch) (E : EN) (G : GM) (fl : Nat) (X : Xm) (I : Im) (zx0 : Nat) (zx1 : Int32) (zt0 : okA E G 9 zx0) {rr : Im} (hf : m9_goesOn fl G.2.2 X I zx0 zx1 = some rr) : MT l yX9_goesOn cX9_goesOn 2 none ({ frames := 1, cells := 0, slots := 0, locals := 23 } : Room) E G I X [.ref zx0, .int zx1] (QV E G rr X) 0 0 := by
  refine Met.ofW (cc := cX9_goesOn) (maxL := 2) (ret := none) (by decide +kernel) rfl ?_
  intro p e s m args below meth c s₁ B hml hv
  obtain ⟨rfl, hw0, hSE⟩ := hv
  have C0 : CX p s m ([.ref zx0, .int zx1] : List Value).toArray meth c E cX9_goesOn RX9 2 := ⟨B.exec, B.bytes, hml, findClass_of_methodNamed B.named, fun w hw => atoms_spec (ws := WS yX9_goesOn cX9_goesOn 2 none) B.pre w (List.mem_cons_of_mem _ hw), B.notSynchronized, hSE⟩
  have hz : s.heap.size + 0 ≤ eB E + G.1 := Nat.le_of_eq hw0.2.1
  have hw : WD E G I X s.heap s.heap [] := ⟨hw0, va_S.rf⟩
  have hr := B.returns
  have hx := C0.1; have hb := C0.2.1; have hml := C0.2.2.1; have hown := C0.2.2.2.1; have hts := C0.2.2.2.2.1
  have hl := lv_entry ([.ref zx0, .int zx1]) (n := 2) (Nat.le_of_ble_eq_true rfl)
  rw [lg_entry_eq]
  generalize (lg_sl ([.ref zx0, .int zx1]) ++ List.replicate (2 - (lg_sl ([.ref zx0, .int zx1])).length) Slot.unset).toArray = ls at hl ⊢
  have hl : lv_has ls 2 [(0, .ref zx0), (1, .int zx1)] := hl
  unfold m9_goesOn at hf
  refine lv_aload_n hx hb dX9_goesOn_0 rfl (lv_at hl 0 rfl) ?_
  refine lv_iload_n hx hb dX9_goesOn_1 rfl (lv_at hl 1 rfl) ?_
  refine lv_iconst (v := (1 : Int32)) hx hb dX9_goesOn_2 (by decide) ?_
  obtain ⟨zv1, ze2, hf⟩ := nn_some hf
  refine x_ci (r := zv1) (I1 := I) (X1 := X) (x_runV (As := [.int zx1, .int (1 : Int32)]) (rest := []) C0 (c9_reel l E G fl X I zx0 zx1 (1 : Int32) zt0 ze2) hw 9 zt0 (by decide) rfl wd119 wd615 wd616 wd617 wd612 ⟨rfl, rfl⟩ hy9_reel ⟨Nat.le_of_ble_eq_true rfl, Nat.le_of_ble_eq_true rfl⟩ rfl hl.1 (Nat.le_of_ble_eq_true rfl) ⟨Nat.zero_le _, Nat.zero_le _⟩ dX9_goesOn_3) hw (fun H locs hw => ?_)
  refine lv_if_le (tgt := 62) hx hb dX9_goesOn_6 (by decide) (fun zc3 => ?_) (fun zc3 => ?_)
  · have hf := ite_t hf zc3
    exact w9_goesOn_62 C0 hr hz fl I _ _ _ hw (lv_sub hl [] rfl) hf
  · have hf := ite_f hf zc3
    refine lv_aload_n hx hb dX9_goesOn_9 rfl (lv_at hl 0 rfl) ?_
    refine lv_iload_n hx hb dX9_goesOn_10 rfl (lv_at hl 1 rfl) ?_
    refine lv_iconst (v := (0 : Int32)) hx hb dX9_goesOn_11 (by decide) ?_
    refine lv_aload_n hx hb dX9_goesOn_12 rfl (lv_at hl 0 rfl) ?_
    refine lv_iload_n hx hb dX9_goesOn_13 rfl (lv_at hl 1 rfl) ?_
    refine lv_iconst (v := (0 : Int32)) hx hb dX9_goesOn_14 (by decide) ?_
    obtain ⟨zv4, ze5, hf⟩ := nn_some hf
    refine x_ci (r := zv4) (I1 := I) (X1 := X) (x_runV (As := [.int zx1, .int (0 : Int32)]) (rest := [.int (0 : Int32), .int zx1, .ref zx0]) C0 (c9_reel l E G fl X I zx0 zx1 (0 : Int32) zt0 ze5) hw 9 zt0 (by decide) rfl wd119 wd615 wd616 wd617 wd612 ⟨rfl, rfl⟩ hy9_reel ⟨Nat.le_of_ble_eq_true rfl, Nat.le_of_ble_eq_true rfl⟩ rfl hl.1 (Nat.le_of_ble_eq_true rfl) ⟨Nat.zero_le _, Nat.zero_le _⟩ dX9_goesOn_15) hw (fun H locs hw => ?_)
    refine lv_iconst (v := (1 : Int32)) hx hb dX9_goesOn_18 (by decide) ?_
    refine lv_iadd hx hb dX9_goesOn_19 ?_
    obtain ⟨zI6, ze7, hf⟩ := nn_some hf
    refine x_cv (I1 := zI6) (X1 := X) (x_runV (As := [.int zx1, .int (0 : Int32), .int (zv4 + (1 : Int32))]) (rest := []) C0 (c9_turn l E G fl X I zx0 zx1 (0 : Int32) (zv4 + (1 : Int32)) zt0 ze7) hw 9 zt0 (by decide) rfl wd120 wd620 wd621 wd622 wd612 ⟨rfl, rfl⟩ hy9_turn ⟨Nat.le_of_ble_eq_true rfl, Nat.le_of_ble_eq_true rfl⟩ rfl hl.1 (Nat.le_of_ble_eq_true rfl) ⟨Nat.zero_le _, Nat.zero_le _⟩ dX9_goesOn_20) hw (fun H locs hw => ?_)
    refine lv_aload_n hx hb dX9_goesOn_23 rfl (lv_at hl 0 rfl) ?_
    refine lv_iload_n hx hb dX9_goesOn_24 rfl (lv_at hl 1 rfl) ?_
    refine lv_iconst (v := (2 : Int32)) hx hb dX9_goesOn_25 (by decide) ?_
    refine lv_aload_n hx hb dX9_goesOn_26 rfl (lv_at hl 0 rfl) ?_
    refine lv_iload_n hx hb dX9_goesOn_27 rfl (lv_at hl 1 rfl) ?_
    refine lv_iconst (v := (2 : Int32)) hx hb dX9_goesOn_28 (by decide) ?_
    obtain ⟨zv8, ze9, hf⟩ := nn_some hf
    refine x_ci (r := zv8) (I1 := zI6) (X1 := X) (x_runV (As := [.int zx1, .int (2 : Int32)]) (rest := [.int (2 : Int32), .int zx1, .ref zx0]) C0 (c9_reel l E G fl X zI6 zx0 zx1 (2 : Int32) zt0 ze9) hw 9 zt0 (by decide) rfl wd119 wd615 wd616 wd617 wd612 ⟨rfl, rfl⟩ hy9_reel ⟨Nat.le_of_ble_eq_true rfl, Nat.le_of_ble_eq_true rfl⟩ rfl hl.1 (Nat.le_of_ble_eq_true rfl) ⟨Nat.zero_le _, Nat.zero_le _⟩ dX9_goesOn_29) hw (fun H locs hw => ?_)
    refine lv_iconst (v := (1 : Int32)) hx hb dX9_goesOn_32 (by decide) ?_
    refine lv_isub hx hb dX9_goesOn_33 ?_
    obtain ⟨zI10, ze11, hf⟩ := nn_some hf
    refine x_cv (I1 := zI10) (X1 := X) (x_runV (As := [.int zx1, .int (2 : Int32), .int (zv8 - (1 : Int32))]) (rest := []) C0 (c9_turn l E G fl X zI6 zx0 zx1 (2 : Int32) (zv8 - (1 : Int32)) zt0 ze11) hw 9 zt0 (by decide) rfl wd120 wd620 wd621 wd622 wd612 ⟨rfl, rfl⟩ hy9_turn ⟨Nat.le_of_ble_eq_true rfl, Nat.le_of_ble_eq_true rfl⟩ rfl hl.1 (Nat.le_of_ble_eq_true rfl) ⟨Nat.zero_le _, Nat.zero_le _⟩ dX9_goesOn_34) hw (fun H locs hw => ?_)
    refine lv_aload_n hx hb dX9_goesOn_37 rfl (lv_at hl 0 rfl) ?_
    refine lv_iload_n hx hb dX9_goesOn_38 rfl (lv_at hl 1 rfl) ?_
    refine lv_iconst (v := (1 : Int32)) hx hb dX9_goesOn_39 (by decide) ?_
    refine lv_aload_n hx hb dX9_goesOn_40 rfl (lv_at hl 0 rfl) ?_
    refine lv_iload_n hx hb dX9_goesOn_41 rfl (lv_at hl 1 rfl) ?_
    refine lv_iconst (v := (2 : Int32)) hx hb dX9_goesOn_42 (by decide) ?_
    obtain ⟨zv12, ze13, hf⟩ := nn_some hf
    refine x_ci (r := zv12) (I1 := zI10) (X1 := X) (x_runV (As := [.int zx1, .int (2 : Int32)]) (rest := [.int (1 : Int32), .int zx1, .ref zx0]) C0 (c9_reel l E G fl X zI10 zx0 zx1 (2 : Int32) zt0 ze13) hw 9 zt0 (by decide) rfl wd119 wd615 wd616 wd617 wd612 ⟨rfl, rfl⟩ hy9_reel ⟨Nat.le_of_ble_eq_true rfl, Nat.le_of_ble_eq_true rfl⟩ rfl hl.1 (Nat.le_of_ble_eq_true rfl) ⟨Nat.zero_le _, Nat.zero_le _⟩ dX9_goesOn_43) hw (fun H locs hw => ?_)
    refine lv_if_ne (tgt := 53) hx hb dX9_goesOn_46 (by decide) (fun zc14 => ?_) (fun zc14 => ?_)
    · have hf := ite_f hf zc14
      refine lv_aload_n hx hb dX9_goesOn_53 rfl (lv_at hl 0 rfl) ?_
      refine lv_iload_n hx hb dX9_goesOn_54 rfl (lv_at hl 1 rfl) ?_
      refine lv_iconst (v := (1 : Int32)) hx hb dX9_goesOn_55 (by decide) ?_
      obtain ⟨zv15, ze16, hf⟩ := nn_some hf
      refine x_ci (r := zv15) (I1 := zI10) (X1 := X) (x_runV (As := [.int zx1, .int (1 : Int32)]) (rest := [.int (1 : Int32), .int zx1, .ref zx0]) C0 (c9_reel l E G fl X zI10 zx0 zx1 (1 : Int32) zt0 ze16) hw 9 zt0 (by decide) rfl wd119 wd615 wd616 wd617 wd612 ⟨rfl, rfl⟩ hy9_reel ⟨Nat.le_of_ble_eq_true rfl, Nat.le_of_ble_eq_true rfl⟩ rfl hl.1 (Nat.le_of_ble_eq_true rfl) ⟨Nat.zero_le _, Nat.zero_le _⟩ dX9_goesOn_56) hw (fun H locs hw => ?_)
      exact w9_goesOn_59 C0 hr hz fl zI10 _ _ _ zx0 zx1 (1 : Int32) zv15 zt0 hw (lv_sub hl [] rfl) hf
    · have hf := ite_t hf zc14
      refine lv_iconst (v := (0 : Int32)) hx hb dX9_goesOn_49 (by decide) ?_
      refine lv_goto (tgt := 59) hx hb dX9_goesOn_50 (by decide) ?_
      exact w9_goesOn_59 C0 hr hz fl zI10 _ _ _ zx0 zx1 (1 : Int32) (0 : Int32) zt0 hw (lv_sub hl [] rfl) hf
noncomputable def m9_fall_120 (fl : Nat) (len : Nat → Nat) (X : Xm) (zr4 : Im → Nat → Int32 → Int32 → Option (Im)) (I : Im) (zx0 : Nat) (zx2 : Int32) (zs0 : Int32) (zs1 : Int32) (p_144 : Nat) : Option (Im) :=
  lt ((zs0 + zs1)) fun zv1 =>
  lt (zx2 + 1) fun zv2 =>
  zr4 I zx0 zv1 zv2
set_option maxHeartbeats 4000000 in
set_option maxRecDepth 100000 in
theorem w9_fall_120 {p : Program} {l : Launch} {e : Env} {s : State} {m : MethodId} {args : Array Value} {below : List Frame} {meth : Method} {c : Code} {E : EN} {G : GM} {X : Xm} (C0 : CX p s m args meth c E cX9_fall RX9 3) (hr : meth.sig.returnType = none) (hz : s.heap.size + 0 ≤ eB E + G.1) {rr : Im} (fl : Nat) (zr4 : Im → Nat → Int32 → Int32 → Option (Im)) (zhr4 : ∀ (I : Im) (H : Heap) (locs : List Loc) (ls : Array Slot) (zx0 : Nat) (zx1 : Int32) (zx2 : Int32) (zt0 : okA E G 9 zx0), WD E G I X s.heap H locs → lv_has ls 3 [(0, .ref zx0), (1, .int zx1), (2, .int zx2)] → zr4 I zx0 zx1 zx2 = some rr → W p l e ({ frames := 0, cells := 0, slots := 0, locals := 0 } : Room) s m args below meth c H locs 0 0 (MQ below (QV E G rr X) args s 0 0 (eA E)) (F0 m 4 ls [])) : ∀ (I : Im) (H : Heap) (locs : List Loc) (ls : Array Slot) (zx0 : Nat) (zx2 : Int32) (zs0 : Int32) (zs1 : Int32) (p_144 : Nat) (zt0 : okA E G 9 zx0) (ep_144 : gR X 144 zx0 = some p_144) (tp_144 : okA E G 11 p_144), WD E G I X s.heap H locs → lv_has ls 3 [(0, .ref zx0), (2, .int zx2)] → m9_fall_120 fl G.2.2 X zr4 I zx0 zx2 zs0 zs1 p_144 = some rr → W p l e ({ frames := 0, cells := 0, slots := 0, locals := 0 } : Room) s m args below meth c H locs 0 0 (MQ below (QV E G rr X) args s 0 0 (eA E)) (F0 m 120 ls [.int zs1, .int zs0]) := by
  intro I H locs ls zx0 zx2 zs0 zs1 p_144 zt0 ep_144 tp_144 hw hl hf
  unfold m9_fall_120 at hf
  have hx := C0.1; have hb := C0.2.1; have hml := C0.2.2.1; have hown := C0.2.2.2.1; have hts := C0.2.2.2.2.1
  refine lv_iadd hx hb dX9_fall_120 ?_
  refine lv_topi (fun zv1 ezv1 => ?_)
  have hf := lt_at hf ezv1
  refine lv_istore_n (lv' := [(1, .int zv1), (0, .ref zx0), (2, .int zx2)]) hx hb dX9_fall_121 rfl hl (by decide) rfl (fun ls hl => ?_)
  obtain ⟨zv2, ezv2⟩ : ∃ y : Int32, y = zx2 + 1 := ⟨_, rfl⟩
  have hf := lt_at hf ezv2
  refine lv_iinc (v := zv2) (lv' := [(2, .int zv2), (1, .int zv1), (0, .ref zx0)]) hx hb dX9_fall_122 hl (k := 2) rfl (by rw [ezv2]; rfl) (by decide) rfl (fun ls hl => ?_)
  refine lv_goto (tgt := 4) hx hb dX9_fall_125 (by decide) ?_
  exact zhr4 I _ _ _ zx0 zv1 zv2 zt0 hw (lv_sub hl [2, 1, 0] rfl) hf
noncomputable def m9_fall_4b (fl : Nat) (len : Nat → Nat) (X : Xm) (zr4 : Im → Nat → Int32 → Int32 → Option (Im)) (I : Im) (zx0 : Nat) (zx1 : Int32) (zx2 : Int32) : Option (Im) :=
  nn (gR X 144 zx0) fun zv1 =>
  ck (inb (6 : Int32) (len zv1) = true) <|
  if (gA I zv1 ((6 : Int32)).toNatClampNeg) ≤ zx2 then
    lt (pA I zv1 ((6 : Int32)).toNatClampNeg zx1) fun zI4 =>
    some (zI4)
  else
    ck (inb ((224 : Int32) + ((3 : Int32) * zx2)) (len zv1) = true) <|
    ck (inb ((224 : Int32) + ((3 : Int32) * zx1)) (len zv1) = true) <|
    lt (pA I zv1 (((224 : Int32) + ((3 : Int32) * zx1))).toNatClampNeg (gA I zv1 (((224 : Int32) + ((3 : Int32) * zx2))).toNatClampNeg)) fun zI7 =>
    ck (inb (((224 : Int32) + ((3 : Int32) * zx2)) + (1 : Int32)) (len zv1) = true) <|
    ck (inb (((224 : Int32) + ((3 : Int32) * zx1)) + (1 : Int32)) (len zv1) = true) <|
    lt (pA zI7 zv1 ((((224 : Int32) + ((3 : Int32) * zx1)) + (1 : Int32))).toNatClampNeg (gA zI7 zv1 ((((224 : Int32) + ((3 : Int32) * zx2)) + (1 : Int32))).toNatClampNeg)) fun zI10 =>
    ck (inb (((224 : Int32) + ((3 : Int32) * zx2)) + (2 : Int32)) (len zv1) = true) <|
    ck (inb (((224 : Int32) + ((3 : Int32) * zx1)) + (2 : Int32)) (len zv1) = true) <|
    lt (pA zI10 zv1 ((((224 : Int32) + ((3 : Int32) * zx1)) + (2 : Int32))).toNatClampNeg ((gA zI10 zv1 ((((224 : Int32) + ((3 : Int32) * zx2)) + (2 : Int32))).toNatClampNeg) - (1 : Int32))) fun zI13 =>
    if (gA zI13 zv1 ((((224 : Int32) + ((3 : Int32) * zx1)) + (2 : Int32))).toNatClampNeg) ≤ 0 then
      m9_fall_120 fl len X zr4 zI13 zx0 zx2 zx1 (0 : Int32) zv1
    else
      m9_fall_120 fl len X zr4 zI13 zx0 zx2 zx1 (1 : Int32) zv1
noncomputable def m9_fall_4 (fl : Nat) (len : Nat → Nat) (X : Xm) (n : Nat) : Im → Nat → Int32 → Int32 → Option (Im) :=
  Nat.rec (fun _ _ _ _ => none) (fun _ r => m9_fall_4b fl len X r) n
set_option maxHeartbeats 4000000 in
set_option maxRecDepth 100000 in
theorem w9_fall_4b {p : Program} {l : Launch} {e : Env} {s : State} {m : MethodId} {args : Array Value} {below : List Frame} {meth : Method} {c : Code} {E : EN} {G : GM} {X : Xm} (C0 : CX p s m args meth c E cX9_fall RX9 3) (hr : meth.sig.returnType = none) (hz : s.heap.size + 0 ≤ eB E + G.1) {rr : Im} (fl : Nat) (zr4 : Im → Nat → Int32 → Int32 → Option (Im)) (zhr4 : ∀ (I : Im) (H : Heap) (locs : List Loc) (ls : Array Slot) (zx0 : Nat) (zx1 : Int32) (zx2 : Int32) (zt0 : okA E G 9 zx0), WD E G I X s.heap H locs → lv_has ls 3 [(0, .ref zx0), (1, .int zx1), (2, .int zx2)] → zr4 I zx0 zx1 zx2 = some rr → W p l e ({ frames := 0, cells := 0, slots := 0, locals := 0 } : Room) s m args below meth c H locs 0 0 (MQ below (QV E G rr X) args s 0 0 (eA E)) (F0 m 4 ls [])) : ∀ (I : Im) (H : Heap) (locs : List Loc) (ls : Array Slot) (zx0 : Nat) (zx1 : Int32) (zx2 : Int32) (zt0 : okA E G 9 zx0), WD E G I X s.heap H locs → lv_has ls 3 [(0, .ref zx0), (1, .int zx1), (2, .int zx2)] → m9_fall_4b fl G.2.2 X zr4 I zx0 zx1 zx2 = some rr → W p l e ({ frames := 0, cells := 0, slots := 0, locals := 0 } : Room) s m args below meth c H locs 0 0 (MQ below (QV E G rr X) args s 0 0 (eA E)) (F0 m 4 ls []) := by
  intro I H locs ls zx0 zx1 zx2 zt0 hw hl hf
  unfold m9_fall_4b at hf
  have hx := C0.1; have hb := C0.2.1; have hml := C0.2.2.1; have hown := C0.2.2.2.1; have hts := C0.2.2.2.2.1
  refine lv_iload_n hx hb dX9_fall_4 rfl (lv_at hl 2 rfl) ?_
  refine lv_aload_n hx hb dX9_fall_5 rfl (lv_at hl 0 rfl) ?_
  obtain ⟨zv1, ezv1, hf⟩ := nn_some hf
  have tzv1 : okA E G 11 zv1 := wt_r hw ezv1
  refine xg_9_0 C0 hw zt0 wd601 ezv1 dX9_fall_6 ?_
  refine lv_bipush (v := (6 : Int32)) hx hb dX9_fall_9 (by decide) ?_
  obtain ⟨zhb2, hf⟩ := ck_some hf
  refine x_iald C0 hw tzv1 zhb2 dX9_fall_11 ?_
  refine lv_icmp_ge (tgt := 128) hx hb dX9_fall_12 (by decide) (fun zc3 => ?_) (fun zc3 => ?_)
  · have hf := ite_t hf zc3
    refine lv_aload_n hx hb dX9_fall_128 rfl (lv_at hl 0 rfl) ?_
    refine xg_9_0 C0 hw zt0 wd601 ezv1 dX9_fall_129 ?_
    refine lv_bipush (v := (6 : Int32)) hx hb dX9_fall_132 (by decide) ?_
    refine lv_iload_n hx hb dX9_fall_134 rfl (lv_at hl 1 rfl) ?_
    obtain ⟨zI4, ezI4⟩ : ∃ y : Im, y = pA I zv1 ((6 : Int32)).toNatClampNeg zx1 := ⟨_, rfl⟩
    have hf := lt_at hf ezI4
    refine x_iast C0 hz hw tzv1 zhb2 dX9_fall_135 ezI4 (fun H locs hw => ?_)
    obtain rfl := Option.some.inj hf
    exact x_vret C0 hr hw dX9_fall_136
  · have hf := ite_f hf zc3
    refine lv_aload_n hx hb dX9_fall_15 rfl (lv_at hl 0 rfl) ?_
    refine xg_9_0 C0 hw zt0 wd601 ezv1 dX9_fall_16 ?_
    refine lv_sipush (v := (224 : Int32)) hx hb dX9_fall_19 (by decide) ?_
    refine lv_iconst (v := (3 : Int32)) hx hb dX9_fall_22 (by decide) ?_
    refine lv_iload_n hx hb dX9_fall_23 rfl (lv_at hl 1 rfl) ?_
    refine lv_imul hx hb dX9_fall_24 ?_
    refine lv_iadd hx hb dX9_fall_25 ?_
    refine lv_aload_n hx hb dX9_fall_26 rfl (lv_at hl 0 rfl) ?_
    refine xg_9_0 C0 hw zt0 wd601 ezv1 dX9_fall_27 ?_
    refine lv_sipush (v := (224 : Int32)) hx hb dX9_fall_30 (by decide) ?_
    refine lv_iconst (v := (3 : Int32)) hx hb dX9_fall_33 (by decide) ?_
    refine lv_iload_n hx hb dX9_fall_34 rfl (lv_at hl 2 rfl) ?_
    refine lv_imul hx hb dX9_fall_35 ?_
    refine lv_iadd hx hb dX9_fall_36 ?_
    obtain ⟨zhb5, hf⟩ := ck_some hf
    refine x_iald C0 hw tzv1 zhb5 dX9_fall_37 ?_
    obtain ⟨zhb6, hf⟩ := ck_some hf
    obtain ⟨zI7, ezI7⟩ : ∃ y : Im, y = pA I zv1 (((224 : Int32) + ((3 : Int32) * zx1))).toNatClampNeg (gA I zv1 (((224 : Int32) + ((3 : Int32) * zx2))).toNatClampNeg) := ⟨_, rfl⟩
    have hf := lt_at hf ezI7
    refine x_iast C0 hz hw tzv1 zhb6 dX9_fall_38 ezI7 (fun H locs hw => ?_)
    refine lv_aload_n hx hb dX9_fall_39 rfl (lv_at hl 0 rfl) ?_
    refine xg_9_0 C0 hw zt0 wd601 ezv1 dX9_fall_40 ?_
    refine lv_sipush (v := (224 : Int32)) hx hb dX9_fall_43 (by decide) ?_
    refine lv_iconst (v := (3 : Int32)) hx hb dX9_fall_46 (by decide) ?_
    refine lv_iload_n hx hb dX9_fall_47 rfl (lv_at hl 1 rfl) ?_
    refine lv_imul hx hb dX9_fall_48 ?_
    refine lv_iadd hx hb dX9_fall_49 ?_
    refine lv_iconst (v := (1 : Int32)) hx hb dX9_fall_50 (by decide) ?_
    refine lv_iadd hx hb dX9_fall_51 ?_
    refine lv_aload_n hx hb dX9_fall_52 rfl (lv_at hl 0 rfl) ?_
    refine xg_9_0 C0 hw zt0 wd601 ezv1 dX9_fall_53 ?_
    refine lv_sipush (v := (224 : Int32)) hx hb dX9_fall_56 (by decide) ?_
    refine lv_iconst (v := (3 : Int32)) hx hb dX9_fall_59 (by decide) ?_
    refine lv_iload_n hx hb dX9_fall_60 rfl (lv_at hl 2 rfl) ?_
    refine lv_imul hx hb dX9_fall_61 ?_
    refine lv_iadd hx hb dX9_fall_62 ?_
    refine lv_iconst (v := (1 : Int32)) hx hb dX9_fall_63 (by decide) ?_
    refine lv_iadd hx hb dX9_fall_64 ?_
    obtain ⟨zhb8, hf⟩ := ck_some hf
    refine x_iald C0 hw tzv1 zhb8 dX9_fall_65 ?_
    obtain ⟨zhb9, hf⟩ := ck_some hf
    obtain ⟨zI10, ezI10⟩ : ∃ y : Im, y = pA zI7 zv1 ((((224 : Int32) + ((3 : Int32) * zx1)) + (1 : Int32))).toNatClampNeg (gA zI7 zv1 ((((224 : Int32) + ((3 : Int32) * zx2)) + (1 : Int32))).toNatClampNeg) := ⟨_, rfl⟩
    have hf := lt_at hf ezI10
    refine x_iast C0 hz hw tzv1 zhb9 dX9_fall_66 ezI10 (fun H locs hw => ?_)
    refine lv_aload_n hx hb dX9_fall_67 rfl (lv_at hl 0 rfl) ?_
    refine xg_9_0 C0 hw zt0 wd601 ezv1 dX9_fall_68 ?_
    refine lv_sipush (v := (224 : Int32)) hx hb dX9_fall_71 (by decide) ?_
    refine lv_iconst (v := (3 : Int32)) hx hb dX9_fall_74 (by decide) ?_
    refine lv_iload_n hx hb dX9_fall_75 rfl (lv_at hl 1 rfl) ?_
    refine lv_imul hx hb dX9_fall_76 ?_
    refine lv_iadd hx hb dX9_fall_77 ?_
    refine lv_iconst (v := (2 : Int32)) hx hb dX9_fall_78 (by decide) ?_
    refine lv_iadd hx hb dX9_fall_79 ?_
    refine lv_aload_n hx hb dX9_fall_80 rfl (lv_at hl 0 rfl) ?_
    refine xg_9_0 C0 hw zt0 wd601 ezv1 dX9_fall_81 ?_
    refine lv_sipush (v := (224 : Int32)) hx hb dX9_fall_84 (by decide) ?_
    refine lv_iconst (v := (3 : Int32)) hx hb dX9_fall_87 (by decide) ?_
    refine lv_iload_n hx hb dX9_fall_88 rfl (lv_at hl 2 rfl) ?_
    refine lv_imul hx hb dX9_fall_89 ?_
    refine lv_iadd hx hb dX9_fall_90 ?_
    refine lv_iconst (v := (2 : Int32)) hx hb dX9_fall_91 (by decide) ?_
    refine lv_iadd hx hb dX9_fall_92 ?_
    obtain ⟨zhb11, hf⟩ := ck_some hf
    refine x_iald C0 hw tzv1 zhb11 dX9_fall_93 ?_
    refine lv_iconst (v := (1 : Int32)) hx hb dX9_fall_94 (by decide) ?_
    refine lv_isub hx hb dX9_fall_95 ?_
    obtain ⟨zhb12, hf⟩ := ck_some hf
    obtain ⟨zI13, ezI13⟩ : ∃ y : Im, y = pA zI10 zv1 ((((224 : Int32) + ((3 : Int32) * zx1)) + (2 : Int32))).toNatClampNeg ((gA zI10 zv1 ((((224 : Int32) + ((3 : Int32) * zx2)) + (2 : Int32))).toNatClampNeg) - (1 : Int32)) := ⟨_, rfl⟩
    have hf := lt_at hf ezI13
    refine x_iast C0 hz hw tzv1 zhb12 dX9_fall_96 ezI13 (fun H locs hw => ?_)
    refine lv_iload_n hx hb dX9_fall_97 rfl (lv_at hl 1 rfl) ?_
    refine lv_aload_n hx hb dX9_fall_98 rfl (lv_at hl 0 rfl) ?_
    refine xg_9_0 C0 hw zt0 wd601 ezv1 dX9_fall_99 ?_
    refine lv_sipush (v := (224 : Int32)) hx hb dX9_fall_102 (by decide) ?_
    refine lv_iconst (v := (3 : Int32)) hx hb dX9_fall_105 (by decide) ?_
    refine lv_iload_n hx hb dX9_fall_106 rfl (lv_at hl 1 rfl) ?_
    refine lv_imul hx hb dX9_fall_107 ?_
    refine lv_iadd hx hb dX9_fall_108 ?_
    refine lv_iconst (v := (2 : Int32)) hx hb dX9_fall_109 (by decide) ?_
    refine lv_iadd hx hb dX9_fall_110 ?_
    refine x_iald C0 hw tzv1 zhb12 dX9_fall_111 ?_
    refine lv_if_le (tgt := 119) hx hb dX9_fall_112 (by decide) (fun zc14 => ?_) (fun zc14 => ?_)
    · have hf := ite_t hf zc14
      refine lv_iconst (v := (0 : Int32)) hx hb dX9_fall_119 (by decide) ?_
      exact w9_fall_120 C0 hr hz fl zr4 zhr4 zI13 _ _ _ zx0 zx2 zx1 (0 : Int32) zv1 zt0 ezv1 tzv1 hw (lv_sub hl [0, 2] rfl) hf
    · have hf := ite_f hf zc14
      refine lv_iconst (v := (1 : Int32)) hx hb dX9_fall_115 (by decide) ?_
      refine lv_goto (tgt := 120) hx hb dX9_fall_116 (by decide) ?_
      exact w9_fall_120 C0 hr hz fl zr4 zhr4 zI13 _ _ _ zx0 zx2 zx1 (1 : Int32) zv1 zt0 ezv1 tzv1 hw (lv_sub hl [0, 2] rfl) hf
theorem w9_fall_4 {p : Program} {l : Launch} {e : Env} {s : State} {m : MethodId} {args : Array Value} {below : List Frame} {meth : Method} {c : Code} {E : EN} {G : GM} {X : Xm} (C0 : CX p s m args meth c E cX9_fall RX9 3) (hr : meth.sig.returnType = none) (hz : s.heap.size + 0 ≤ eB E + G.1) {rr : Im} (fl : Nat) : ∀ (n : Nat) (I : Im) (H : Heap) (locs : List Loc) (ls : Array Slot) (zx0 : Nat) (zx1 : Int32) (zx2 : Int32) (zt0 : okA E G 9 zx0), WD E G I X s.heap H locs → lv_has ls 3 [(0, .ref zx0), (1, .int zx1), (2, .int zx2)] → m9_fall_4 fl G.2.2 X n I zx0 zx1 zx2 = some rr → W p l e ({ frames := 0, cells := 0, slots := 0, locals := 0 } : Room) s m args below meth c H locs 0 0 (MQ below (QV E G rr X) args s 0 0 (eA E)) (F0 m 4 ls []) := by
  intro n
  induction n with
  | zero => intro I H locs ls zx0 zx1 zx2 zt0 hw hl hf; exact absurd (show (none : Option (Im)) = some rr from hf) (by simp)
  | succ n ih => intro I H locs ls zx0 zx1 zx2 zt0 hw hl hf; exact w9_fall_4b C0 hr hz fl _ ih I H locs ls zx0 zx1 zx2 zt0 hw hl hf
noncomputable def m9_fall (fl : Nat) (len : Nat → Nat) (X : Xm) (I : Im) (zx0 : Nat) : Option (Im) :=
  m9_fall_4 fl len X fl I zx0 (0 : Int32) (0 : Int32)
theorem hy9_fall : yX9_fall.cls = RX9 ∧ yX9_fall.cls ≠ "java/lang/invoke/MethodHandle" ∧ yX9_fall.cls ≠ "java/lang/invoke/VarHandle" ∧ (parseMethodDescriptor yX9_fall.desc).map (fun d => d.parameters.length) = some 0 := ⟨rfl, by decide +kernel, by decide +kernel, by decide +kernel⟩
set_option maxHeartbeats 4000000 in
set_option maxRecDepth 100000 in
theorem c9_fall (l : Launch) (E : EN) (G : GM) (fl : Nat) (X : Xm) (I : Im) (zx0 : Nat) (zt0 : okA E G 9 zx0) {rr : Im} (hf : m9_fall fl G.2.2 X I zx0 = some rr) : MT l yX9_fall cX9_fall 3 none ({ frames := 0, cells := 0, slots := 0, locals := 0 } : Room) E G I X [.ref zx0] (QV E G rr X) 0 0 := by
  refine Met.ofW (cc := cX9_fall) (maxL := 3) (ret := none) (by decide +kernel) rfl ?_
  intro p e s m args below meth c s₁ B hml hv
  obtain ⟨rfl, hw0, hSE⟩ := hv
  have C0 : CX p s m ([.ref zx0] : List Value).toArray meth c E cX9_fall RX9 3 := ⟨B.exec, B.bytes, hml, findClass_of_methodNamed B.named, fun w hw => atoms_spec (ws := WS yX9_fall cX9_fall 3 none) B.pre w (List.mem_cons_of_mem _ hw), B.notSynchronized, hSE⟩
  have hz : s.heap.size + 0 ≤ eB E + G.1 := Nat.le_of_eq hw0.2.1
  have hw : WD E G I X s.heap s.heap [] := ⟨hw0, va_S.rf⟩
  have hr := B.returns
  have hx := C0.1; have hb := C0.2.1; have hml := C0.2.2.1; have hown := C0.2.2.2.1; have hts := C0.2.2.2.2.1
  have hl := lv_entry ([.ref zx0]) (n := 3) (Nat.le_of_ble_eq_true rfl)
  rw [lg_entry_eq]
  generalize (lg_sl ([.ref zx0]) ++ List.replicate (3 - (lg_sl ([.ref zx0])).length) Slot.unset).toArray = ls at hl ⊢
  have hl : lv_has ls 3 [(0, .ref zx0)] := hl
  unfold m9_fall at hf
  refine lv_iconst (v := (0 : Int32)) hx hb dX9_fall_0 (by decide) ?_
  refine lv_istore_n (lv' := [(1, .int (0 : Int32)), (0, .ref zx0)]) hx hb dX9_fall_1 rfl hl (by decide) rfl (fun ls hl => ?_)
  refine lv_iconst (v := (0 : Int32)) hx hb dX9_fall_2 (by decide) ?_
  refine lv_istore_n (lv' := [(2, .int (0 : Int32)), (1, .int (0 : Int32)), (0, .ref zx0)]) hx hb dX9_fall_3 rfl hl (by decide) rfl (fun ls hl => ?_)
  exact w9_fall_4 C0 hr hz fl fl I _ _ _ zx0 (0 : Int32) (0 : Int32) zt0 hw (lv_sub hl [2, 1, 0] rfl) hf
noncomputable def m9_next_42 (fl : Nat) (len : Nat → Nat) (X : Xm) (I : Im) (zr2 : Nat → Int32 → Int32 → Option (Int32)) (zx0 : Nat) (zx1 : Int32) (zx2 : Int32) (p_144 : Nat) : Option (Int32) :=
  lt (zx2 + 1) fun zv1 =>
  zr2 zx0 zx1 zv1
set_option maxHeartbeats 4000000 in
set_option maxRecDepth 100000 in
theorem w9_next_42 {p : Program} {l : Launch} {e : Env} {s : State} {m : MethodId} {args : Array Value} {below : List Frame} {meth : Method} {c : Code} {E : EN} {G : GM} {X : Xm} {I : Im} (C0 : CX p s m args meth c E cX9_next RX9 3) (hr : meth.sig.returnType = (some .int)) (hz : s.heap.size + 0 ≤ eB E + G.1) {rr : Int32} (fl : Nat) (zr2 : Nat → Int32 → Int32 → Option (Int32)) (zhr2 : ∀ (H : Heap) (locs : List Loc) (ls : Array Slot) (zx0 : Nat) (zx1 : Int32) (zx2 : Int32) (zt0 : okA E G 9 zx0), WD E G I X s.heap H locs → lv_has ls 3 [(0, .ref zx0), (1, .int zx1), (2, .int zx2)] → zr2 zx0 zx1 zx2 = some rr → W p l e ({ frames := 1, cells := 0, slots := 0, locals := 22 } : Room) s m args below meth c H locs 0 0 (MQ below (QI E G rr I X) args s 0 0 (eA E)) (F0 m 2 ls [])) : ∀ (H : Heap) (locs : List Loc) (ls : Array Slot) (zx0 : Nat) (zx1 : Int32) (zx2 : Int32) (p_144 : Nat) (zt0 : okA E G 9 zx0) (ep_144 : gR X 144 zx0 = some p_144) (tp_144 : okA E G 11 p_144), WD E G I X s.heap H locs → lv_has ls 3 [(0, .ref zx0), (1, .int zx1), (2, .int zx2)] → m9_next_42 fl G.2.2 X I zr2 zx0 zx1 zx2 p_144 = some rr → W p l e ({ frames := 1, cells := 0, slots := 0, locals := 22 } : Room) s m args below meth c H locs 0 0 (MQ below (QI E G rr I X) args s 0 0 (eA E)) (F0 m 42 ls []) := by
  intro H locs ls zx0 zx1 zx2 p_144 zt0 ep_144 tp_144 hw hl hf
  unfold m9_next_42 at hf
  have hx := C0.1; have hb := C0.2.1; have hml := C0.2.2.1; have hown := C0.2.2.2.1; have hts := C0.2.2.2.2.1
  obtain ⟨zv1, ezv1⟩ : ∃ y : Int32, y = zx2 + 1 := ⟨_, rfl⟩
  have hf := lt_at hf ezv1
  refine lv_iinc (v := zv1) (lv' := [(2, .int zv1), (0, .ref zx0), (1, .int zx1)]) hx hb dX9_next_42 hl (k := 2) rfl (by rw [ezv1]; rfl) (by decide) rfl (fun ls hl => ?_)
  refine lv_goto (tgt := 2) hx hb dX9_next_45 (by decide) ?_
  exact zhr2 _ _ _ zx0 zx1 zv1 zt0 hw (lv_sub hl [1, 2, 0] rfl) hf
noncomputable def m9_next_2b (fl : Nat) (len : Nat → Nat) (X : Xm) (I : Im) (zr2 : Nat → Int32 → Int32 → Option (Int32)) (zx0 : Nat) (zx1 : Int32) (zx2 : Int32) : Option (Int32) :=
  nn (gR X 144 zx0) fun zv1 =>
  ck (inb (5 : Int32) (len zv1) = true) <|
  if (gA I zv1 ((5 : Int32)).toNatClampNeg) ≤ zx2 then
    some ((-6 : Int32))
  else
    nn (m9_of fl len X I zx0 zx2 (4 : Int32)) fun zv4 =>
    if zv4 = 0 then
      nn (m9_of fl len X I zx0 zx2 (1 : Int32)) fun zv7 =>
      if zv7 = 0 then
        nn (m9_of fl len X I zx0 zx2 (2 : Int32)) fun zv10 =>
        if zv10 = zx1 then
          some (zx2)
        else
          m9_next_42 fl len X I zr2 zx0 zx1 zx2 zv1
      else
        m9_next_42 fl len X I zr2 zx0 zx1 zx2 zv1
    else
      m9_next_42 fl len X I zr2 zx0 zx1 zx2 zv1
noncomputable def m9_next_2 (fl : Nat) (len : Nat → Nat) (X : Xm) (I : Im) (n : Nat) : Nat → Int32 → Int32 → Option (Int32) :=
  Nat.rec (fun _ _ _ => none) (fun _ r => m9_next_2b fl len X I r) n
set_option maxHeartbeats 4000000 in
set_option maxRecDepth 100000 in
theorem w9_next_2b {p : Program} {l : Launch} {e : Env} {s : State} {m : MethodId} {args : Array Value} {below : List Frame} {meth : Method} {c : Code} {E : EN} {G : GM} {X : Xm} {I : Im} (C0 : CX p s m args meth c E cX9_next RX9 3) (hr : meth.sig.returnType = (some .int)) (hz : s.heap.size + 0 ≤ eB E + G.1) {rr : Int32} (fl : Nat) (zr2 : Nat → Int32 → Int32 → Option (Int32)) (zhr2 : ∀ (H : Heap) (locs : List Loc) (ls : Array Slot) (zx0 : Nat) (zx1 : Int32) (zx2 : Int32) (zt0 : okA E G 9 zx0), WD E G I X s.heap H locs → lv_has ls 3 [(0, .ref zx0), (1, .int zx1), (2, .int zx2)] → zr2 zx0 zx1 zx2 = some rr → W p l e ({ frames := 1, cells := 0, slots := 0, locals := 22 } : Room) s m args below meth c H locs 0 0 (MQ below (QI E G rr I X) args s 0 0 (eA E)) (F0 m 2 ls [])) : ∀ (H : Heap) (locs : List Loc) (ls : Array Slot) (zx0 : Nat) (zx1 : Int32) (zx2 : Int32) (zt0 : okA E G 9 zx0), WD E G I X s.heap H locs → lv_has ls 3 [(0, .ref zx0), (1, .int zx1), (2, .int zx2)] → m9_next_2b fl G.2.2 X I zr2 zx0 zx1 zx2 = some rr → W p l e ({ frames := 1, cells := 0, slots := 0, locals := 22 } : Room) s m args below meth c H locs 0 0 (MQ below (QI E G rr I X) args s 0 0 (eA E)) (F0 m 2 ls []) := by
  intro H locs ls zx0 zx1 zx2 zt0 hw hl hf
  unfold m9_next_2b at hf
  have hx := C0.1; have hb := C0.2.1; have hml := C0.2.2.1; have hown := C0.2.2.2.1; have hts := C0.2.2.2.2.1
  refine lv_iload_n hx hb dX9_next_2 rfl (lv_at hl 2 rfl) ?_
  refine lv_aload_n hx hb dX9_next_3 rfl (lv_at hl 0 rfl) ?_
  obtain ⟨zv1, ezv1, hf⟩ := nn_some hf
  have tzv1 : okA E G 11 zv1 := wt_r hw ezv1
  refine xg_9_0 C0 hw zt0 wd601 ezv1 dX9_next_4 ?_
  refine lv_iconst (v := (5 : Int32)) hx hb dX9_next_7 (by decide) ?_
  obtain ⟨zhb2, hf⟩ := ck_some hf
  refine x_iald C0 hw tzv1 zhb2 dX9_next_8 ?_
  refine lv_icmp_ge (tgt := 48) hx hb dX9_next_9 (by decide) (fun zc3 => ?_) (fun zc3 => ?_)
  · have hf := ite_t hf zc3
    refine lv_bipush (v := (-6 : Int32)) hx hb dX9_next_48 (by decide) ?_
    obtain rfl := Option.some.inj hf
    exact x_iret C0 hr hw dX9_next_50
  · have hf := ite_f hf zc3
    refine lv_aload_n hx hb dX9_next_12 rfl (lv_at hl 0 rfl) ?_
    refine lv_iload_n hx hb dX9_next_13 rfl (lv_at hl 2 rfl) ?_
    refine lv_iconst (v := (4 : Int32)) hx hb dX9_next_14 (by decide) ?_
    obtain ⟨zv4, ze5, hf⟩ := nn_some hf
    refine x_ci (r := zv4) (I1 := I) (X1 := X) (x_runV (As := [.int zx2, .int (4 : Int32)]) (rest := []) C0 (c9_of l E G fl X I zx0 zx2 (4 : Int32) zt0 ze5) hw 9 zt0 (by decide) rfl wd117 wd623 wd624 wd625 wd612 ⟨rfl, rfl⟩ hy9_of ⟨Nat.le_of_ble_eq_true rfl, Nat.le_of_ble_eq_true rfl⟩ rfl hl.1 (Nat.le_of_ble_eq_true rfl) ⟨Nat.zero_le _, Nat.zero_le _⟩ dX9_next_15) hw (fun H locs hw => ?_)
    refine lv_if_ne (tgt := 42) hx hb dX9_next_18 (by decide) (fun zc6 => ?_) (fun zc6 => ?_)
    · have hf := ite_f hf zc6
      exact w9_next_42 C0 hr hz fl zr2 zhr2 _ _ _ zx0 zx1 zx2 zv1 zt0 ezv1 tzv1 hw (lv_sub hl [0, 1, 2] rfl) hf
    · have hf := ite_t hf zc6
      refine lv_aload_n hx hb dX9_next_21 rfl (lv_at hl 0 rfl) ?_
      refine lv_iload_n hx hb dX9_next_22 rfl (lv_at hl 2 rfl) ?_
      refine lv_iconst (v := (1 : Int32)) hx hb dX9_next_23 (by decide) ?_
      obtain ⟨zv7, ze8, hf⟩ := nn_some hf
      refine x_ci (r := zv7) (I1 := I) (X1 := X) (x_runV (As := [.int zx2, .int (1 : Int32)]) (rest := []) C0 (c9_of l E G fl X I zx0 zx2 (1 : Int32) zt0 ze8) hw 9 zt0 (by decide) rfl wd117 wd623 wd624 wd625 wd612 ⟨rfl, rfl⟩ hy9_of ⟨Nat.le_of_ble_eq_true rfl, Nat.le_of_ble_eq_true rfl⟩ rfl hl.1 (Nat.le_of_ble_eq_true rfl) ⟨Nat.zero_le _, Nat.zero_le _⟩ dX9_next_24) hw (fun H locs hw => ?_)
      refine lv_if_ne (tgt := 42) hx hb dX9_next_27 (by decide) (fun zc9 => ?_) (fun zc9 => ?_)
      · have hf := ite_f hf zc9
        exact w9_next_42 C0 hr hz fl zr2 zhr2 _ _ _ zx0 zx1 zx2 zv1 zt0 ezv1 tzv1 hw (lv_sub hl [0, 1, 2] rfl) hf
      · have hf := ite_t hf zc9
        refine lv_aload_n hx hb dX9_next_30 rfl (lv_at hl 0 rfl) ?_
        refine lv_iload_n hx hb dX9_next_31 rfl (lv_at hl 2 rfl) ?_
        refine lv_iconst (v := (2 : Int32)) hx hb dX9_next_32 (by decide) ?_
        obtain ⟨zv10, ze11, hf⟩ := nn_some hf
        refine x_ci (r := zv10) (I1 := I) (X1 := X) (x_runV (As := [.int zx2, .int (2 : Int32)]) (rest := []) C0 (c9_of l E G fl X I zx0 zx2 (2 : Int32) zt0 ze11) hw 9 zt0 (by decide) rfl wd117 wd623 wd624 wd625 wd612 ⟨rfl, rfl⟩ hy9_of ⟨Nat.le_of_ble_eq_true rfl, Nat.le_of_ble_eq_true rfl⟩ rfl hl.1 (Nat.le_of_ble_eq_true rfl) ⟨Nat.zero_le _, Nat.zero_le _⟩ dX9_next_33) hw (fun H locs hw => ?_)
        refine lv_iload_n hx hb dX9_next_36 rfl (lv_at hl 1 rfl) ?_
        refine lv_icmp_ne (tgt := 42) hx hb dX9_next_37 (by decide) (fun zc12 => ?_) (fun zc12 => ?_)
        · have hf := ite_f hf zc12
          exact w9_next_42 C0 hr hz fl zr2 zhr2 _ _ _ zx0 zx1 zx2 zv1 zt0 ezv1 tzv1 hw (lv_sub hl [0, 1, 2] rfl) hf
        · have hf := ite_t hf zc12
          refine lv_iload_n hx hb dX9_next_40 rfl (lv_at hl 2 rfl) ?_
          obtain rfl := Option.some.inj hf
          exact x_iret C0 hr hw dX9_next_41
theorem w9_next_2 {p : Program} {l : Launch} {e : Env} {s : State} {m : MethodId} {args : Array Value} {below : List Frame} {meth : Method} {c : Code} {E : EN} {G : GM} {X : Xm} {I : Im} (C0 : CX p s m args meth c E cX9_next RX9 3) (hr : meth.sig.returnType = (some .int)) (hz : s.heap.size + 0 ≤ eB E + G.1) {rr : Int32} (fl : Nat) : ∀ (n : Nat) (H : Heap) (locs : List Loc) (ls : Array Slot) (zx0 : Nat) (zx1 : Int32) (zx2 : Int32) (zt0 : okA E G 9 zx0), WD E G I X s.heap H locs → lv_has ls 3 [(0, .ref zx0), (1, .int zx1), (2, .int zx2)] → m9_next_2 fl G.2.2 X I n zx0 zx1 zx2 = some rr → W p l e ({ frames := 1, cells := 0, slots := 0, locals := 22 } : Room) s m args below meth c H locs 0 0 (MQ below (QI E G rr I X) args s 0 0 (eA E)) (F0 m 2 ls []) := by
  intro n
  induction n with
  | zero => intro H locs ls zx0 zx1 zx2 zt0 hw hl hf; exact absurd (show (none : Option (Int32)) = some rr from hf) (by simp)
  | succ n ih => intro H locs ls zx0 zx1 zx2 zt0 hw hl hf; exact w9_next_2b C0 hr hz fl _ ih H locs ls zx0 zx1 zx2 zt0 hw hl hf
noncomputable def m9_next (fl : Nat) (len : Nat → Nat) (X : Xm) (I : Im) (zx0 : Nat) (zx1 : Int32) : Option (Int32) :=
  m9_next_2 fl len X I fl zx0 zx1 (0 : Int32)
theorem hy9_next : yX9_next.cls = RX9 ∧ yX9_next.cls ≠ "java/lang/invoke/MethodHandle" ∧ yX9_next.cls ≠ "java/lang/invoke/VarHandle" ∧ (parseMethodDescriptor yX9_next.desc).map (fun d => d.parameters.length) = some 1 := ⟨rfl, by decide +kernel, by decide +kernel, by decide +kernel⟩
set_option maxHeartbeats 4000000 in
set_option maxRecDepth 100000 in
theorem c9_next (l : Launch) (E : EN) (G : GM) (fl : Nat) (X : Xm) (I : Im) (zx0 : Nat) (zx1 : Int32) (zt0 : okA E G 9 zx0) {rr : Int32} (hf : m9_next fl G.2.2 X I zx0 zx1 = some rr) : MT l yX9_next cX9_next 3 (some .int) ({ frames := 1, cells := 0, slots := 0, locals := 22 } : Room) E G I X [.ref zx0, .int zx1] (QI E G rr I X) 0 0 := by
  refine Met.ofW (cc := cX9_next) (maxL := 3) (ret := (some .int)) (by decide +kernel) rfl ?_
  intro p e s m args below meth c s₁ B hml hv
  obtain ⟨rfl, hw0, hSE⟩ := hv
  have C0 : CX p s m ([.ref zx0, .int zx1] : List Value).toArray meth c E cX9_next RX9 3 := ⟨B.exec, B.bytes, hml, findClass_of_methodNamed B.named, fun w hw => atoms_spec (ws := WS yX9_next cX9_next 3 (some .int)) B.pre w (List.mem_cons_of_mem _ hw), B.notSynchronized, hSE⟩
  have hz : s.heap.size + 0 ≤ eB E + G.1 := Nat.le_of_eq hw0.2.1
  have hw : WD E G I X s.heap s.heap [] := ⟨hw0, va_S.rf⟩
  have hr := B.returns
  have hx := C0.1; have hb := C0.2.1; have hml := C0.2.2.1; have hown := C0.2.2.2.1; have hts := C0.2.2.2.2.1
  have hl := lv_entry ([.ref zx0, .int zx1]) (n := 3) (Nat.le_of_ble_eq_true rfl)
  rw [lg_entry_eq]
  generalize (lg_sl ([.ref zx0, .int zx1]) ++ List.replicate (3 - (lg_sl ([.ref zx0, .int zx1])).length) Slot.unset).toArray = ls at hl ⊢
  have hl : lv_has ls 3 [(0, .ref zx0), (1, .int zx1)] := hl
  unfold m9_next at hf
  refine lv_iconst (v := (0 : Int32)) hx hb dX9_next_0 (by decide) ?_
  refine lv_istore_n (lv' := [(2, .int (0 : Int32)), (0, .ref zx0), (1, .int zx1)]) hx hb dX9_next_1 rfl hl (by decide) rfl (fun ls hl => ?_)
  exact w9_next_2 C0 hr hz fl fl _ _ _ zx0 zx1 (0 : Int32) zt0 hw (lv_sub hl [1, 2, 0] rfl) hf
noncomputable def m9_winds_31 (fl : Nat) (len : Nat → Nat) (X : Xm) (I : Im) : Option (Im) :=
  some (I)
set_option maxHeartbeats 4000000 in
set_option maxRecDepth 100000 in
theorem w9_winds_31 {p : Program} {l : Launch} {e : Env} {s : State} {m : MethodId} {args : Array Value} {below : List Frame} {meth : Method} {c : Code} {E : EN} {G : GM} {X : Xm} (C0 : CX p s m args meth c E cX9_winds RX9 3) (hr : meth.sig.returnType = none) (hz : s.heap.size + 0 ≤ eB E + G.1) {rr : Im} (fl : Nat) : ∀ (I : Im) (H : Heap) (locs : List Loc) (ls : Array Slot) , WD E G I X s.heap H locs → lv_has ls 3 [] → m9_winds_31 fl G.2.2 X I = some rr → W p l e ({ frames := 1, cells := 0, slots := 0, locals := 23 } : Room) s m args below meth c H locs 0 0 (MQ below (QV E G rr X) args s 0 0 (eA E)) (F0 m 31 ls []) := by
  intro I H locs ls hw hl hf
  unfold m9_winds_31 at hf
  have hx := C0.1; have hb := C0.2.1; have hml := C0.2.2.1; have hown := C0.2.2.2.1; have hts := C0.2.2.2.2.1
  obtain rfl := Option.some.inj hf
  exact x_vret C0 hr hw dX9_winds_31
noncomputable def m9_winds (fl : Nat) (len : Nat → Nat) (X : Xm) (I : Im) (zx0 : Nat) (zx1 : Int32) (zx2 : Int32) : Option (Im) :=
  nn (m9_reel fl len X I zx0 zx1 (1 : Int32)) fun zv1 =>
  if zv1 = 0 then
    nn (m9_reel fl len X I zx0 zx1 (0 : Int32)) fun zv4 =>
    nn (gR X 144 zx0) fun zv6 =>
    ck (inb (0 : Int32) (len zv6) = true) <|
    nn (m9_nearer fl len X I zv4 zx2 (gA I zv6 ((0 : Int32)).toNatClampNeg)) fun zv8 =>
    nn (m9_turn fl len X I zx0 zx1 (0 : Int32) zv8) fun zI10 =>
    m9_winds_31 fl len X zI10
  else
    m9_winds_31 fl len X I
theorem hy9_winds : yX9_winds.cls = RX9 ∧ yX9_winds.cls ≠ "java/lang/invoke/MethodHandle" ∧ yX9_winds.cls ≠ "java/lang/invoke/VarHandle" ∧ (parseMethodDescriptor yX9_winds.desc).map (fun d => d.parameters.length) = some 2 := ⟨rfl, by decide +kernel, by decide +kernel, by decide +kernel⟩
set_option maxHeartbeats 4000000 in
set_option maxRecDepth 100000 in
theorem c9_winds (l : Launch) (E : EN) (G : GM) (fl : Nat) (X : Xm) (I : Im) (zx0 : Nat) (zx1 : Int32) (zx2 : Int32) (zt0 : okA E G 9 zx0) {rr : Im} (hf : m9_winds fl G.2.2 X I zx0 zx1 zx2 = some rr) : MT l yX9_winds cX9_winds 3 none ({ frames := 1, cells := 0, slots := 0, locals := 23 } : Room) E G I X [.ref zx0, .int zx1, .int zx2] (QV E G rr X) 0 0 := by
  refine Met.ofW (cc := cX9_winds) (maxL := 3) (ret := none) (by decide +kernel) rfl ?_
  intro p e s m args below meth c s₁ B hml hv
  obtain ⟨rfl, hw0, hSE⟩ := hv
  have C0 : CX p s m ([.ref zx0, .int zx1, .int zx2] : List Value).toArray meth c E cX9_winds RX9 3 := ⟨B.exec, B.bytes, hml, findClass_of_methodNamed B.named, fun w hw => atoms_spec (ws := WS yX9_winds cX9_winds 3 none) B.pre w (List.mem_cons_of_mem _ hw), B.notSynchronized, hSE⟩
  have hz : s.heap.size + 0 ≤ eB E + G.1 := Nat.le_of_eq hw0.2.1
  have hw : WD E G I X s.heap s.heap [] := ⟨hw0, va_S.rf⟩
  have hr := B.returns
  have hx := C0.1; have hb := C0.2.1; have hml := C0.2.2.1; have hown := C0.2.2.2.1; have hts := C0.2.2.2.2.1
  have hl := lv_entry ([.ref zx0, .int zx1, .int zx2]) (n := 3) (Nat.le_of_ble_eq_true rfl)
  rw [lg_entry_eq]
  generalize (lg_sl ([.ref zx0, .int zx1, .int zx2]) ++ List.replicate (3 - (lg_sl ([.ref zx0, .int zx1, .int zx2])).length) Slot.unset).toArray = ls at hl ⊢
  have hl : lv_has ls 3 [(0, .ref zx0), (1, .int zx1), (2, .int zx2)] := hl
  unfold m9_winds at hf
  refine lv_aload_n hx hb dX9_winds_0 rfl (lv_at hl 0 rfl) ?_
  refine lv_iload_n hx hb dX9_winds_1 rfl (lv_at hl 1 rfl) ?_
  refine lv_iconst (v := (1 : Int32)) hx hb dX9_winds_2 (by decide) ?_
  obtain ⟨zv1, ze2, hf⟩ := nn_some hf
  refine x_ci (r := zv1) (I1 := I) (X1 := X) (x_runV (As := [.int zx1, .int (1 : Int32)]) (rest := []) C0 (c9_reel l E G fl X I zx0 zx1 (1 : Int32) zt0 ze2) hw 9 zt0 (by decide) rfl wd119 wd615 wd616 wd617 wd612 ⟨rfl, rfl⟩ hy9_reel ⟨Nat.le_of_ble_eq_true rfl, Nat.le_of_ble_eq_true rfl⟩ rfl hl.1 (Nat.le_of_ble_eq_true rfl) ⟨Nat.zero_le _, Nat.zero_le _⟩ dX9_winds_3) hw (fun H locs hw => ?_)
  refine lv_if_ne (tgt := 31) hx hb dX9_winds_6 (by decide) (fun zc3 => ?_) (fun zc3 => ?_)
  · have hf := ite_f hf zc3
    exact w9_winds_31 C0 hr hz fl I _ _ _ hw (lv_sub hl [] rfl) hf
  · have hf := ite_t hf zc3
    refine lv_aload_n hx hb dX9_winds_9 rfl (lv_at hl 0 rfl) ?_
    refine lv_iload_n hx hb dX9_winds_10 rfl (lv_at hl 1 rfl) ?_
    refine lv_iconst (v := (0 : Int32)) hx hb dX9_winds_11 (by decide) ?_
    refine lv_aload_n hx hb dX9_winds_12 rfl (lv_at hl 0 rfl) ?_
    refine lv_iload_n hx hb dX9_winds_13 rfl (lv_at hl 1 rfl) ?_
    refine lv_iconst (v := (0 : Int32)) hx hb dX9_winds_14 (by decide) ?_
    obtain ⟨zv4, ze5, hf⟩ := nn_some hf
    refine x_ci (r := zv4) (I1 := I) (X1 := X) (x_runV (As := [.int zx1, .int (0 : Int32)]) (rest := [.int (0 : Int32), .int zx1, .ref zx0]) C0 (c9_reel l E G fl X I zx0 zx1 (0 : Int32) zt0 ze5) hw 9 zt0 (by decide) rfl wd119 wd615 wd616 wd617 wd612 ⟨rfl, rfl⟩ hy9_reel ⟨Nat.le_of_ble_eq_true rfl, Nat.le_of_ble_eq_true rfl⟩ rfl hl.1 (Nat.le_of_ble_eq_true rfl) ⟨Nat.zero_le _, Nat.zero_le _⟩ dX9_winds_15) hw (fun H locs hw => ?_)
    refine lv_iload_n hx hb dX9_winds_18 rfl (lv_at hl 2 rfl) ?_
    refine lv_aload_n hx hb dX9_winds_19 rfl (lv_at hl 0 rfl) ?_
    obtain ⟨zv6, ezv6, hf⟩ := nn_some hf
    have tzv6 : okA E G 11 zv6 := wt_r hw ezv6
    refine xg_9_0 C0 hw zt0 wd601 ezv6 dX9_winds_20 ?_
    refine lv_iconst (v := (0 : Int32)) hx hb dX9_winds_23 (by decide) ?_
    obtain ⟨zhb7, hf⟩ := ck_some hf
    refine x_iald C0 hw tzv6 zhb7 dX9_winds_24 ?_
    obtain ⟨zv8, ze9, hf⟩ := nn_some hf
    refine x_ci (r := zv8) (I1 := I) (X1 := X) (x_runS (As := [.int zv4, .int zx2, .int (gA I zv6 ((0 : Int32)).toNatClampNeg)]) (rest := [.int (0 : Int32), .int zx1, .ref zx0]) C0 (c9_nearer l E G fl X I zv4 zx2 (gA I zv6 ((0 : Int32)).toNatClampNeg) ze9) hw wd128 wd635 wd636 wd612 ⟨rfl, rfl⟩ hy9_nearer ⟨Nat.le_of_ble_eq_true rfl, Nat.le_of_ble_eq_true rfl⟩ rfl hl.1 (Nat.le_of_ble_eq_true rfl) ⟨Nat.zero_le _, Nat.zero_le _⟩ dX9_winds_25) hw (fun H locs hw => ?_)
    obtain ⟨zI10, ze11, hf⟩ := nn_some hf
    refine x_cv (I1 := zI10) (X1 := X) (x_runV (As := [.int zx1, .int (0 : Int32), .int zv8]) (rest := []) C0 (c9_turn l E G fl X I zx0 zx1 (0 : Int32) zv8 zt0 ze11) hw 9 zt0 (by decide) rfl wd120 wd620 wd621 wd622 wd612 ⟨rfl, rfl⟩ hy9_turn ⟨Nat.le_of_ble_eq_true rfl, Nat.le_of_ble_eq_true rfl⟩ rfl hl.1 (Nat.le_of_ble_eq_true rfl) ⟨Nat.zero_le _, Nat.zero_le _⟩ dX9_winds_28) hw (fun H locs hw => ?_)
    exact w9_winds_31 C0 hr hz fl zI10 _ _ _ hw (lv_sub hl [] rfl) hf
noncomputable def m9_passes_182 (fl : Nat) (len : Nat → Nat) (X : Xm) (zr140 : Im → Nat → Int32 → Int32 → Nat → Option (Int32 × Im)) (I : Im) (zx0 : Nat) (zx1 : Int32) (zx2 : Int32) (zs0 : Nat) (zs1 : Int32) (zs2 : Int32) (p_144 : Nat) : Option (Int32 × Im) :=
  nn (m9_winds fl len X I zs0 zs1 zs2) fun zI1 =>
  lt (zx2 + 1) fun zv3 =>
  zr140 zI1 zx0 zx1 zv3 p_144
set_option maxHeartbeats 4000000 in
set_option maxRecDepth 100000 in
theorem w9_passes_182 {p : Program} {l : Launch} {e : Env} {s : State} {m : MethodId} {args : Array Value} {below : List Frame} {meth : Method} {c : Code} {E : EN} {G : GM} {X : Xm} (C0 : CX p s m args meth c E cX9_passes RX9 4) (hr : meth.sig.returnType = (some .int)) (hz : s.heap.size + 0 ≤ eB E + G.1) {rr : Int32 × Im} (fl : Nat) (zr140 : Im → Nat → Int32 → Int32 → Nat → Option (Int32 × Im)) (zhr140 : ∀ (I : Im) (H : Heap) (locs : List Loc) (ls : Array Slot) (zx0 : Nat) (zx1 : Int32) (zx2 : Int32) (p_144 : Nat) (zt0 : okA E G 9 zx0) (ep_144 : gR X 144 zx0 = some p_144) (tp_144 : okA E G 11 p_144), WD E G I X s.heap H locs → lv_has ls 4 [(0, .ref zx0), (1, .int zx1), (2, .int zx2)] → zr140 I zx0 zx1 zx2 p_144 = some rr → W p l e ({ frames := 3, cells := 0, slots := 0, locals := 70 } : Room) s m args below meth c H locs 0 0 (MQ below (QI E G rr.1 rr.2 X) args s 0 0 (eA E)) (F0 m 140 ls [])) : ∀ (I : Im) (H : Heap) (locs : List Loc) (ls : Array Slot) (zx0 : Nat) (zx1 : Int32) (zx2 : Int32) (zs0 : Nat) (zs1 : Int32) (zs2 : Int32) (p_144 : Nat) (zt0 : okA E G 9 zx0) (zts0 : okA E G 9 zs0) (ep_144 : gR X 144 zx0 = some p_144) (tp_144 : okA E G 11 p_144), WD E G I X s.heap H locs → lv_has ls 4 [(0, .ref zx0), (1, .int zx1), (2, .int zx2)] → m9_passes_182 fl G.2.2 X zr140 I zx0 zx1 zx2 zs0 zs1 zs2 p_144 = some rr → W p l e ({ frames := 3, cells := 0, slots := 0, locals := 70 } : Room) s m args below meth c H locs 0 0 (MQ below (QI E G rr.1 rr.2 X) args s 0 0 (eA E)) (F0 m 182 ls [.int zs2, .int zs1, .ref zs0]) := by
  intro I H locs ls zx0 zx1 zx2 zs0 zs1 zs2 p_144 zt0 zts0 ep_144 tp_144 hw hl hf
  unfold m9_passes_182 at hf
  have hx := C0.1; have hb := C0.2.1; have hml := C0.2.2.1; have hown := C0.2.2.2.1; have hts := C0.2.2.2.2.1
  obtain ⟨zI1, ze2, hf⟩ := nn_some hf
  refine x_cv (I1 := zI1) (X1 := X) (x_runV (As := [.int zs1, .int zs2]) (rest := []) C0 (c9_winds l E G fl X I zs0 zs1 zs2 zts0 ze2) hw 9 zts0 (by decide) rfl wd134 wd652 wd653 wd654 wd612 ⟨rfl, rfl⟩ hy9_winds ⟨Nat.le_of_ble_eq_true rfl, Nat.le_of_ble_eq_true rfl⟩ rfl hl.1 (Nat.le_of_ble_eq_true rfl) ⟨Nat.zero_le _, Nat.zero_le _⟩ dX9_passes_182) hw (fun H locs hw => ?_)
  obtain ⟨zv3, ezv3⟩ : ∃ y : Int32, y = zx2 + 1 := ⟨_, rfl⟩
  have hf := lt_at hf ezv3
  refine lv_iinc (v := zv3) (lv' := [(2, .int zv3), (0, .ref zx0), (1, .int zx1)]) hx hb dX9_passes_185 hl (k := 2) rfl (by rw [ezv3]; rfl) (by decide) rfl (fun ls hl => ?_)
  refine lv_goto (tgt := 140) hx hb dX9_passes_188 (by decide) ?_
  exact zhr140 zI1 _ _ _ zx0 zx1 zv3 p_144 zt0 ep_144 tp_144 hw (lv_sub hl [1, 2, 0] rfl) hf
noncomputable def m9_passes_140b (fl : Nat) (len : Nat → Nat) (X : Xm) (zr140 : Im → Nat → Int32 → Int32 → Nat → Option (Int32 × Im)) (I : Im) (zx0 : Nat) (zx1 : Int32) (zx2 : Int32) (p_144 : Nat) : Option (Int32 × Im) :=
  if (4 : Int32) ≤ zx2 then
    nn (m9_fall fl len X I zx0) fun zI2 =>
    ck (inb (4 : Int32) (len p_144) = true) <|
    lt (pA zI2 p_144 ((4 : Int32)).toNatClampNeg ((gA zI2 p_144 ((4 : Int32)).toNatClampNeg) + (1 : Int32))) fun zI5 =>
    some (zx1, zI5)
  else
    nn (m9_goesOn fl len X I zx0 zx2) fun zI6 =>
    nn (m9_next fl len X zI6 zx0 zx2) fun zv8 =>
    if 0 ≤ zv8 then
      nn (m9_of fl len X zI6 zx0 zv8 (3 : Int32)) fun zv11 =>
      nn (m9_beginning fl len X zI6 zx0 zx2 zv11) fun zv13 =>
      m9_passes_182 fl len X zr140 zI6 zx0 zx1 zx2 zx0 zx2 zv13 p_144
    else
      nn (m9_reel fl len X zI6 zx0 zx2 (0 : Int32)) fun zv15 =>
      m9_passes_182 fl len X zr140 zI6 zx0 zx1 zx2 zx0 zx2 zv15 p_144
noncomputable def m9_passes_140 (fl : Nat) (len : Nat → Nat) (X : Xm) (n : Nat) : Im → Nat → Int32 → Int32 → Nat → Option (Int32 × Im) :=
  Nat.rec (fun _ _ _ _ _ => none) (fun _ r => m9_passes_140b fl len X r) n
set_option maxHeartbeats 4000000 in
set_option maxRecDepth 100000 in
theorem w9_passes_140b {p : Program} {l : Launch} {e : Env} {s : State} {m : MethodId} {args : Array Value} {below : List Frame} {meth : Method} {c : Code} {E : EN} {G : GM} {X : Xm} (C0 : CX p s m args meth c E cX9_passes RX9 4) (hr : meth.sig.returnType = (some .int)) (hz : s.heap.size + 0 ≤ eB E + G.1) {rr : Int32 × Im} (fl : Nat) (zr140 : Im → Nat → Int32 → Int32 → Nat → Option (Int32 × Im)) (zhr140 : ∀ (I : Im) (H : Heap) (locs : List Loc) (ls : Array Slot) (zx0 : Nat) (zx1 : Int32) (zx2 : Int32) (p_144 : Nat) (zt0 : okA E G 9 zx0) (ep_144 : gR X 144 zx0 = some p_144) (tp_144 : okA E G 11 p_144), WD E G I X s.heap H locs → lv_has ls 4 [(0, .ref zx0), (1, .int zx1), (2, .int zx2)] → zr140 I zx0 zx1 zx2 p_144 = some rr → W p l e ({ frames := 3, cells := 0, slots := 0, locals := 70 } : Room) s m args below meth c H locs 0 0 (MQ below (QI E G rr.1 rr.2 X) args s 0 0 (eA E)) (F0 m 140 ls [])) : ∀ (I : Im) (H : Heap) (locs : List Loc) (ls : Array Slot) (zx0 : Nat) (zx1 : Int32) (zx2 : Int32) (p_144 : Nat) (zt0 : okA E G 9 zx0) (ep_144 : gR X 144 zx0 = some p_144) (tp_144 : okA E G 11 p_144), WD E G I X s.heap H locs → lv_has ls 4 [(0, .ref zx0), (1, .int zx1), (2, .int zx2)] → m9_passes_140b fl G.2.2 X zr140 I zx0 zx1 zx2 p_144 = some rr → W p l e ({ frames := 3, cells := 0, slots := 0, locals := 70 } : Room) s m args below meth c H locs 0 0 (MQ below (QI E G rr.1 rr.2 X) args s 0 0 (eA E)) (F0 m 140 ls []) := by
  intro I H locs ls zx0 zx1 zx2 p_144 zt0 ep_144 tp_144 hw hl hf
  unfold m9_passes_140b at hf
  have hx := C0.1; have hb := C0.2.1; have hml := C0.2.2.1; have hown := C0.2.2.2.1; have hts := C0.2.2.2.2.1
  refine lv_iload_n hx hb dX9_passes_140 rfl (lv_at hl 2 rfl) ?_
  refine lv_iconst (v := (4 : Int32)) hx hb dX9_passes_141 (by decide) ?_
  refine lv_icmp_ge (tgt := 191) hx hb dX9_passes_142 (by decide) (fun zc1 => ?_) (fun zc1 => ?_)
  · have hf := ite_t hf zc1
    refine lv_aload_n hx hb dX9_passes_191 rfl (lv_at hl 0 rfl) ?_
    obtain ⟨zI2, ze3, hf⟩ := nn_some hf
    refine x_cv (I1 := zI2) (X1 := X) (x_runV (As := []) (rest := []) C0 (c9_fall l E G fl X I zx0 zt0 ze3) hw 9 zt0 (by decide) rfl wd132 wd655 wd656 wd657 wd612 ⟨rfl, rfl⟩ hy9_fall ⟨Nat.le_of_ble_eq_true rfl, Nat.le_of_ble_eq_true rfl⟩ rfl hl.1 (Nat.le_of_ble_eq_true rfl) ⟨Nat.zero_le _, Nat.zero_le _⟩ dX9_passes_192) hw (fun H locs hw => ?_)
    refine lv_aload_n hx hb dX9_passes_195 rfl (lv_at hl 0 rfl) ?_
    refine xg_9_0 C0 hw zt0 wd601 ep_144 dX9_passes_196 ?_
    refine lv_iconst (v := (4 : Int32)) hx hb dX9_passes_199 (by decide) ?_
    refine lv_dup2_11 hx hb dX9_passes_200 rfl rfl ?_
    obtain ⟨zhb4, hf⟩ := ck_some hf
    refine x_iald C0 hw tp_144 zhb4 dX9_passes_201 ?_
    refine lv_iconst (v := (1 : Int32)) hx hb dX9_passes_202 (by decide) ?_
    refine lv_iadd hx hb dX9_passes_203 ?_
    obtain ⟨zI5, ezI5⟩ : ∃ y : Im, y = pA zI2 p_144 ((4 : Int32)).toNatClampNeg ((gA zI2 p_144 ((4 : Int32)).toNatClampNeg) + (1 : Int32)) := ⟨_, rfl⟩
    have hf := lt_at hf ezI5
    refine x_iast C0 hz hw tp_144 zhb4 dX9_passes_204 ezI5 (fun H locs hw => ?_)
    refine lv_iload_n hx hb dX9_passes_205 rfl (lv_at hl 1 rfl) ?_
    obtain rfl := Option.some.inj hf
    exact x_iret C0 hr hw dX9_passes_206
  · have hf := ite_f hf zc1
    refine lv_aload_n hx hb dX9_passes_145 rfl (lv_at hl 0 rfl) ?_
    refine lv_iload_n hx hb dX9_passes_146 rfl (lv_at hl 2 rfl) ?_
    obtain ⟨zI6, ze7, hf⟩ := nn_some hf
    refine x_cv (I1 := zI6) (X1 := X) (x_runV (As := [.int zx2]) (rest := []) C0 (c9_goesOn l E G fl X I zx0 zx2 zt0 ze7) hw 9 zt0 (by decide) rfl wd131 wd646 wd647 wd648 wd612 ⟨rfl, rfl⟩ hy9_goesOn ⟨Nat.le_of_ble_eq_true rfl, Nat.le_of_ble_eq_true rfl⟩ rfl hl.1 (Nat.le_of_ble_eq_true rfl) ⟨Nat.zero_le _, Nat.zero_le _⟩ dX9_passes_147) hw (fun H locs hw => ?_)
    refine lv_aload_n hx hb dX9_passes_150 rfl (lv_at hl 0 rfl) ?_
    refine lv_iload_n hx hb dX9_passes_151 rfl (lv_at hl 2 rfl) ?_
    obtain ⟨zv8, ze9, hf⟩ := nn_some hf
    refine x_ci (r := zv8) (I1 := zI6) (X1 := X) (x_runV (As := [.int zx2]) (rest := []) C0 (c9_next l E G fl X zI6 zx0 zx2 zt0 ze9) hw 9 zt0 (by decide) rfl wd133 wd649 wd650 wd651 wd612 ⟨rfl, rfl⟩ hy9_next ⟨Nat.le_of_ble_eq_true rfl, Nat.le_of_ble_eq_true rfl⟩ rfl hl.1 (Nat.le_of_ble_eq_true rfl) ⟨Nat.zero_le _, Nat.zero_le _⟩ dX9_passes_152) hw (fun H locs hw => ?_)
    refine lv_istore_n (lv' := [(3, .int zv8), (0, .ref zx0), (1, .int zx1), (2, .int zx2)]) hx hb dX9_passes_155 rfl hl (by decide) rfl (fun ls hl => ?_)
    refine lv_aload_n hx hb dX9_passes_156 rfl (lv_at hl 1 rfl) ?_
    refine lv_iload_n hx hb dX9_passes_157 rfl (lv_at hl 3 rfl) ?_
    refine lv_iload_n hx hb dX9_passes_158 rfl (lv_at hl 0 rfl) ?_
    refine lv_if_ge (tgt := 171) hx hb dX9_passes_159 (by decide) (fun zc10 => ?_) (fun zc10 => ?_)
    · have hf := ite_t hf zc10
      refine lv_aload_n hx hb dX9_passes_171 rfl (lv_at hl 1 rfl) ?_
      refine lv_iload_n hx hb dX9_passes_172 rfl (lv_at hl 3 rfl) ?_
      refine lv_aload_n hx hb dX9_passes_173 rfl (lv_at hl 1 rfl) ?_
      refine lv_iload_n hx hb dX9_passes_174 rfl (lv_at hl 0 rfl) ?_
      refine lv_iconst (v := (3 : Int32)) hx hb dX9_passes_175 (by decide) ?_
      obtain ⟨zv11, ze12, hf⟩ := nn_some hf
      refine x_ci (r := zv11) (I1 := zI6) (X1 := X) (x_runV (As := [.int zv8, .int (3 : Int32)]) (rest := [.int zx2, .ref zx0, .int zx2, .ref zx0]) C0 (c9_of l E G fl X zI6 zx0 zv8 (3 : Int32) zt0 ze12) hw 9 zt0 (by decide) rfl wd117 wd623 wd624 wd625 wd612 ⟨rfl, rfl⟩ hy9_of ⟨Nat.le_of_ble_eq_true rfl, Nat.le_of_ble_eq_true rfl⟩ rfl hl.1 (Nat.le_of_ble_eq_true rfl) ⟨Nat.zero_le _, Nat.zero_le _⟩ dX9_passes_176) hw (fun H locs hw => ?_)
      obtain ⟨zv13, ze14, hf⟩ := nn_some hf
      refine x_ci (r := zv13) (I1 := zI6) (X1 := X) (x_runV (As := [.int zx2, .int zv11]) (rest := [.int zx2, .ref zx0]) C0 (c9_beginning l E G fl X zI6 zx0 zx2 zv11 zt0 ze14) hw 9 zt0 (by decide) rfl wd125 wd626 wd627 wd628 wd612 ⟨rfl, rfl⟩ hy9_beginning ⟨Nat.le_of_ble_eq_true rfl, Nat.le_of_ble_eq_true rfl⟩ rfl hl.1 (Nat.le_of_ble_eq_true rfl) ⟨Nat.zero_le _, Nat.zero_le _⟩ dX9_passes_179) hw (fun H locs hw => ?_)
      exact w9_passes_182 C0 hr hz fl zr140 zhr140 zI6 _ _ _ zx0 zx1 zx2 zx0 zx2 zv13 p_144 zt0 zt0 ep_144 tp_144 hw (lv_sub hl [1, 2, 3] rfl) hf
    · have hf := ite_f hf zc10
      refine lv_aload_n hx hb dX9_passes_162 rfl (lv_at hl 1 rfl) ?_
      refine lv_iload_n hx hb dX9_passes_163 rfl (lv_at hl 3 rfl) ?_
      refine lv_iconst (v := (0 : Int32)) hx hb dX9_passes_164 (by decide) ?_
      obtain ⟨zv15, ze16, hf⟩ := nn_some hf
      refine x_ci (r := zv15) (I1 := zI6) (X1 := X) (x_runV (As := [.int zx2, .int (0 : Int32)]) (rest := [.int zx2, .ref zx0]) C0 (c9_reel l E G fl X zI6 zx0 zx2 (0 : Int32) zt0 ze16) hw 9 zt0 (by decide) rfl wd119 wd615 wd616 wd617 wd612 ⟨rfl, rfl⟩ hy9_reel ⟨Nat.le_of_ble_eq_true rfl, Nat.le_of_ble_eq_true rfl⟩ rfl hl.1 (Nat.le_of_ble_eq_true rfl) ⟨Nat.zero_le _, Nat.zero_le _⟩ dX9_passes_165) hw (fun H locs hw => ?_)
      refine lv_goto (tgt := 182) hx hb dX9_passes_168 (by decide) ?_
      exact w9_passes_182 C0 hr hz fl zr140 zhr140 zI6 _ _ _ zx0 zx1 zx2 zx0 zx2 zv15 p_144 zt0 zt0 ep_144 tp_144 hw (lv_sub hl [1, 2, 3] rfl) hf
theorem w9_passes_140 {p : Program} {l : Launch} {e : Env} {s : State} {m : MethodId} {args : Array Value} {below : List Frame} {meth : Method} {c : Code} {E : EN} {G : GM} {X : Xm} (C0 : CX p s m args meth c E cX9_passes RX9 4) (hr : meth.sig.returnType = (some .int)) (hz : s.heap.size + 0 ≤ eB E + G.1) {rr : Int32 × Im} (fl : Nat) : ∀ (n : Nat) (I : Im) (H : Heap) (locs : List Loc) (ls : Array Slot) (zx0 : Nat) (zx1 : Int32) (zx2 : Int32) (p_144 : Nat) (zt0 : okA E G 9 zx0) (ep_144 : gR X 144 zx0 = some p_144) (tp_144 : okA E G 11 p_144), WD E G I X s.heap H locs → lv_has ls 4 [(0, .ref zx0), (1, .int zx1), (2, .int zx2)] → m9_passes_140 fl G.2.2 X n I zx0 zx1 zx2 p_144 = some rr → W p l e ({ frames := 3, cells := 0, slots := 0, locals := 70 } : Room) s m args below meth c H locs 0 0 (MQ below (QI E G rr.1 rr.2 X) args s 0 0 (eA E)) (F0 m 140 ls []) := by
  intro n
  induction n with
  | zero => intro I H locs ls zx0 zx1 zx2 p_144 zt0 ep_144 tp_144 hw hl hf; exact absurd (show (none : Option (Int32 × Im)) = some rr from hf) (by simp)
  | succ n ih => intro I H locs ls zx0 zx1 zx2 p_144 zt0 ep_144 tp_144 hw hl hf; exact w9_passes_140b C0 hr hz fl _ ih I H locs ls zx0 zx1 zx2 p_144 zt0 ep_144 tp_144 hw hl hf
noncomputable def m9_passes_77b (fl : Nat) (len : Nat → Nat) (X : Xm) (zr77 : Im → Nat → Int32 → Int32 → Nat → Option (Int32 × Im)) (I : Im) (zx0 : Nat) (zx1 : Int32) (zx2 : Int32) (p_144 : Nat) : Option (Int32 × Im) :=
  if (224 : Int32) ≤ zx2 then
    ck (inb (4 : Int32) (len p_144) = true) <|
    nn (m9_heard fl len X I zx0) fun zv3 =>
    ck (inb ((320 : Int32) + (gA I p_144 ((4 : Int32)).toNatClampNeg)) (len p_144) = true) <|
    lt (pA I p_144 (((320 : Int32) + (gA I p_144 ((4 : Int32)).toNatClampNeg))).toNatClampNeg zv3) fun zI6 =>
    m9_passes_140 fl len X fl zI6 zx0 zx1 (0 : Int32) p_144
  else
    ck (inb zx2 (len p_144) = true) <|
    ck (inb (zx2 + (1 : Int32)) (len p_144) = true) <|
    ck (inb (2 : Int32) (len p_144) = true) <|
    nn (m9_nearer fl len X I (gA I p_144 (zx2).toNatClampNeg) (gA I p_144 ((zx2 + (1 : Int32))).toNatClampNeg) (gA I p_144 ((2 : Int32)).toNatClampNeg)) fun zv10 =>
    lt (pA I p_144 (zx2).toNatClampNeg zv10) fun zI12 =>
    lt (zx2 + 2) fun zv13 =>
    zr77 zI12 zx0 zx1 zv13 p_144
noncomputable def m9_passes_77 (fl : Nat) (len : Nat → Nat) (X : Xm) (n : Nat) : Im → Nat → Int32 → Int32 → Nat → Option (Int32 × Im) :=
  Nat.rec (fun _ _ _ _ _ => none) (fun _ r => m9_passes_77b fl len X r) n
set_option maxHeartbeats 4000000 in
set_option maxRecDepth 100000 in
theorem w9_passes_77b {p : Program} {l : Launch} {e : Env} {s : State} {m : MethodId} {args : Array Value} {below : List Frame} {meth : Method} {c : Code} {E : EN} {G : GM} {X : Xm} (C0 : CX p s m args meth c E cX9_passes RX9 4) (hr : meth.sig.returnType = (some .int)) (hz : s.heap.size + 0 ≤ eB E + G.1) {rr : Int32 × Im} (fl : Nat) (zr77 : Im → Nat → Int32 → Int32 → Nat → Option (Int32 × Im)) (zhr77 : ∀ (I : Im) (H : Heap) (locs : List Loc) (ls : Array Slot) (zx0 : Nat) (zx1 : Int32) (zx2 : Int32) (p_144 : Nat) (zt0 : okA E G 9 zx0) (ep_144 : gR X 144 zx0 = some p_144) (tp_144 : okA E G 11 p_144), WD E G I X s.heap H locs → lv_has ls 4 [(0, .ref zx0), (1, .int zx1), (2, .int zx2)] → zr77 I zx0 zx1 zx2 p_144 = some rr → W p l e ({ frames := 3, cells := 0, slots := 0, locals := 70 } : Room) s m args below meth c H locs 0 0 (MQ below (QI E G rr.1 rr.2 X) args s 0 0 (eA E)) (F0 m 77 ls [])) : ∀ (I : Im) (H : Heap) (locs : List Loc) (ls : Array Slot) (zx0 : Nat) (zx1 : Int32) (zx2 : Int32) (p_144 : Nat) (zt0 : okA E G 9 zx0) (ep_144 : gR X 144 zx0 = some p_144) (tp_144 : okA E G 11 p_144), WD E G I X s.heap H locs → lv_has ls 4 [(0, .ref zx0), (1, .int zx1), (2, .int zx2)] → m9_passes_77b fl G.2.2 X zr77 I zx0 zx1 zx2 p_144 = some rr → W p l e ({ frames := 3, cells := 0, slots := 0, locals := 70 } : Room) s m args below meth c H locs 0 0 (MQ below (QI E G rr.1 rr.2 X) args s 0 0 (eA E)) (F0 m 77 ls []) := by
  intro I H locs ls zx0 zx1 zx2 p_144 zt0 ep_144 tp_144 hw hl hf
  unfold m9_passes_77b at hf
  have hx := C0.1; have hb := C0.2.1; have hml := C0.2.2.1; have hown := C0.2.2.2.1; have hts := C0.2.2.2.2.1
  refine lv_iload_n hx hb dX9_passes_77 rfl (lv_at hl 2 rfl) ?_
  refine lv_sipush (v := (224 : Int32)) hx hb dX9_passes_78 (by decide) ?_
  refine lv_icmp_ge (tgt := 119) hx hb dX9_passes_81 (by decide) (fun zc1 => ?_) (fun zc1 => ?_)
  · have hf := ite_t hf zc1
    refine lv_aload_n hx hb dX9_passes_119 rfl (lv_at hl 0 rfl) ?_
    refine xg_9_0 C0 hw zt0 wd601 ep_144 dX9_passes_120 ?_
    refine lv_sipush (v := (320 : Int32)) hx hb dX9_passes_123 (by decide) ?_
    refine lv_aload_n hx hb dX9_passes_126 rfl (lv_at hl 0 rfl) ?_
    refine xg_9_0 C0 hw zt0 wd601 ep_144 dX9_passes_127 ?_
    refine lv_iconst (v := (4 : Int32)) hx hb dX9_passes_130 (by decide) ?_
    obtain ⟨zhb2, hf⟩ := ck_some hf
    refine x_iald C0 hw tp_144 zhb2 dX9_passes_131 ?_
    refine lv_iadd hx hb dX9_passes_132 ?_
    refine lv_aload_n hx hb dX9_passes_133 rfl (lv_at hl 0 rfl) ?_
    obtain ⟨zv3, ze4, hf⟩ := nn_some hf
    refine x_ci (r := zv3) (I1 := I) (X1 := X) (x_runV (As := []) (rest := [.int ((320 : Int32) + (gA I p_144 ((4 : Int32)).toNatClampNeg)), .ref p_144]) C0 (c9_heard l E G fl X I zx0 zt0 ze4) hw 9 zt0 (by decide) rfl wd130 wd643 wd644 wd645 wd612 ⟨rfl, rfl⟩ hy9_heard ⟨Nat.le_of_ble_eq_true rfl, Nat.le_of_ble_eq_true rfl⟩ rfl hl.1 (Nat.le_of_ble_eq_true rfl) ⟨Nat.zero_le _, Nat.zero_le _⟩ dX9_passes_134) hw (fun H locs hw => ?_)
    obtain ⟨zhb5, hf⟩ := ck_some hf
    obtain ⟨zI6, ezI6⟩ : ∃ y : Im, y = pA I p_144 (((320 : Int32) + (gA I p_144 ((4 : Int32)).toNatClampNeg))).toNatClampNeg zv3 := ⟨_, rfl⟩
    have hf := lt_at hf ezI6
    refine x_iast C0 hz hw tp_144 zhb5 dX9_passes_137 ezI6 (fun H locs hw => ?_)
    refine lv_iconst (v := (0 : Int32)) hx hb dX9_passes_138 (by decide) ?_
    refine lv_istore_n (lv' := [(2, .int (0 : Int32)), (0, .ref zx0), (1, .int zx1)]) hx hb dX9_passes_139 rfl hl (by decide) rfl (fun ls hl => ?_)
    exact w9_passes_140 C0 hr hz fl fl zI6 _ _ _ zx0 zx1 (0 : Int32) p_144 zt0 ep_144 tp_144 hw (lv_sub hl [1, 2, 0] rfl) hf
  · have hf := ite_f hf zc1
    refine lv_aload_n hx hb dX9_passes_84 rfl (lv_at hl 0 rfl) ?_
    refine xg_9_0 C0 hw zt0 wd601 ep_144 dX9_passes_85 ?_
    refine lv_iload_n hx hb dX9_passes_88 rfl (lv_at hl 2 rfl) ?_
    refine lv_aload_n hx hb dX9_passes_89 rfl (lv_at hl 0 rfl) ?_
    refine xg_9_0 C0 hw zt0 wd601 ep_144 dX9_passes_90 ?_
    refine lv_iload_n hx hb dX9_passes_93 rfl (lv_at hl 2 rfl) ?_
    obtain ⟨zhb7, hf⟩ := ck_some hf
    refine x_iald C0 hw tp_144 zhb7 dX9_passes_94 ?_
    refine lv_aload_n hx hb dX9_passes_95 rfl (lv_at hl 0 rfl) ?_
    refine xg_9_0 C0 hw zt0 wd601 ep_144 dX9_passes_96 ?_
    refine lv_iload_n hx hb dX9_passes_99 rfl (lv_at hl 2 rfl) ?_
    refine lv_iconst (v := (1 : Int32)) hx hb dX9_passes_100 (by decide) ?_
    refine lv_iadd hx hb dX9_passes_101 ?_
    obtain ⟨zhb8, hf⟩ := ck_some hf
    refine x_iald C0 hw tp_144 zhb8 dX9_passes_102 ?_
    refine lv_aload_n hx hb dX9_passes_103 rfl (lv_at hl 0 rfl) ?_
    refine xg_9_0 C0 hw zt0 wd601 ep_144 dX9_passes_104 ?_
    refine lv_iconst (v := (2 : Int32)) hx hb dX9_passes_107 (by decide) ?_
    obtain ⟨zhb9, hf⟩ := ck_some hf
    refine x_iald C0 hw tp_144 zhb9 dX9_passes_108 ?_
    obtain ⟨zv10, ze11, hf⟩ := nn_some hf
    refine x_ci (r := zv10) (I1 := I) (X1 := X) (x_runS (As := [.int (gA I p_144 (zx2).toNatClampNeg), .int (gA I p_144 ((zx2 + (1 : Int32))).toNatClampNeg), .int (gA I p_144 ((2 : Int32)).toNatClampNeg)]) (rest := [.int zx2, .ref p_144]) C0 (c9_nearer l E G fl X I (gA I p_144 (zx2).toNatClampNeg) (gA I p_144 ((zx2 + (1 : Int32))).toNatClampNeg) (gA I p_144 ((2 : Int32)).toNatClampNeg) ze11) hw wd128 wd635 wd636 wd612 ⟨rfl, rfl⟩ hy9_nearer ⟨Nat.le_of_ble_eq_true rfl, Nat.le_of_ble_eq_true rfl⟩ rfl hl.1 (Nat.le_of_ble_eq_true rfl) ⟨Nat.zero_le _, Nat.zero_le _⟩ dX9_passes_109) hw (fun H locs hw => ?_)
    obtain ⟨zI12, ezI12⟩ : ∃ y : Im, y = pA I p_144 (zx2).toNatClampNeg zv10 := ⟨_, rfl⟩
    have hf := lt_at hf ezI12
    refine x_iast C0 hz hw tp_144 zhb7 dX9_passes_112 ezI12 (fun H locs hw => ?_)
    obtain ⟨zv13, ezv13⟩ : ∃ y : Int32, y = zx2 + 2 := ⟨_, rfl⟩
    have hf := lt_at hf ezv13
    refine lv_iinc (v := zv13) (lv' := [(2, .int zv13), (0, .ref zx0), (1, .int zx1)]) hx hb dX9_passes_113 hl (k := 2) rfl (by rw [ezv13]; rfl) (by decide) rfl (fun ls hl => ?_)
    refine lv_goto (tgt := 77) hx hb dX9_passes_116 (by decide) ?_
    exact zhr77 zI12 _ _ _ zx0 zx1 zv13 p_144 zt0 ep_144 tp_144 hw (lv_sub hl [1, 2, 0] rfl) hf
theorem w9_passes_77 {p : Program} {l : Launch} {e : Env} {s : State} {m : MethodId} {args : Array Value} {below : List Frame} {meth : Method} {c : Code} {E : EN} {G : GM} {X : Xm} (C0 : CX p s m args meth c E cX9_passes RX9 4) (hr : meth.sig.returnType = (some .int)) (hz : s.heap.size + 0 ≤ eB E + G.1) {rr : Int32 × Im} (fl : Nat) : ∀ (n : Nat) (I : Im) (H : Heap) (locs : List Loc) (ls : Array Slot) (zx0 : Nat) (zx1 : Int32) (zx2 : Int32) (p_144 : Nat) (zt0 : okA E G 9 zx0) (ep_144 : gR X 144 zx0 = some p_144) (tp_144 : okA E G 11 p_144), WD E G I X s.heap H locs → lv_has ls 4 [(0, .ref zx0), (1, .int zx1), (2, .int zx2)] → m9_passes_77 fl G.2.2 X n I zx0 zx1 zx2 p_144 = some rr → W p l e ({ frames := 3, cells := 0, slots := 0, locals := 70 } : Room) s m args below meth c H locs 0 0 (MQ below (QI E G rr.1 rr.2 X) args s 0 0 (eA E)) (F0 m 77 ls []) := by
  intro n
  induction n with
  | zero => intro I H locs ls zx0 zx1 zx2 p_144 zt0 ep_144 tp_144 hw hl hf; exact absurd (show (none : Option (Int32 × Im)) = some rr from hf) (by simp)
  | succ n ih => intro I H locs ls zx0 zx1 zx2 p_144 zt0 ep_144 tp_144 hw hl hf; exact w9_passes_77b C0 hr hz fl _ ih I H locs ls zx0 zx1 zx2 p_144 zt0 ep_144 tp_144 hw hl hf
noncomputable def m9_passes_67 (fl : Nat) (len : Nat → Nat) (X : Xm) (zr4 : Im → Nat → Int32 → Int32 → Option (Int32 × Im)) (I : Im) (zx0 : Nat) (zx1 : Int32) (zx2 : Int32) (p_144 : Nat) : Option (Int32 × Im) :=
  lt (zx2 + 1) fun zv1 =>
  zr4 I zx0 zx1 zv1
set_option maxHeartbeats 4000000 in
set_option maxRecDepth 100000 in
theorem w9_passes_67 {p : Program} {l : Launch} {e : Env} {s : State} {m : MethodId} {args : Array Value} {below : List Frame} {meth : Method} {c : Code} {E : EN} {G : GM} {X : Xm} (C0 : CX p s m args meth c E cX9_passes RX9 4) (hr : meth.sig.returnType = (some .int)) (hz : s.heap.size + 0 ≤ eB E + G.1) {rr : Int32 × Im} (fl : Nat) (zr4 : Im → Nat → Int32 → Int32 → Option (Int32 × Im)) (zhr4 : ∀ (I : Im) (H : Heap) (locs : List Loc) (ls : Array Slot) (zx0 : Nat) (zx1 : Int32) (zx2 : Int32) (zt0 : okA E G 9 zx0), WD E G I X s.heap H locs → lv_has ls 4 [(0, .ref zx0), (1, .int zx1), (2, .int zx2)] → zr4 I zx0 zx1 zx2 = some rr → W p l e ({ frames := 3, cells := 0, slots := 0, locals := 70 } : Room) s m args below meth c H locs 0 0 (MQ below (QI E G rr.1 rr.2 X) args s 0 0 (eA E)) (F0 m 4 ls [])) : ∀ (I : Im) (H : Heap) (locs : List Loc) (ls : Array Slot) (zx0 : Nat) (zx1 : Int32) (zx2 : Int32) (p_144 : Nat) (zt0 : okA E G 9 zx0) (ep_144 : gR X 144 zx0 = some p_144) (tp_144 : okA E G 11 p_144), WD E G I X s.heap H locs → lv_has ls 4 [(0, .ref zx0), (1, .int zx1), (2, .int zx2)] → m9_passes_67 fl G.2.2 X zr4 I zx0 zx1 zx2 p_144 = some rr → W p l e ({ frames := 3, cells := 0, slots := 0, locals := 70 } : Room) s m args below meth c H locs 0 0 (MQ below (QI E G rr.1 rr.2 X) args s 0 0 (eA E)) (F0 m 67 ls []) := by
  intro I H locs ls zx0 zx1 zx2 p_144 zt0 ep_144 tp_144 hw hl hf
  unfold m9_passes_67 at hf
  have hx := C0.1; have hb := C0.2.1; have hml := C0.2.2.1; have hown := C0.2.2.2.1; have hts := C0.2.2.2.2.1
  obtain ⟨zv1, ezv1⟩ : ∃ y : Int32, y = zx2 + 1 := ⟨_, rfl⟩
  have hf := lt_at hf ezv1
  refine lv_iinc (v := zv1) (lv' := [(2, .int zv1), (0, .ref zx0), (1, .int zx1)]) hx hb dX9_passes_67 hl (k := 2) rfl (by rw [ezv1]; rfl) (by decide) rfl (fun ls hl => ?_)
  refine lv_goto (tgt := 4) hx hb dX9_passes_70 (by decide) ?_
  exact zhr4 I _ _ _ zx0 zx1 zv1 zt0 hw (lv_sub hl [1, 2, 0] rfl) hf
noncomputable def m9_passes_65 (fl : Nat) (len : Nat → Nat) (X : Xm) (zr4 : Im → Nat → Int32 → Int32 → Option (Int32 × Im)) (I : Im) (zx0 : Nat) (zx2 : Int32) (zs0 : Int32) (zs1 : Int32) (p_144 : Nat) : Option (Int32 × Im) :=
  lt ((zs0 + zs1)) fun zv1 =>
  m9_passes_67 fl len X zr4 I zx0 zv1 zx2 p_144
set_option maxHeartbeats 4000000 in
set_option maxRecDepth 100000 in
theorem w9_passes_65 {p : Program} {l : Launch} {e : Env} {s : State} {m : MethodId} {args : Array Value} {below : List Frame} {meth : Method} {c : Code} {E : EN} {G : GM} {X : Xm} (C0 : CX p s m args meth c E cX9_passes RX9 4) (hr : meth.sig.returnType = (some .int)) (hz : s.heap.size + 0 ≤ eB E + G.1) {rr : Int32 × Im} (fl : Nat) (zr4 : Im → Nat → Int32 → Int32 → Option (Int32 × Im)) (zhr4 : ∀ (I : Im) (H : Heap) (locs : List Loc) (ls : Array Slot) (zx0 : Nat) (zx1 : Int32) (zx2 : Int32) (zt0 : okA E G 9 zx0), WD E G I X s.heap H locs → lv_has ls 4 [(0, .ref zx0), (1, .int zx1), (2, .int zx2)] → zr4 I zx0 zx1 zx2 = some rr → W p l e ({ frames := 3, cells := 0, slots := 0, locals := 70 } : Room) s m args below meth c H locs 0 0 (MQ below (QI E G rr.1 rr.2 X) args s 0 0 (eA E)) (F0 m 4 ls [])) : ∀ (I : Im) (H : Heap) (locs : List Loc) (ls : Array Slot) (zx0 : Nat) (zx2 : Int32) (zs0 : Int32) (zs1 : Int32) (p_144 : Nat) (zt0 : okA E G 9 zx0) (ep_144 : gR X 144 zx0 = some p_144) (tp_144 : okA E G 11 p_144), WD E G I X s.heap H locs → lv_has ls 4 [(0, .ref zx0), (2, .int zx2)] → m9_passes_65 fl G.2.2 X zr4 I zx0 zx2 zs0 zs1 p_144 = some rr → W p l e ({ frames := 3, cells := 0, slots := 0, locals := 70 } : Room) s m args below meth c H locs 0 0 (MQ below (QI E G rr.1 rr.2 X) args s 0 0 (eA E)) (F0 m 65 ls [.int zs1, .int zs0]) := by
  intro I H locs ls zx0 zx2 zs0 zs1 p_144 zt0 ep_144 tp_144 hw hl hf
  unfold m9_passes_65 at hf
  have hx := C0.1; have hb := C0.2.1; have hml := C0.2.2.1; have hown := C0.2.2.2.1; have hts := C0.2.2.2.2.1
  refine lv_iadd hx hb dX9_passes_65 ?_
  refine lv_topi (fun zv1 ezv1 => ?_)
  have hf := lt_at hf ezv1
  refine lv_istore_n (lv' := [(1, .int zv1), (0, .ref zx0), (2, .int zx2)]) hx hb dX9_passes_66 rfl hl (by decide) rfl (fun ls hl => ?_)
  exact w9_passes_67 C0 hr hz fl zr4 zhr4 I _ _ _ zx0 zv1 zx2 p_144 zt0 ep_144 tp_144 hw (lv_sub hl [1, 0, 2] rfl) hf
noncomputable def m9_passes_4b (fl : Nat) (len : Nat → Nat) (X : Xm) (zr4 : Im → Nat → Int32 → Int32 → Option (Int32 × Im)) (I : Im) (zx0 : Nat) (zx1 : Int32) (zx2 : Int32) : Option (Int32 × Im) :=
  nn (gR X 144 zx0) fun zv1 =>
  ck (inb (5 : Int32) (len zv1) = true) <|
  if (gA I zv1 ((5 : Int32)).toNatClampNeg) ≤ zx2 then
    m9_passes_77 fl len X fl I zx0 zx1 (216 : Int32) zv1
  else
    nn (m9_of fl len X I zx0 zx2 (0 : Int32)) fun zv4 =>
    ck (inb (4 : Int32) (len zv1) = true) <|
    if zv4 = (gA I zv1 ((4 : Int32)).toNatClampNeg) then
      nn (m9_of fl len X I zx0 zx2 (4 : Int32)) fun zv8 =>
      if zv8 = 0 then
        nn (m9_comes fl len X I zx0 zx2) fun ⟨zv11, zI12⟩ =>
        nn (m9_lay fl len X zI12 zx0 zx2 (4 : Int32) zv11) fun zI14 =>
        nn (m9_of fl len X zI14 zx0 zx2 (4 : Int32)) fun zv16 =>
        if zv16 ≤ (1 : Int32) then
          m9_passes_65 fl len X zr4 zI14 zx0 zx2 zx1 (0 : Int32) zv1
        else
          m9_passes_65 fl len X zr4 zI14 zx0 zx2 zx1 (1 : Int32) zv1
      else
        m9_passes_67 fl len X zr4 I zx0 zx1 zx2 zv1
    else
      m9_passes_67 fl len X zr4 I zx0 zx1 zx2 zv1
noncomputable def m9_passes_4 (fl : Nat) (len : Nat → Nat) (X : Xm) (n : Nat) : Im → Nat → Int32 → Int32 → Option (Int32 × Im) :=
  Nat.rec (fun _ _ _ _ => none) (fun _ r => m9_passes_4b fl len X r) n
set_option maxHeartbeats 4000000 in
set_option maxRecDepth 100000 in
theorem w9_passes_4b {p : Program} {l : Launch} {e : Env} {s : State} {m : MethodId} {args : Array Value} {below : List Frame} {meth : Method} {c : Code} {E : EN} {G : GM} {X : Xm} (C0 : CX p s m args meth c E cX9_passes RX9 4) (hr : meth.sig.returnType = (some .int)) (hz : s.heap.size + 0 ≤ eB E + G.1) {rr : Int32 × Im} (fl : Nat) (zr4 : Im → Nat → Int32 → Int32 → Option (Int32 × Im)) (zhr4 : ∀ (I : Im) (H : Heap) (locs : List Loc) (ls : Array Slot) (zx0 : Nat) (zx1 : Int32) (zx2 : Int32) (zt0 : okA E G 9 zx0), WD E G I X s.heap H locs → lv_has ls 4 [(0, .ref zx0), (1, .int zx1), (2, .int zx2)] → zr4 I zx0 zx1 zx2 = some rr → W p l e ({ frames := 3, cells := 0, slots := 0, locals := 70 } : Room) s m args below meth c H locs 0 0 (MQ below (QI E G rr.1 rr.2 X) args s 0 0 (eA E)) (F0 m 4 ls [])) : ∀ (I : Im) (H : Heap) (locs : List Loc) (ls : Array Slot) (zx0 : Nat) (zx1 : Int32) (zx2 : Int32) (zt0 : okA E G 9 zx0), WD E G I X s.heap H locs → lv_has ls 4 [(0, .ref zx0), (1, .int zx1), (2, .int zx2)] → m9_passes_4b fl G.2.2 X zr4 I zx0 zx1 zx2 = some rr → W p l e ({ frames := 3, cells := 0, slots := 0, locals := 70 } : Room) s m args below meth c H locs 0 0 (MQ below (QI E G rr.1 rr.2 X) args s 0 0 (eA E)) (F0 m 4 ls []) := by
  intro I H locs ls zx0 zx1 zx2 zt0 hw hl hf
  unfold m9_passes_4b at hf
  have hx := C0.1; have hb := C0.2.1; have hml := C0.2.2.1; have hown := C0.2.2.2.1; have hts := C0.2.2.2.2.1
  refine lv_iload_n hx hb dX9_passes_4 rfl (lv_at hl 2 rfl) ?_
  refine lv_aload_n hx hb dX9_passes_5 rfl (lv_at hl 0 rfl) ?_
  obtain ⟨zv1, ezv1, hf⟩ := nn_some hf
  have tzv1 : okA E G 11 zv1 := wt_r hw ezv1
  refine xg_9_0 C0 hw zt0 wd601 ezv1 dX9_passes_6 ?_
  refine lv_iconst (v := (5 : Int32)) hx hb dX9_passes_9 (by decide) ?_
  obtain ⟨zhb2, hf⟩ := ck_some hf
  refine x_iald C0 hw tzv1 zhb2 dX9_passes_10 ?_
  refine lv_icmp_ge (tgt := 73) hx hb dX9_passes_11 (by decide) (fun zc3 => ?_) (fun zc3 => ?_)
  · have hf := ite_t hf zc3
    refine lv_sipush (v := (216 : Int32)) hx hb dX9_passes_73 (by decide) ?_
    refine lv_istore_n (lv' := [(2, .int (216 : Int32)), (0, .ref zx0), (1, .int zx1)]) hx hb dX9_passes_76 rfl hl (by decide) rfl (fun ls hl => ?_)
    exact w9_passes_77 C0 hr hz fl fl I _ _ _ zx0 zx1 (216 : Int32) zv1 zt0 ezv1 tzv1 hw (lv_sub hl [1, 2, 0] rfl) hf
  · have hf := ite_f hf zc3
    refine lv_aload_n hx hb dX9_passes_14 rfl (lv_at hl 0 rfl) ?_
    refine lv_iload_n hx hb dX9_passes_15 rfl (lv_at hl 2 rfl) ?_
    refine lv_iconst (v := (0 : Int32)) hx hb dX9_passes_16 (by decide) ?_
    obtain ⟨zv4, ze5, hf⟩ := nn_some hf
    refine x_ci (r := zv4) (I1 := I) (X1 := X) (x_runV (As := [.int zx2, .int (0 : Int32)]) (rest := []) C0 (c9_of l E G fl X I zx0 zx2 (0 : Int32) zt0 ze5) hw 9 zt0 (by decide) rfl wd117 wd623 wd624 wd625 wd612 ⟨rfl, rfl⟩ hy9_of ⟨Nat.le_of_ble_eq_true rfl, Nat.le_of_ble_eq_true rfl⟩ rfl hl.1 (Nat.le_of_ble_eq_true rfl) ⟨Nat.zero_le _, Nat.zero_le _⟩ dX9_passes_17) hw (fun H locs hw => ?_)
    refine lv_aload_n hx hb dX9_passes_20 rfl (lv_at hl 0 rfl) ?_
    refine xg_9_0 C0 hw zt0 wd601 ezv1 dX9_passes_21 ?_
    refine lv_iconst (v := (4 : Int32)) hx hb dX9_passes_24 (by decide) ?_
    obtain ⟨zhb6, hf⟩ := ck_some hf
    refine x_iald C0 hw tzv1 zhb6 dX9_passes_25 ?_
    refine lv_icmp_ne (tgt := 67) hx hb dX9_passes_26 (by decide) (fun zc7 => ?_) (fun zc7 => ?_)
    · have hf := ite_f hf zc7
      exact w9_passes_67 C0 hr hz fl zr4 zhr4 I _ _ _ zx0 zx1 zx2 zv1 zt0 ezv1 tzv1 hw (lv_sub hl [0, 1, 2] rfl) hf
    · have hf := ite_t hf zc7
      refine lv_aload_n hx hb dX9_passes_29 rfl (lv_at hl 0 rfl) ?_
      refine lv_iload_n hx hb dX9_passes_30 rfl (lv_at hl 2 rfl) ?_
      refine lv_iconst (v := (4 : Int32)) hx hb dX9_passes_31 (by decide) ?_
      obtain ⟨zv8, ze9, hf⟩ := nn_some hf
      refine x_ci (r := zv8) (I1 := I) (X1 := X) (x_runV (As := [.int zx2, .int (4 : Int32)]) (rest := []) C0 (c9_of l E G fl X I zx0 zx2 (4 : Int32) zt0 ze9) hw 9 zt0 (by decide) rfl wd117 wd623 wd624 wd625 wd612 ⟨rfl, rfl⟩ hy9_of ⟨Nat.le_of_ble_eq_true rfl, Nat.le_of_ble_eq_true rfl⟩ rfl hl.1 (Nat.le_of_ble_eq_true rfl) ⟨Nat.zero_le _, Nat.zero_le _⟩ dX9_passes_32) hw (fun H locs hw => ?_)
      refine lv_if_ne (tgt := 67) hx hb dX9_passes_35 (by decide) (fun zc10 => ?_) (fun zc10 => ?_)
      · have hf := ite_f hf zc10
        exact w9_passes_67 C0 hr hz fl zr4 zhr4 I _ _ _ zx0 zx1 zx2 zv1 zt0 ezv1 tzv1 hw (lv_sub hl [0, 1, 2] rfl) hf
      · have hf := ite_t hf zc10
        refine lv_aload_n hx hb dX9_passes_38 rfl (lv_at hl 0 rfl) ?_
        refine lv_iload_n hx hb dX9_passes_39 rfl (lv_at hl 2 rfl) ?_
        refine lv_iconst (v := (4 : Int32)) hx hb dX9_passes_40 (by decide) ?_
        refine lv_aload_n hx hb dX9_passes_41 rfl (lv_at hl 0 rfl) ?_
        refine lv_iload_n hx hb dX9_passes_42 rfl (lv_at hl 2 rfl) ?_
        obtain ⟨⟨zv11, zI12⟩, ze13, hf⟩ := nn_some hf
        refine x_ci (r := zv11) (I1 := zI12) (X1 := X) (x_runV (As := [.int zx2]) (rest := [.int (4 : Int32), .int zx2, .ref zx0]) C0 (c9_comes l E G fl X I zx0 zx2 zt0 ze13) hw 9 zt0 (by decide) rfl wd127 wd637 wd638 wd639 wd612 ⟨rfl, rfl⟩ hy9_comes ⟨Nat.le_of_ble_eq_true rfl, Nat.le_of_ble_eq_true rfl⟩ rfl hl.1 (Nat.le_of_ble_eq_true rfl) ⟨Nat.zero_le _, Nat.zero_le _⟩ dX9_passes_43) hw (fun H locs hw => ?_)
        obtain ⟨zI14, ze15, hf⟩ := nn_some hf
        refine x_cv (I1 := zI14) (X1 := X) (x_runV (As := [.int zx2, .int (4 : Int32), .int zv11]) (rest := []) C0 (c9_lay l E G fl X zI12 zx0 zx2 (4 : Int32) zv11 zt0 ze15) hw 9 zt0 (by decide) rfl wd118 wd640 wd641 wd642 wd612 ⟨rfl, rfl⟩ hy9_lay ⟨Nat.le_of_ble_eq_true rfl, Nat.le_of_ble_eq_true rfl⟩ rfl hl.1 (Nat.le_of_ble_eq_true rfl) ⟨Nat.zero_le _, Nat.zero_le _⟩ dX9_passes_46) hw (fun H locs hw => ?_)
        refine lv_iload_n hx hb dX9_passes_49 rfl (lv_at hl 1 rfl) ?_
        refine lv_aload_n hx hb dX9_passes_50 rfl (lv_at hl 0 rfl) ?_
        refine lv_iload_n hx hb dX9_passes_51 rfl (lv_at hl 2 rfl) ?_
        refine lv_iconst (v := (4 : Int32)) hx hb dX9_passes_52 (by decide) ?_
        obtain ⟨zv16, ze17, hf⟩ := nn_some hf
        refine x_ci (r := zv16) (I1 := zI14) (X1 := X) (x_runV (As := [.int zx2, .int (4 : Int32)]) (rest := [.int zx1]) C0 (c9_of l E G fl X zI14 zx0 zx2 (4 : Int32) zt0 ze17) hw 9 zt0 (by decide) rfl wd117 wd623 wd624 wd625 wd612 ⟨rfl, rfl⟩ hy9_of ⟨Nat.le_of_ble_eq_true rfl, Nat.le_of_ble_eq_true rfl⟩ rfl hl.1 (Nat.le_of_ble_eq_true rfl) ⟨Nat.zero_le _, Nat.zero_le _⟩ dX9_passes_53) hw (fun H locs hw => ?_)
        refine lv_iconst (v := (1 : Int32)) hx hb dX9_passes_56 (by decide) ?_
        refine lv_icmp_le (tgt := 64) hx hb dX9_passes_57 (by decide) (fun zc18 => ?_) (fun zc18 => ?_)
        · have hf := ite_t hf zc18
          refine lv_iconst (v := (0 : Int32)) hx hb dX9_passes_64 (by decide) ?_
          exact w9_passes_65 C0 hr hz fl zr4 zhr4 zI14 _ _ _ zx0 zx2 zx1 (0 : Int32) zv1 zt0 ezv1 tzv1 hw (lv_sub hl [0, 2] rfl) hf
        · have hf := ite_f hf zc18
          refine lv_iconst (v := (1 : Int32)) hx hb dX9_passes_60 (by decide) ?_
          refine lv_goto (tgt := 65) hx hb dX9_passes_61 (by decide) ?_
          exact w9_passes_65 C0 hr hz fl zr4 zhr4 zI14 _ _ _ zx0 zx2 zx1 (1 : Int32) zv1 zt0 ezv1 tzv1 hw (lv_sub hl [0, 2] rfl) hf
theorem w9_passes_4 {p : Program} {l : Launch} {e : Env} {s : State} {m : MethodId} {args : Array Value} {below : List Frame} {meth : Method} {c : Code} {E : EN} {G : GM} {X : Xm} (C0 : CX p s m args meth c E cX9_passes RX9 4) (hr : meth.sig.returnType = (some .int)) (hz : s.heap.size + 0 ≤ eB E + G.1) {rr : Int32 × Im} (fl : Nat) : ∀ (n : Nat) (I : Im) (H : Heap) (locs : List Loc) (ls : Array Slot) (zx0 : Nat) (zx1 : Int32) (zx2 : Int32) (zt0 : okA E G 9 zx0), WD E G I X s.heap H locs → lv_has ls 4 [(0, .ref zx0), (1, .int zx1), (2, .int zx2)] → m9_passes_4 fl G.2.2 X n I zx0 zx1 zx2 = some rr → W p l e ({ frames := 3, cells := 0, slots := 0, locals := 70 } : Room) s m args below meth c H locs 0 0 (MQ below (QI E G rr.1 rr.2 X) args s 0 0 (eA E)) (F0 m 4 ls []) := by
  intro n
  induction n with
  | zero => intro I H locs ls zx0 zx1 zx2 zt0 hw hl hf; exact absurd (show (none : Option (Int32 × Im)) = some rr from hf) (by simp)
  | succ n ih => intro I H locs ls zx0 zx1 zx2 zt0 hw hl hf; exact w9_passes_4b C0 hr hz fl _ ih I H locs ls zx0 zx1 zx2 zt0 hw hl hf
noncomputable def m9_passes (fl : Nat) (len : Nat → Nat) (X : Xm) (I : Im) (zx0 : Nat) : Option (Int32 × Im) :=
  m9_passes_4 fl len X fl I zx0 (0 : Int32) (0 : Int32)
theorem hy9_passes : yX9_passes.cls = RX9 ∧ yX9_passes.cls ≠ "java/lang/invoke/MethodHandle" ∧ yX9_passes.cls ≠ "java/lang/invoke/VarHandle" ∧ (parseMethodDescriptor yX9_passes.desc).map (fun d => d.parameters.length) = some 0 := ⟨rfl, by decide +kernel, by decide +kernel, by decide +kernel⟩
set_option maxHeartbeats 4000000 in
set_option maxRecDepth 100000 in
theorem c9_passes (l : Launch) (E : EN) (G : GM) (fl : Nat) (X : Xm) (I : Im) (zx0 : Nat) (zt0 : okA E G 9 zx0) {rr : Int32 × Im} (hf : m9_passes fl G.2.2 X I zx0 = some rr) : MT l yX9_passes cX9_passes 4 (some .int) ({ frames := 3, cells := 0, slots := 0, locals := 70 } : Room) E G I X [.ref zx0] (QI E G rr.1 rr.2 X) 0 0 := by
  refine Met.ofW (cc := cX9_passes) (maxL := 4) (ret := (some .int)) (by decide +kernel) rfl ?_
  intro p e s m args below meth c s₁ B hml hv
  obtain ⟨rfl, hw0, hSE⟩ := hv
  have C0 : CX p s m ([.ref zx0] : List Value).toArray meth c E cX9_passes RX9 4 := ⟨B.exec, B.bytes, hml, findClass_of_methodNamed B.named, fun w hw => atoms_spec (ws := WS yX9_passes cX9_passes 4 (some .int)) B.pre w (List.mem_cons_of_mem _ hw), B.notSynchronized, hSE⟩
  have hz : s.heap.size + 0 ≤ eB E + G.1 := Nat.le_of_eq hw0.2.1
  have hw : WD E G I X s.heap s.heap [] := ⟨hw0, va_S.rf⟩
  have hr := B.returns
  have hx := C0.1; have hb := C0.2.1; have hml := C0.2.2.1; have hown := C0.2.2.2.1; have hts := C0.2.2.2.2.1
  have hl := lv_entry ([.ref zx0]) (n := 4) (Nat.le_of_ble_eq_true rfl)
  rw [lg_entry_eq]
  generalize (lg_sl ([.ref zx0]) ++ List.replicate (4 - (lg_sl ([.ref zx0])).length) Slot.unset).toArray = ls at hl ⊢
  have hl : lv_has ls 4 [(0, .ref zx0)] := hl
  unfold m9_passes at hf
  refine lv_iconst (v := (0 : Int32)) hx hb dX9_passes_0 (by decide) ?_
  refine lv_istore_n (lv' := [(1, .int (0 : Int32)), (0, .ref zx0)]) hx hb dX9_passes_1 rfl hl (by decide) rfl (fun ls hl => ?_)
  refine lv_iconst (v := (0 : Int32)) hx hb dX9_passes_2 (by decide) ?_
  refine lv_istore_n (lv' := [(2, .int (0 : Int32)), (1, .int (0 : Int32)), (0, .ref zx0)]) hx hb dX9_passes_3 rfl hl (by decide) rfl (fun ls hl => ?_)
  exact w9_passes_4 C0 hr hz fl fl I _ _ _ zx0 (0 : Int32) (0 : Int32) zt0 hw (lv_sub hl [2, 1, 0] rfl) hf
noncomputable def m9_least_11 (fl : Nat) (len : Nat → Nat) (X : Xm) (I : Im) (zs0 : Int32) : Option (Int32) :=
  some (zs0)
set_option maxHeartbeats 4000000 in
set_option maxRecDepth 100000 in
theorem w9_least_11 {p : Program} {l : Launch} {e : Env} {s : State} {m : MethodId} {args : Array Value} {below : List Frame} {meth : Method} {c : Code} {E : EN} {G : GM} {X : Xm} {I : Im} (C0 : CX p s m args meth c E cX9_least RX9 1) (hr : meth.sig.returnType = (some .int)) (hz : s.heap.size + 0 ≤ eB E + G.1) {rr : Int32} (fl : Nat) : ∀ (H : Heap) (locs : List Loc) (ls : Array Slot) (zs0 : Int32) , WD E G I X s.heap H locs → lv_has ls 1 [] → m9_least_11 fl G.2.2 X I zs0 = some rr → W p l e ({ frames := 0, cells := 0, slots := 0, locals := 0 } : Room) s m args below meth c H locs 0 0 (MQ below (QI E G rr I X) args s 0 0 (eA E)) (F0 m 11 ls [.int zs0]) := by
  intro H locs ls zs0 hw hl hf
  unfold m9_least_11 at hf
  have hx := C0.1; have hb := C0.2.1; have hml := C0.2.2.1; have hown := C0.2.2.2.1; have hts := C0.2.2.2.2.1
  obtain rfl := Option.some.inj hf
  exact x_iret C0 hr hw dX9_least_11
noncomputable def m9_least (fl : Nat) (len : Nat → Nat) (X : Xm) (I : Im) (zx0 : Int32) : Option (Int32) :=
  if zx0 = (3 : Int32) then
    m9_least_11 fl len X I (10 : Int32)
  else
    m9_least_11 fl len X I (1 : Int32)
theorem hy9_least : yX9_least.cls = RX9 ∧ yX9_least.cls ≠ "java/lang/invoke/MethodHandle" ∧ yX9_least.cls ≠ "java/lang/invoke/VarHandle" ∧ (parseMethodDescriptor yX9_least.desc).map (fun d => d.parameters.length) = some 1 := ⟨rfl, by decide +kernel, by decide +kernel, by decide +kernel⟩
set_option maxHeartbeats 4000000 in
set_option maxRecDepth 100000 in
theorem c9_least (l : Launch) (E : EN) (G : GM) (fl : Nat) (X : Xm) (I : Im) (zx0 : Int32) {rr : Int32} (hf : m9_least fl G.2.2 X I zx0 = some rr) : MT l yX9_least cX9_least 1 (some .int) ({ frames := 0, cells := 0, slots := 0, locals := 0 } : Room) E G I X [.int zx0] (QI E G rr I X) 0 0 := by
  refine Met.ofW (cc := cX9_least) (maxL := 1) (ret := (some .int)) (by decide +kernel) rfl ?_
  intro p e s m args below meth c s₁ B hml hv
  obtain ⟨rfl, hw0, hSE⟩ := hv
  have C0 : CX p s m ([.int zx0] : List Value).toArray meth c E cX9_least RX9 1 := ⟨B.exec, B.bytes, hml, findClass_of_methodNamed B.named, fun w hw => atoms_spec (ws := WS yX9_least cX9_least 1 (some .int)) B.pre w (List.mem_cons_of_mem _ hw), B.notSynchronized, hSE⟩
  have hz : s.heap.size + 0 ≤ eB E + G.1 := Nat.le_of_eq hw0.2.1
  have hw : WD E G I X s.heap s.heap [] := ⟨hw0, va_S.rf⟩
  have hr := B.returns
  have hx := C0.1; have hb := C0.2.1; have hml := C0.2.2.1; have hown := C0.2.2.2.1; have hts := C0.2.2.2.2.1
  have hl := lv_entry ([.int zx0]) (n := 1) (Nat.le_of_ble_eq_true rfl)
  rw [lg_entry_eq]
  generalize (lg_sl ([.int zx0]) ++ List.replicate (1 - (lg_sl ([.int zx0])).length) Slot.unset).toArray = ls at hl ⊢
  have hl : lv_has ls 1 [(0, .int zx0)] := hl
  unfold m9_least at hf
  refine lv_iload_n hx hb dX9_least_0 rfl (lv_at hl 0 rfl) ?_
  refine lv_iconst (v := (3 : Int32)) hx hb dX9_least_1 (by decide) ?_
  refine lv_icmp_ne (tgt := 10) hx hb dX9_least_2 (by decide) (fun zc1 => ?_) (fun zc1 => ?_)
  · have hf := ite_f hf zc1
    refine lv_iconst (v := (1 : Int32)) hx hb dX9_least_10 (by decide) ?_
    exact w9_least_11 C0 hr hz fl _ _ _ (1 : Int32) hw (lv_sub hl [] rfl) hf
  · have hf := ite_t hf zc1
    refine lv_bipush (v := (10 : Int32)) hx hb dX9_least_5 (by decide) ?_
    refine lv_goto (tgt := 11) hx hb dX9_least_7 (by decide) ?_
    exact w9_least_11 C0 hr hz fl _ _ _ (10 : Int32) hw (lv_sub hl [] rfl) hf
noncomputable def m9_most_32 (fl : Nat) (len : Nat → Nat) (X : Xm) (I : Im) (zs0 : Int32) : Option (Int32) :=
  some (zs0)
set_option maxHeartbeats 4000000 in
set_option maxRecDepth 100000 in
theorem w9_most_32 {p : Program} {l : Launch} {e : Env} {s : State} {m : MethodId} {args : Array Value} {below : List Frame} {meth : Method} {c : Code} {E : EN} {G : GM} {X : Xm} {I : Im} (C0 : CX p s m args meth c E cX9_most RX9 1) (hr : meth.sig.returnType = (some .int)) (hz : s.heap.size + 0 ≤ eB E + G.1) {rr : Int32} (fl : Nat) : ∀ (H : Heap) (locs : List Loc) (ls : Array Slot) (zs0 : Int32) , WD E G I X s.heap H locs → lv_has ls 1 [] → m9_most_32 fl G.2.2 X I zs0 = some rr → W p l e ({ frames := 0, cells := 0, slots := 0, locals := 0 } : Room) s m args below meth c H locs 0 0 (MQ below (QI E G rr I X) args s 0 0 (eA E)) (F0 m 32 ls [.int zs0]) := by
  intro H locs ls zs0 hw hl hf
  unfold m9_most_32 at hf
  have hx := C0.1; have hb := C0.2.1; have hml := C0.2.2.1; have hown := C0.2.2.2.1; have hts := C0.2.2.2.2.1
  obtain rfl := Option.some.inj hf
  exact x_iret C0 hr hw dX9_most_32
noncomputable def m9_most (fl : Nat) (len : Nat → Nat) (X : Xm) (I : Im) (zx0 : Int32) : Option (Int32) :=
  if zx0 = 0 then
    m9_most_32 fl len X I (20 : Int32)
  else
    if zx0 = (1 : Int32) then
      m9_most_32 fl len X I (9 : Int32)
    else
      if zx0 = (2 : Int32) then
        m9_most_32 fl len X I (100 : Int32)
      else
        m9_most_32 fl len X I (400 : Int32)
theorem hy9_most : yX9_most.cls = RX9 ∧ yX9_most.cls ≠ "java/lang/invoke/MethodHandle" ∧ yX9_most.cls ≠ "java/lang/invoke/VarHandle" ∧ (parseMethodDescriptor yX9_most.desc).map (fun d => d.parameters.length) = some 1 := ⟨rfl, by decide +kernel, by decide +kernel, by decide +kernel⟩
set_option maxHeartbeats 4000000 in
set_option maxRecDepth 100000 in
theorem c9_most (l : Launch) (E : EN) (G : GM) (fl : Nat) (X : Xm) (I : Im) (zx0 : Int32) {rr : Int32} (hf : m9_most fl G.2.2 X I zx0 = some rr) : MT l yX9_most cX9_most 1 (some .int) ({ frames := 0, cells := 0, slots := 0, locals := 0 } : Room) E G I X [.int zx0] (QI E G rr I X) 0 0 := by
  refine Met.ofW (cc := cX9_most) (maxL := 1) (ret := (some .int)) (by decide +kernel) rfl ?_
  intro p e s m args below meth c s₁ B hml hv
  obtain ⟨rfl, hw0, hSE⟩ := hv
  have C0 : CX p s m ([.int zx0] : List Value).toArray meth c E cX9_most RX9 1 := ⟨B.exec, B.bytes, hml, findClass_of_methodNamed B.named, fun w hw => atoms_spec (ws := WS yX9_most cX9_most 1 (some .int)) B.pre w (List.mem_cons_of_mem _ hw), B.notSynchronized, hSE⟩
  have hz : s.heap.size + 0 ≤ eB E + G.1 := Nat.le_of_eq hw0.2.1
  have hw : WD E G I X s.heap s.heap [] := ⟨hw0, va_S.rf⟩
  have hr := B.returns
  have hx := C0.1; have hb := C0.2.1; have hml := C0.2.2.1; have hown := C0.2.2.2.1; have hts := C0.2.2.2.2.1
  have hl := lv_entry ([.int zx0]) (n := 1) (Nat.le_of_ble_eq_true rfl)
  rw [lg_entry_eq]
  generalize (lg_sl ([.int zx0]) ++ List.replicate (1 - (lg_sl ([.int zx0])).length) Slot.unset).toArray = ls at hl ⊢
  have hl : lv_has ls 1 [(0, .int zx0)] := hl
  unfold m9_most at hf
  refine lv_iload_n hx hb dX9_most_0 rfl (lv_at hl 0 rfl) ?_
  refine lv_if_ne (tgt := 9) hx hb dX9_most_1 (by decide) (fun zc1 => ?_) (fun zc1 => ?_)
  · have hf := ite_f hf zc1
    refine lv_iload_n hx hb dX9_most_9 rfl (lv_at hl 0 rfl) ?_
    refine lv_iconst (v := (1 : Int32)) hx hb dX9_most_10 (by decide) ?_
    refine lv_icmp_ne (tgt := 19) hx hb dX9_most_11 (by decide) (fun zc2 => ?_) (fun zc2 => ?_)
    · have hf := ite_f hf zc2
      refine lv_iload_n hx hb dX9_most_19 rfl (lv_at hl 0 rfl) ?_
      refine lv_iconst (v := (2 : Int32)) hx hb dX9_most_20 (by decide) ?_
      refine lv_icmp_ne (tgt := 29) hx hb dX9_most_21 (by decide) (fun zc3 => ?_) (fun zc3 => ?_)
      · have hf := ite_f hf zc3
        refine lv_sipush (v := (400 : Int32)) hx hb dX9_most_29 (by decide) ?_
        exact w9_most_32 C0 hr hz fl _ _ _ (400 : Int32) hw (lv_sub hl [] rfl) hf
      · have hf := ite_t hf zc3
        refine lv_bipush (v := (100 : Int32)) hx hb dX9_most_24 (by decide) ?_
        refine lv_goto (tgt := 32) hx hb dX9_most_26 (by decide) ?_
        exact w9_most_32 C0 hr hz fl _ _ _ (100 : Int32) hw (lv_sub hl [] rfl) hf
    · have hf := ite_t hf zc2
      refine lv_bipush (v := (9 : Int32)) hx hb dX9_most_14 (by decide) ?_
      refine lv_goto (tgt := 32) hx hb dX9_most_16 (by decide) ?_
      exact w9_most_32 C0 hr hz fl _ _ _ (9 : Int32) hw (lv_sub hl [] rfl) hf
  · have hf := ite_t hf zc1
    refine lv_bipush (v := (20 : Int32)) hx hb dX9_most_4 (by decide) ?_
    refine lv_goto (tgt := 32) hx hb dX9_most_6 (by decide) ?_
    exact w9_most_32 C0 hr hz fl _ _ _ (20 : Int32) hw (lv_sub hl [] rfl) hf
noncomputable def m9_set_24 (fl : Nat) (len : Nat → Nat) (X : Xm) (I : Im) : Option (Int32 × Im) :=
  some ((-2 : Int32), I)
set_option maxHeartbeats 4000000 in
set_option maxRecDepth 100000 in
theorem w9_set_24 {p : Program} {l : Launch} {e : Env} {s : State} {m : MethodId} {args : Array Value} {below : List Frame} {meth : Method} {c : Code} {E : EN} {G : GM} {X : Xm} (C0 : CX p s m args meth c E cX9_set RX9 4) (hr : meth.sig.returnType = (some .int)) (hz : s.heap.size + 0 ≤ eB E + G.1) {rr : Int32 × Im} (fl : Nat) : ∀ (I : Im) (H : Heap) (locs : List Loc) (ls : Array Slot) , WD E G I X s.heap H locs → lv_has ls 4 [] → m9_set_24 fl G.2.2 X I = some rr → W p l e ({ frames := 1, cells := 0, slots := 0, locals := 22 } : Room) s m args below meth c H locs 0 0 (MQ below (QI E G rr.1 rr.2 X) args s 0 0 (eA E)) (F0 m 24 ls []) := by
  intro I H locs ls hw hl hf
  unfold m9_set_24 at hf
  have hx := C0.1; have hb := C0.2.1; have hml := C0.2.2.1; have hown := C0.2.2.2.1; have hts := C0.2.2.2.2.1
  refine lv_bipush (v := (-2 : Int32)) hx hb dX9_set_24 (by decide) ?_
  obtain rfl := Option.some.inj hf
  exact x_iret C0 hr hw dX9_set_26
noncomputable def m9_set (fl : Nat) (len : Nat → Nat) (X : Xm) (I : Im) (zx0 : Nat) (zx1 : Int32) (zx2 : Int32) : Option (Int32 × Im) :=
  nn (m9_in fl len X I zx1 (0 : Int32) (3 : Int32)) fun zv1 =>
  if zv1 = 0 then
    m9_set_24 fl len X I
  else
    nn (m9_least fl len X I zx1) fun zv4 =>
    nn (m9_most fl len X I zx1) fun zv6 =>
    nn (m9_in fl len X I zx2 zv4 zv6) fun zv8 =>
    if zv8 = 0 then
      m9_set_24 fl len X I
    else
      nn (m9_changes fl len X I zx0) fun zI11 =>
      nn (gR X 144 zx0) fun zv13 =>
      ck (inb zx1 (len zv13) = true) <|
      lt ((gA zI11 zv13 (zx1).toNatClampNeg)) fun zv15 =>
      lt (pA zI11 zv13 (zx1).toNatClampNeg zx2) fun zI16 =>
      some (zv15, zI16)
theorem hy9_set : yX9_set.cls = RX9 ∧ yX9_set.cls ≠ "java/lang/invoke/MethodHandle" ∧ yX9_set.cls ≠ "java/lang/invoke/VarHandle" ∧ (parseMethodDescriptor yX9_set.desc).map (fun d => d.parameters.length) = some 2 := ⟨rfl, by decide +kernel, by decide +kernel, by decide +kernel⟩
set_option maxHeartbeats 4000000 in
set_option maxRecDepth 100000 in
theorem c9_set (l : Launch) (E : EN) (G : GM) (fl : Nat) (X : Xm) (I : Im) (zx0 : Nat) (zx1 : Int32) (zx2 : Int32) (zt0 : okA E G 9 zx0) {rr : Int32 × Im} (hf : m9_set fl G.2.2 X I zx0 zx1 zx2 = some rr) : MT l yX9_set cX9_set 4 (some .int) ({ frames := 1, cells := 0, slots := 0, locals := 22 } : Room) E G I X [.ref zx0, .int zx1, .int zx2] (QI E G rr.1 rr.2 X) 0 0 := by
  refine Met.ofW (cc := cX9_set) (maxL := 4) (ret := (some .int)) (by decide +kernel) rfl ?_
  intro p e s m args below meth c s₁ B hml hv
  obtain ⟨rfl, hw0, hSE⟩ := hv
  have C0 : CX p s m ([.ref zx0, .int zx1, .int zx2] : List Value).toArray meth c E cX9_set RX9 4 := ⟨B.exec, B.bytes, hml, findClass_of_methodNamed B.named, fun w hw => atoms_spec (ws := WS yX9_set cX9_set 4 (some .int)) B.pre w (List.mem_cons_of_mem _ hw), B.notSynchronized, hSE⟩
  have hz : s.heap.size + 0 ≤ eB E + G.1 := Nat.le_of_eq hw0.2.1
  have hw : WD E G I X s.heap s.heap [] := ⟨hw0, va_S.rf⟩
  have hr := B.returns
  have hx := C0.1; have hb := C0.2.1; have hml := C0.2.2.1; have hown := C0.2.2.2.1; have hts := C0.2.2.2.2.1
  have hl := lv_entry ([.ref zx0, .int zx1, .int zx2]) (n := 4) (Nat.le_of_ble_eq_true rfl)
  rw [lg_entry_eq]
  generalize (lg_sl ([.ref zx0, .int zx1, .int zx2]) ++ List.replicate (4 - (lg_sl ([.ref zx0, .int zx1, .int zx2])).length) Slot.unset).toArray = ls at hl ⊢
  have hl : lv_has ls 4 [(0, .ref zx0), (1, .int zx1), (2, .int zx2)] := hl
  unfold m9_set at hf
  refine lv_iload_n hx hb dX9_set_0 rfl (lv_at hl 1 rfl) ?_
  refine lv_iconst (v := (0 : Int32)) hx hb dX9_set_1 (by decide) ?_
  refine lv_iconst (v := (3 : Int32)) hx hb dX9_set_2 (by decide) ?_
  obtain ⟨zv1, ze2, hf⟩ := nn_some hf
  refine x_ci (r := zv1) (I1 := I) (X1 := X) (x_runS (As := [.int zx1, .int (0 : Int32), .int (3 : Int32)]) (rest := []) C0 (c9_in l E G fl X I zx1 (0 : Int32) (3 : Int32) ze2) hw wd113 wd610 wd611 wd612 ⟨rfl, rfl⟩ hy9_in ⟨Nat.le_of_ble_eq_true rfl, Nat.le_of_ble_eq_true rfl⟩ rfl hl.1 (Nat.le_of_ble_eq_true rfl) ⟨Nat.zero_le _, Nat.zero_le _⟩ dX9_set_3) hw (fun H locs hw => ?_)
  refine lv_if_eq (tgt := 24) hx hb dX9_set_6 (by decide) (fun zc3 => ?_) (fun zc3 => ?_)
  · have hf := ite_t hf zc3
    exact w9_set_24 C0 hr hz fl I _ _ _ hw (lv_sub hl [] rfl) hf
  · have hf := ite_f hf zc3
    refine lv_iload_n hx hb dX9_set_9 rfl (lv_at hl 2 rfl) ?_
    refine lv_iload_n hx hb dX9_set_10 rfl (lv_at hl 1 rfl) ?_
    obtain ⟨zv4, ze5, hf⟩ := nn_some hf
    refine x_ci (r := zv4) (I1 := I) (X1 := X) (x_runS (As := [.int zx1]) (rest := [.int zx2]) C0 (c9_least l E G fl X I zx1 ze5) hw wd136 wd658 wd659 wd612 ⟨rfl, rfl⟩ hy9_least ⟨Nat.le_of_ble_eq_true rfl, Nat.le_of_ble_eq_true rfl⟩ rfl hl.1 (Nat.le_of_ble_eq_true rfl) ⟨Nat.zero_le _, Nat.zero_le _⟩ dX9_set_11) hw (fun H locs hw => ?_)
    refine lv_iload_n hx hb dX9_set_14 rfl (lv_at hl 1 rfl) ?_
    obtain ⟨zv6, ze7, hf⟩ := nn_some hf
    refine x_ci (r := zv6) (I1 := I) (X1 := X) (x_runS (As := [.int zx1]) (rest := [.int zv4, .int zx2]) C0 (c9_most l E G fl X I zx1 ze7) hw wd137 wd660 wd661 wd612 ⟨rfl, rfl⟩ hy9_most ⟨Nat.le_of_ble_eq_true rfl, Nat.le_of_ble_eq_true rfl⟩ rfl hl.1 (Nat.le_of_ble_eq_true rfl) ⟨Nat.zero_le _, Nat.zero_le _⟩ dX9_set_15) hw (fun H locs hw => ?_)
    obtain ⟨zv8, ze9, hf⟩ := nn_some hf
    refine x_ci (r := zv8) (I1 := I) (X1 := X) (x_runS (As := [.int zx2, .int zv4, .int zv6]) (rest := []) C0 (c9_in l E G fl X I zx2 zv4 zv6 ze9) hw wd113 wd610 wd611 wd612 ⟨rfl, rfl⟩ hy9_in ⟨Nat.le_of_ble_eq_true rfl, Nat.le_of_ble_eq_true rfl⟩ rfl hl.1 (Nat.le_of_ble_eq_true rfl) ⟨Nat.zero_le _, Nat.zero_le _⟩ dX9_set_18) hw (fun H locs hw => ?_)
    refine lv_if_ne (tgt := 27) hx hb dX9_set_21 (by decide) (fun zc10 => ?_) (fun zc10 => ?_)
    · have hf := ite_f hf zc10
      refine lv_aload_n hx hb dX9_set_27 rfl (lv_at hl 0 rfl) ?_
      obtain ⟨zI11, ze12, hf⟩ := nn_some hf
      refine x_cv (I1 := zI11) (X1 := X) (x_runV (As := []) (rest := []) C0 (c9_changes l E G fl X I zx0 zt0 ze12) hw 9 zt0 (by decide) rfl wd114 wd662 wd663 wd664 wd612 ⟨rfl, rfl⟩ hy9_changes ⟨Nat.le_of_ble_eq_true rfl, Nat.le_of_ble_eq_true rfl⟩ rfl hl.1 (Nat.le_of_ble_eq_true rfl) ⟨Nat.zero_le _, Nat.zero_le _⟩ dX9_set_28) hw (fun H locs hw => ?_)
      refine lv_aload_n hx hb dX9_set_31 rfl (lv_at hl 0 rfl) ?_
      obtain ⟨zv13, ezv13, hf⟩ := nn_some hf
      have tzv13 : okA E G 11 zv13 := wt_r hw ezv13
      refine xg_9_0 C0 hw zt0 wd601 ezv13 dX9_set_32 ?_
      refine lv_iload_n hx hb dX9_set_35 rfl (lv_at hl 1 rfl) ?_
      obtain ⟨zhb14, hf⟩ := ck_some hf
      refine x_iald C0 hw tzv13 zhb14 dX9_set_36 ?_
      refine lv_topi (fun zv15 ezv15 => ?_)
      have hf := lt_at hf ezv15
      refine lv_istore_n (lv' := [(3, .int zv15), (0, .ref zx0), (1, .int zx1), (2, .int zx2)]) hx hb dX9_set_37 rfl hl (by decide) rfl (fun ls hl => ?_)
      refine lv_aload_n hx hb dX9_set_38 rfl (lv_at hl 1 rfl) ?_
      refine xg_9_0 C0 hw zt0 wd601 ezv13 dX9_set_39 ?_
      refine lv_iload_n hx hb dX9_set_42 rfl (lv_at hl 2 rfl) ?_
      refine lv_iload_n hx hb dX9_set_43 rfl (lv_at hl 3 rfl) ?_
      obtain ⟨zI16, ezI16⟩ : ∃ y : Im, y = pA zI11 zv13 (zx1).toNatClampNeg zx2 := ⟨_, rfl⟩
      have hf := lt_at hf ezI16
      refine x_iast C0 hz hw tzv13 zhb14 dX9_set_44 ezI16 (fun H locs hw => ?_)
      refine lv_iload_n hx hb dX9_set_45 rfl (lv_at hl 0 rfl) ?_
      obtain rfl := Option.some.inj hf
      exact x_iret C0 hr hw dX9_set_46
    · have hf := ite_t hf zc10
      exact w9_set_24 C0 hr hz fl I _ _ _ hw (lv_sub hl [] rfl) hf
noncomputable def m9_sound_29 (fl : Nat) (len : Nat → Nat) (X : Xm) (I : Im) : Option (Int32 × Im) :=
  some ((-2 : Int32), I)
set_option maxHeartbeats 4000000 in
set_option maxRecDepth 100000 in
theorem w9_sound_29 {p : Program} {l : Launch} {e : Env} {s : State} {m : MethodId} {args : Array Value} {below : List Frame} {meth : Method} {c : Code} {E : EN} {G : GM} {X : Xm} (C0 : CX p s m args meth c E cX9_sound RX9 6) (hr : meth.sig.returnType = (some .int)) (hz : s.heap.size + 0 ≤ eB E + G.1) {rr : Int32 × Im} (fl : Nat) : ∀ (I : Im) (H : Heap) (locs : List Loc) (ls : Array Slot) , WD E G I X s.heap H locs → lv_has ls 6 [] → m9_sound_29 fl G.2.2 X I = some rr → W p l e ({ frames := 2, cells := 0, slots := 0, locals := 42 } : Room) s m args below meth c H locs 0 0 (MQ below (QI E G rr.1 rr.2 X) args s 0 0 (eA E)) (F0 m 29 ls []) := by
  intro I H locs ls hw hl hf
  unfold m9_sound_29 at hf
  have hx := C0.1; have hb := C0.2.1; have hml := C0.2.2.1; have hown := C0.2.2.2.1; have hts := C0.2.2.2.2.1
  refine lv_bipush (v := (-2 : Int32)) hx hb dX9_sound_29 (by decide) ?_
  obtain rfl := Option.some.inj hf
  exact x_iret C0 hr hw dX9_sound_31
noncomputable def m9_sound (fl : Nat) (len : Nat → Nat) (X : Xm) (I : Im) (zx0 : Nat) (zx1 : Int32) (zx2 : Int32) (zx3 : Int32) : Option (Int32 × Im) :=
  nn (m9_isReel fl len X I zx1) fun zv1 =>
  if zv1 = 0 then
    some ((-1 : Int32), I)
  else
    nn (m9_in fl len X I zx2 (1 : Int32) (60 : Int32)) fun zv4 =>
    if zv4 = 0 then
      m9_sound_29 fl len X I
    else
      nn (m9_in fl len X I zx3 (1 : Int32) (99 : Int32)) fun zv7 =>
      if zv7 = 0 then
        m9_sound_29 fl len X I
      else
        nn (m9_reel fl len X I zx0 zx1 (3 : Int32)) fun zv10 =>
        if zv10 = (6 : Int32) then
          some ((-4 : Int32), I)
        else
          nn (m9_changes fl len X I zx0) fun zI13 =>
          nn (m9_soundAt fl len X zI13 zx1 zv10) fun zv15 =>
          nn (gR X 144 zx0) fun zv17 =>
          ck (inb (zv15 + (0 : Int32)) (len zv17) = true) <|
          lt (pA zI13 zv17 ((zv15 + (0 : Int32))).toNatClampNeg zx2) fun zI19 =>
          ck (inb (zv15 + (1 : Int32)) (len zv17) = true) <|
          lt (pA zI19 zv17 ((zv15 + (1 : Int32))).toNatClampNeg zx3) fun zI21 =>
          ck (inb (zv15 + (2 : Int32)) (len zv17) = true) <|
          lt (pA zI21 zv17 ((zv15 + (2 : Int32))).toNatClampNeg (0 : Int32)) fun zI23 =>
          nn (m9_turn fl len X zI23 zx0 zx1 (3 : Int32) (zv10 + (1 : Int32))) fun zI24 =>
          some (zv10, zI24)
theorem hy9_sound : yX9_sound.cls = RX9 ∧ yX9_sound.cls ≠ "java/lang/invoke/MethodHandle" ∧ yX9_sound.cls ≠ "java/lang/invoke/VarHandle" ∧ (parseMethodDescriptor yX9_sound.desc).map (fun d => d.parameters.length) = some 3 := ⟨rfl, by decide +kernel, by decide +kernel, by decide +kernel⟩
set_option maxHeartbeats 4000000 in
set_option maxRecDepth 100000 in
theorem c9_sound (l : Launch) (E : EN) (G : GM) (fl : Nat) (X : Xm) (I : Im) (zx0 : Nat) (zx1 : Int32) (zx2 : Int32) (zx3 : Int32) (zt0 : okA E G 9 zx0) {rr : Int32 × Im} (hf : m9_sound fl G.2.2 X I zx0 zx1 zx2 zx3 = some rr) : MT l yX9_sound cX9_sound 6 (some .int) ({ frames := 2, cells := 0, slots := 0, locals := 42 } : Room) E G I X [.ref zx0, .int zx1, .int zx2, .int zx3] (QI E G rr.1 rr.2 X) 0 0 := by
  refine Met.ofW (cc := cX9_sound) (maxL := 6) (ret := (some .int)) (by decide +kernel) rfl ?_
  intro p e s m args below meth c s₁ B hml hv
  obtain ⟨rfl, hw0, hSE⟩ := hv
  have C0 : CX p s m ([.ref zx0, .int zx1, .int zx2, .int zx3] : List Value).toArray meth c E cX9_sound RX9 6 := ⟨B.exec, B.bytes, hml, findClass_of_methodNamed B.named, fun w hw => atoms_spec (ws := WS yX9_sound cX9_sound 6 (some .int)) B.pre w (List.mem_cons_of_mem _ hw), B.notSynchronized, hSE⟩
  have hz : s.heap.size + 0 ≤ eB E + G.1 := Nat.le_of_eq hw0.2.1
  have hw : WD E G I X s.heap s.heap [] := ⟨hw0, va_S.rf⟩
  have hr := B.returns
  have hx := C0.1; have hb := C0.2.1; have hml := C0.2.2.1; have hown := C0.2.2.2.1; have hts := C0.2.2.2.2.1
  have hl := lv_entry ([.ref zx0, .int zx1, .int zx2, .int zx3]) (n := 6) (Nat.le_of_ble_eq_true rfl)
  rw [lg_entry_eq]
  generalize (lg_sl ([.ref zx0, .int zx1, .int zx2, .int zx3]) ++ List.replicate (6 - (lg_sl ([.ref zx0, .int zx1, .int zx2, .int zx3])).length) Slot.unset).toArray = ls at hl ⊢
  have hl : lv_has ls 6 [(0, .ref zx0), (1, .int zx1), (2, .int zx2), (3, .int zx3)] := hl
  unfold m9_sound at hf
  refine lv_iload_n hx hb dX9_sound_0 rfl (lv_at hl 1 rfl) ?_
  obtain ⟨zv1, ze2, hf⟩ := nn_some hf
  refine x_ci (r := zv1) (I1 := I) (X1 := X) (x_runS (As := [.int zx1]) (rest := []) C0 (c9_isReel l E G fl X I zx1 ze2) hw wd123 wd613 wd614 wd612 ⟨rfl, rfl⟩ hy9_isReel ⟨Nat.le_of_ble_eq_true rfl, Nat.le_of_ble_eq_true rfl⟩ rfl hl.1 (Nat.le_of_ble_eq_true rfl) ⟨Nat.zero_le _, Nat.zero_le _⟩ dX9_sound_1) hw (fun H locs hw => ?_)
  refine lv_if_ne (tgt := 9) hx hb dX9_sound_4 (by decide) (fun zc3 => ?_) (fun zc3 => ?_)
  · have hf := ite_f hf zc3
    refine lv_iload_n hx hb dX9_sound_9 rfl (lv_at hl 2 rfl) ?_
    refine lv_iconst (v := (1 : Int32)) hx hb dX9_sound_10 (by decide) ?_
    refine lv_bipush (v := (60 : Int32)) hx hb dX9_sound_11 (by decide) ?_
    obtain ⟨zv4, ze5, hf⟩ := nn_some hf
    refine x_ci (r := zv4) (I1 := I) (X1 := X) (x_runS (As := [.int zx2, .int (1 : Int32), .int (60 : Int32)]) (rest := []) C0 (c9_in l E G fl X I zx2 (1 : Int32) (60 : Int32) ze5) hw wd113 wd610 wd611 wd612 ⟨rfl, rfl⟩ hy9_in ⟨Nat.le_of_ble_eq_true rfl, Nat.le_of_ble_eq_true rfl⟩ rfl hl.1 (Nat.le_of_ble_eq_true rfl) ⟨Nat.zero_le _, Nat.zero_le _⟩ dX9_sound_13) hw (fun H locs hw => ?_)
    refine lv_if_eq (tgt := 29) hx hb dX9_sound_16 (by decide) (fun zc6 => ?_) (fun zc6 => ?_)
    · have hf := ite_t hf zc6
      exact w9_sound_29 C0 hr hz fl I _ _ _ hw (lv_sub hl [] rfl) hf
    · have hf := ite_f hf zc6
      refine lv_iload_n hx hb dX9_sound_19 rfl (lv_at hl 3 rfl) ?_
      refine lv_iconst (v := (1 : Int32)) hx hb dX9_sound_20 (by decide) ?_
      refine lv_bipush (v := (99 : Int32)) hx hb dX9_sound_21 (by decide) ?_
      obtain ⟨zv7, ze8, hf⟩ := nn_some hf
      refine x_ci (r := zv7) (I1 := I) (X1 := X) (x_runS (As := [.int zx3, .int (1 : Int32), .int (99 : Int32)]) (rest := []) C0 (c9_in l E G fl X I zx3 (1 : Int32) (99 : Int32) ze8) hw wd113 wd610 wd611 wd612 ⟨rfl, rfl⟩ hy9_in ⟨Nat.le_of_ble_eq_true rfl, Nat.le_of_ble_eq_true rfl⟩ rfl hl.1 (Nat.le_of_ble_eq_true rfl) ⟨Nat.zero_le _, Nat.zero_le _⟩ dX9_sound_23) hw (fun H locs hw => ?_)
      refine lv_if_ne (tgt := 32) hx hb dX9_sound_26 (by decide) (fun zc9 => ?_) (fun zc9 => ?_)
      · have hf := ite_f hf zc9
        refine lv_aload_n hx hb dX9_sound_32 rfl (lv_at hl 0 rfl) ?_
        refine lv_iload_n hx hb dX9_sound_33 rfl (lv_at hl 1 rfl) ?_
        refine lv_iconst (v := (3 : Int32)) hx hb dX9_sound_34 (by decide) ?_
        obtain ⟨zv10, ze11, hf⟩ := nn_some hf
        refine x_ci (r := zv10) (I1 := I) (X1 := X) (x_runV (As := [.int zx1, .int (3 : Int32)]) (rest := []) C0 (c9_reel l E G fl X I zx0 zx1 (3 : Int32) zt0 ze11) hw 9 zt0 (by decide) rfl wd119 wd615 wd616 wd617 wd612 ⟨rfl, rfl⟩ hy9_reel ⟨Nat.le_of_ble_eq_true rfl, Nat.le_of_ble_eq_true rfl⟩ rfl hl.1 (Nat.le_of_ble_eq_true rfl) ⟨Nat.zero_le _, Nat.zero_le _⟩ dX9_sound_35) hw (fun H locs hw => ?_)
        refine lv_istore (lv' := [(4, .int zv10), (0, .ref zx0), (1, .int zx1), (2, .int zx2), (3, .int zx3)]) hx hb dX9_sound_38 hl (by decide) rfl (fun ls hl => ?_)
        refine lv_iload hx hb dX9_sound_40 (lv_at hl 0 rfl) ?_
        refine lv_bipush (v := (6 : Int32)) hx hb dX9_sound_42 (by decide) ?_
        refine lv_icmp_ne (tgt := 50) hx hb dX9_sound_44 (by decide) (fun zc12 => ?_) (fun zc12 => ?_)
        · have hf := ite_f hf zc12
          refine lv_aload_n hx hb dX9_sound_50 rfl (lv_at hl 1 rfl) ?_
          obtain ⟨zI13, ze14, hf⟩ := nn_some hf
          refine x_cv (I1 := zI13) (X1 := X) (x_runV (As := []) (rest := []) C0 (c9_changes l E G fl X I zx0 zt0 ze14) hw 9 zt0 (by decide) rfl wd114 wd662 wd663 wd664 wd612 ⟨rfl, rfl⟩ hy9_changes ⟨Nat.le_of_ble_eq_true rfl, Nat.le_of_ble_eq_true rfl⟩ rfl hl.1 (Nat.le_of_ble_eq_true rfl) ⟨Nat.zero_le _, Nat.zero_le _⟩ dX9_sound_51) hw (fun H locs hw => ?_)
          refine lv_iload_n hx hb dX9_sound_54 rfl (lv_at hl 2 rfl) ?_
          refine lv_iload hx hb dX9_sound_55 (lv_at hl 0 rfl) ?_
          obtain ⟨zv15, ze16, hf⟩ := nn_some hf
          refine x_ci (r := zv15) (I1 := zI13) (X1 := X) (x_runS (As := [.int zx1, .int zv10]) (rest := []) C0 (c9_soundAt l E G fl X zI13 zx1 zv10 ze16) hw wd121 wd618 wd619 wd612 ⟨rfl, rfl⟩ hy9_soundAt ⟨Nat.le_of_ble_eq_true rfl, Nat.le_of_ble_eq_true rfl⟩ rfl hl.1 (Nat.le_of_ble_eq_true rfl) ⟨Nat.zero_le _, Nat.zero_le _⟩ dX9_sound_57) hw (fun H locs hw => ?_)
          refine lv_istore (lv' := [(5, .int zv15), (4, .int zv10), (0, .ref zx0), (1, .int zx1), (2, .int zx2), (3, .int zx3)]) hx hb dX9_sound_60 hl (by decide) rfl (fun ls hl => ?_)
          refine lv_aload_n hx hb dX9_sound_62 rfl (lv_at hl 2 rfl) ?_
          obtain ⟨zv17, ezv17, hf⟩ := nn_some hf
          have tzv17 : okA E G 11 zv17 := wt_r hw ezv17
          refine xg_9_0 C0 hw zt0 wd601 ezv17 dX9_sound_63 ?_
          refine lv_iload hx hb dX9_sound_66 (lv_at hl 0 rfl) ?_
          refine lv_iconst (v := (0 : Int32)) hx hb dX9_sound_68 (by decide) ?_
          refine lv_iadd hx hb dX9_sound_69 ?_
          refine lv_iload_n hx hb dX9_sound_70 rfl (lv_at hl 4 rfl) ?_
          obtain ⟨zhb18, hf⟩ := ck_some hf
          obtain ⟨zI19, ezI19⟩ : ∃ y : Im, y = pA zI13 zv17 ((zv15 + (0 : Int32))).toNatClampNeg zx2 := ⟨_, rfl⟩
          have hf := lt_at hf ezI19
          refine x_iast C0 hz hw tzv17 zhb18 dX9_sound_71 ezI19 (fun H locs hw => ?_)
          refine lv_aload_n hx hb dX9_sound_72 rfl (lv_at hl 2 rfl) ?_
          refine xg_9_0 C0 hw zt0 wd601 ezv17 dX9_sound_73 ?_
          refine lv_iload hx hb dX9_sound_76 (lv_at hl 0 rfl) ?_
          refine lv_iconst (v := (1 : Int32)) hx hb dX9_sound_78 (by decide) ?_
          refine lv_iadd hx hb dX9_sound_79 ?_
          refine lv_iload_n hx hb dX9_sound_80 rfl (lv_at hl 5 rfl) ?_
          obtain ⟨zhb20, hf⟩ := ck_some hf
          obtain ⟨zI21, ezI21⟩ : ∃ y : Im, y = pA zI19 zv17 ((zv15 + (1 : Int32))).toNatClampNeg zx3 := ⟨_, rfl⟩
          have hf := lt_at hf ezI21
          refine x_iast C0 hz hw tzv17 zhb20 dX9_sound_81 ezI21 (fun H locs hw => ?_)
          refine lv_aload_n hx hb dX9_sound_82 rfl (lv_at hl 2 rfl) ?_
          refine xg_9_0 C0 hw zt0 wd601 ezv17 dX9_sound_83 ?_
          refine lv_iload hx hb dX9_sound_86 (lv_at hl 0 rfl) ?_
          refine lv_iconst (v := (2 : Int32)) hx hb dX9_sound_88 (by decide) ?_
          refine lv_iadd hx hb dX9_sound_89 ?_
          refine lv_iconst (v := (0 : Int32)) hx hb dX9_sound_90 (by decide) ?_
          obtain ⟨zhb22, hf⟩ := ck_some hf
          obtain ⟨zI23, ezI23⟩ : ∃ y : Im, y = pA zI21 zv17 ((zv15 + (2 : Int32))).toNatClampNeg (0 : Int32) := ⟨_, rfl⟩
          have hf := lt_at hf ezI23
          refine x_iast C0 hz hw tzv17 zhb22 dX9_sound_91 ezI23 (fun H locs hw => ?_)
          refine lv_aload_n hx hb dX9_sound_92 rfl (lv_at hl 2 rfl) ?_
          refine lv_iload_n hx hb dX9_sound_93 rfl (lv_at hl 3 rfl) ?_
          refine lv_iconst (v := (3 : Int32)) hx hb dX9_sound_94 (by decide) ?_
          refine lv_iload hx hb dX9_sound_95 (lv_at hl 1 rfl) ?_
          refine lv_iconst (v := (1 : Int32)) hx hb dX9_sound_97 (by decide) ?_
          refine lv_iadd hx hb dX9_sound_98 ?_
          obtain ⟨zI24, ze25, hf⟩ := nn_some hf
          refine x_cv (I1 := zI24) (X1 := X) (x_runV (As := [.int zx1, .int (3 : Int32), .int (zv10 + (1 : Int32))]) (rest := []) C0 (c9_turn l E G fl X zI23 zx0 zx1 (3 : Int32) (zv10 + (1 : Int32)) zt0 ze25) hw 9 zt0 (by decide) rfl wd120 wd620 wd621 wd622 wd612 ⟨rfl, rfl⟩ hy9_turn ⟨Nat.le_of_ble_eq_true rfl, Nat.le_of_ble_eq_true rfl⟩ rfl hl.1 (Nat.le_of_ble_eq_true rfl) ⟨Nat.zero_le _, Nat.zero_le _⟩ dX9_sound_99) hw (fun H locs hw => ?_)
          refine lv_iload hx hb dX9_sound_102 (lv_at hl 1 rfl) ?_
          obtain rfl := Option.some.inj hf
          exact x_iret C0 hr hw dX9_sound_104
        · have hf := ite_t hf zc12
          refine lv_bipush (v := (-4 : Int32)) hx hb dX9_sound_47 (by decide) ?_
          obtain rfl := Option.some.inj hf
          exact x_iret C0 hr hw dX9_sound_49
      · have hf := ite_t hf zc9
        exact w9_sound_29 C0 hr hz fl I _ _ _ hw (lv_sub hl [] rfl) hf
  · have hf := ite_t hf zc3
    refine lv_iconst (v := (-1 : Int32)) hx hb dX9_sound_7 (by decide) ?_
    obtain rfl := Option.some.inj hf
    exact x_iret C0 hr hw dX9_sound_8
noncomputable def m9_opens_43b (fl : Nat) (len : Nat → Nat) (X : Xm) (zr43 : Im → Nat → Int32 → Int32 → Nat → Option (Int32 × Im)) (I : Im) (zx0 : Nat) (zx2 : Int32) (zx3 : Int32) (p_144 : Nat) : Option (Int32 × Im) :=
  if zx3 < ((8 : Int32) + ((5 : Int32) * zx2)) then
    ck (inb (5 : Int32) (len p_144) = true) <|
    lt (pA I p_144 ((5 : Int32)).toNatClampNeg ((gA I p_144 ((5 : Int32)).toNatClampNeg) + (1 : Int32))) fun zI3 =>
    some (zx2, zI3)
  else
    ck (inb zx3 (len p_144) = true) <|
    ck (inb (zx3 + (5 : Int32)) (len p_144) = true) <|
    lt (pA I p_144 ((zx3 + (5 : Int32))).toNatClampNeg (gA I p_144 (zx3).toNatClampNeg)) fun zI6 =>
    lt (zx3 + (-1)) fun zv7 =>
    zr43 zI6 zx0 zx2 zv7 p_144
noncomputable def m9_opens_43 (fl : Nat) (len : Nat → Nat) (X : Xm) (n : Nat) : Im → Nat → Int32 → Int32 → Nat → Option (Int32 × Im) :=
  Nat.rec (fun _ _ _ _ _ => none) (fun _ r => m9_opens_43b fl len X r) n
set_option maxHeartbeats 4000000 in
set_option maxRecDepth 100000 in
theorem w9_opens_43b {p : Program} {l : Launch} {e : Env} {s : State} {m : MethodId} {args : Array Value} {below : List Frame} {meth : Method} {c : Code} {E : EN} {G : GM} {X : Xm} (C0 : CX p s m args meth c E cX9_opens RX9 4) (hr : meth.sig.returnType = (some .int)) (hz : s.heap.size + 0 ≤ eB E + G.1) {rr : Int32 × Im} (fl : Nat) (zr43 : Im → Nat → Int32 → Int32 → Nat → Option (Int32 × Im)) (zhr43 : ∀ (I : Im) (H : Heap) (locs : List Loc) (ls : Array Slot) (zx0 : Nat) (zx2 : Int32) (zx3 : Int32) (p_144 : Nat) (zt0 : okA E G 9 zx0) (ep_144 : gR X 144 zx0 = some p_144) (tp_144 : okA E G 11 p_144), WD E G I X s.heap H locs → lv_has ls 4 [(0, .ref zx0), (2, .int zx2), (3, .int zx3)] → zr43 I zx0 zx2 zx3 p_144 = some rr → W p l e ({ frames := 1, cells := 0, slots := 0, locals := 22 } : Room) s m args below meth c H locs 0 0 (MQ below (QI E G rr.1 rr.2 X) args s 0 0 (eA E)) (F0 m 43 ls [])) : ∀ (I : Im) (H : Heap) (locs : List Loc) (ls : Array Slot) (zx0 : Nat) (zx2 : Int32) (zx3 : Int32) (p_144 : Nat) (zt0 : okA E G 9 zx0) (ep_144 : gR X 144 zx0 = some p_144) (tp_144 : okA E G 11 p_144), WD E G I X s.heap H locs → lv_has ls 4 [(0, .ref zx0), (2, .int zx2), (3, .int zx3)] → m9_opens_43b fl G.2.2 X zr43 I zx0 zx2 zx3 p_144 = some rr → W p l e ({ frames := 1, cells := 0, slots := 0, locals := 22 } : Room) s m args below meth c H locs 0 0 (MQ below (QI E G rr.1 rr.2 X) args s 0 0 (eA E)) (F0 m 43 ls []) := by
  intro I H locs ls zx0 zx2 zx3 p_144 zt0 ep_144 tp_144 hw hl hf
  unfold m9_opens_43b at hf
  have hx := C0.1; have hb := C0.2.1; have hml := C0.2.2.1; have hown := C0.2.2.2.1; have hts := C0.2.2.2.2.1
  refine lv_iload_n hx hb dX9_opens_43 rfl (lv_at hl 2 rfl) ?_
  refine lv_bipush (v := (8 : Int32)) hx hb dX9_opens_44 (by decide) ?_
  refine lv_iconst (v := (5 : Int32)) hx hb dX9_opens_46 (by decide) ?_
  refine lv_iload_n hx hb dX9_opens_47 rfl (lv_at hl 1 rfl) ?_
  refine lv_imul hx hb dX9_opens_48 ?_
  refine lv_iadd hx hb dX9_opens_49 ?_
  refine lv_icmp_lt (tgt := 73) hx hb dX9_opens_50 (by decide) (fun zc1 => ?_) (fun zc1 => ?_)
  · have hf := ite_t hf zc1
    refine lv_aload_n hx hb dX9_opens_73 rfl (lv_at hl 0 rfl) ?_
    refine xg_9_0 C0 hw zt0 wd601 ep_144 dX9_opens_74 ?_
    refine lv_iconst (v := (5 : Int32)) hx hb dX9_opens_77 (by decide) ?_
    refine lv_dup2_11 hx hb dX9_opens_78 rfl rfl ?_
    obtain ⟨zhb2, hf⟩ := ck_some hf
    refine x_iald C0 hw tp_144 zhb2 dX9_opens_79 ?_
    refine lv_iconst (v := (1 : Int32)) hx hb dX9_opens_80 (by decide) ?_
    refine lv_iadd hx hb dX9_opens_81 ?_
    obtain ⟨zI3, ezI3⟩ : ∃ y : Im, y = pA I p_144 ((5 : Int32)).toNatClampNeg ((gA I p_144 ((5 : Int32)).toNatClampNeg) + (1 : Int32)) := ⟨_, rfl⟩
    have hf := lt_at hf ezI3
    refine x_iast C0 hz hw tp_144 zhb2 dX9_opens_82 ezI3 (fun H locs hw => ?_)
    refine lv_iload_n hx hb dX9_opens_83 rfl (lv_at hl 1 rfl) ?_
    obtain rfl := Option.some.inj hf
    exact x_iret C0 hr hw dX9_opens_84
  · have hf := ite_f hf zc1
    refine lv_aload_n hx hb dX9_opens_53 rfl (lv_at hl 0 rfl) ?_
    refine xg_9_0 C0 hw zt0 wd601 ep_144 dX9_opens_54 ?_
    refine lv_iload_n hx hb dX9_opens_57 rfl (lv_at hl 2 rfl) ?_
    refine lv_iconst (v := (5 : Int32)) hx hb dX9_opens_58 (by decide) ?_
    refine lv_iadd hx hb dX9_opens_59 ?_
    refine lv_aload_n hx hb dX9_opens_60 rfl (lv_at hl 0 rfl) ?_
    refine xg_9_0 C0 hw zt0 wd601 ep_144 dX9_opens_61 ?_
    refine lv_iload_n hx hb dX9_opens_64 rfl (lv_at hl 2 rfl) ?_
    obtain ⟨zhb4, hf⟩ := ck_some hf
    refine x_iald C0 hw tp_144 zhb4 dX9_opens_65 ?_
    obtain ⟨zhb5, hf⟩ := ck_some hf
    obtain ⟨zI6, ezI6⟩ : ∃ y : Im, y = pA I p_144 ((zx3 + (5 : Int32))).toNatClampNeg (gA I p_144 (zx3).toNatClampNeg) := ⟨_, rfl⟩
    have hf := lt_at hf ezI6
    refine x_iast C0 hz hw tp_144 zhb5 dX9_opens_66 ezI6 (fun H locs hw => ?_)
    obtain ⟨zv7, ezv7⟩ : ∃ y : Int32, y = zx3 + (-1) := ⟨_, rfl⟩
    have hf := lt_at hf ezv7
    refine lv_iinc (v := zv7) (lv' := [(3, .int zv7), (0, .ref zx0), (2, .int zx2)]) hx hb dX9_opens_67 hl (k := 2) rfl (by rw [ezv7]; rfl) (by decide) rfl (fun ls hl => ?_)
    refine lv_goto (tgt := 43) hx hb dX9_opens_70 (by decide) ?_
    exact zhr43 zI6 _ _ _ zx0 zx2 zv7 p_144 zt0 ep_144 tp_144 hw (lv_sub hl [1, 2, 0] rfl) hf
theorem w9_opens_43 {p : Program} {l : Launch} {e : Env} {s : State} {m : MethodId} {args : Array Value} {below : List Frame} {meth : Method} {c : Code} {E : EN} {G : GM} {X : Xm} (C0 : CX p s m args meth c E cX9_opens RX9 4) (hr : meth.sig.returnType = (some .int)) (hz : s.heap.size + 0 ≤ eB E + G.1) {rr : Int32 × Im} (fl : Nat) : ∀ (n : Nat) (I : Im) (H : Heap) (locs : List Loc) (ls : Array Slot) (zx0 : Nat) (zx2 : Int32) (zx3 : Int32) (p_144 : Nat) (zt0 : okA E G 9 zx0) (ep_144 : gR X 144 zx0 = some p_144) (tp_144 : okA E G 11 p_144), WD E G I X s.heap H locs → lv_has ls 4 [(0, .ref zx0), (2, .int zx2), (3, .int zx3)] → m9_opens_43 fl G.2.2 X n I zx0 zx2 zx3 p_144 = some rr → W p l e ({ frames := 1, cells := 0, slots := 0, locals := 22 } : Room) s m args below meth c H locs 0 0 (MQ below (QI E G rr.1 rr.2 X) args s 0 0 (eA E)) (F0 m 43 ls []) := by
  intro n
  induction n with
  | zero => intro I H locs ls zx0 zx2 zx3 p_144 zt0 ep_144 tp_144 hw hl hf; exact absurd (show (none : Option (Int32 × Im)) = some rr from hf) (by simp)
  | succ n ih => intro I H locs ls zx0 zx2 zx3 p_144 zt0 ep_144 tp_144 hw hl hf; exact w9_opens_43b C0 hr hz fl _ ih I H locs ls zx0 zx2 zx3 p_144 zt0 ep_144 tp_144 hw hl hf
noncomputable def m9_opens_29 (fl : Nat) (len : Nat → Nat) (X : Xm) (I : Im) (zx0 : Nat) (zx2 : Int32) (p_144 : Nat) : Option (Int32 × Im) :=
  ck (inb (5 : Int32) (len p_144) = true) <|
  lt ((((8 : Int32) + ((5 : Int32) * (gA I p_144 ((5 : Int32)).toNatClampNeg))) - (1 : Int32))) fun zv2 =>
  m9_opens_43 fl len X fl I zx0 zx2 zv2 p_144
set_option maxHeartbeats 4000000 in
set_option maxRecDepth 100000 in
theorem w9_opens_29 {p : Program} {l : Launch} {e : Env} {s : State} {m : MethodId} {args : Array Value} {below : List Frame} {meth : Method} {c : Code} {E : EN} {G : GM} {X : Xm} (C0 : CX p s m args meth c E cX9_opens RX9 4) (hr : meth.sig.returnType = (some .int)) (hz : s.heap.size + 0 ≤ eB E + G.1) {rr : Int32 × Im} (fl : Nat) : ∀ (I : Im) (H : Heap) (locs : List Loc) (ls : Array Slot) (zx0 : Nat) (zx2 : Int32) (p_144 : Nat) (zt0 : okA E G 9 zx0) (ep_144 : gR X 144 zx0 = some p_144) (tp_144 : okA E G 11 p_144), WD E G I X s.heap H locs → lv_has ls 4 [(0, .ref zx0), (2, .int zx2)] → m9_opens_29 fl G.2.2 X I zx0 zx2 p_144 = some rr → W p l e ({ frames := 1, cells := 0, slots := 0, locals := 22 } : Room) s m args below meth c H locs 0 0 (MQ below (QI E G rr.1 rr.2 X) args s 0 0 (eA E)) (F0 m 29 ls []) := by
  intro I H locs ls zx0 zx2 p_144 zt0 ep_144 tp_144 hw hl hf
  unfold m9_opens_29 at hf
  have hx := C0.1; have hb := C0.2.1; have hml := C0.2.2.1; have hown := C0.2.2.2.1; have hts := C0.2.2.2.2.1
  refine lv_bipush (v := (8 : Int32)) hx hb dX9_opens_29 (by decide) ?_
  refine lv_iconst (v := (5 : Int32)) hx hb dX9_opens_31 (by decide) ?_
  refine lv_aload_n hx hb dX9_opens_32 rfl (lv_at hl 0 rfl) ?_
  refine xg_9_0 C0 hw zt0 wd601 ep_144 dX9_opens_33 ?_
  refine lv_iconst (v := (5 : Int32)) hx hb dX9_opens_36 (by decide) ?_
  obtain ⟨zhb1, hf⟩ := ck_some hf
  refine x_iald C0 hw tp_144 zhb1 dX9_opens_37 ?_
  refine lv_imul hx hb dX9_opens_38 ?_
  refine lv_iadd hx hb dX9_opens_39 ?_
  refine lv_iconst (v := (1 : Int32)) hx hb dX9_opens_40 (by decide) ?_
  refine lv_isub hx hb dX9_opens_41 ?_
  refine lv_topi (fun zv2 ezv2 => ?_)
  have hf := lt_at hf ezv2
  refine lv_istore_n (lv' := [(3, .int zv2), (0, .ref zx0), (2, .int zx2)]) hx hb dX9_opens_42 rfl hl (by decide) rfl (fun ls hl => ?_)
  exact w9_opens_43 C0 hr hz fl fl I _ _ _ zx0 zx2 zv2 p_144 zt0 ep_144 tp_144 hw (lv_sub hl [1, 2, 0] rfl) hf
noncomputable def m9_opens_7b (fl : Nat) (len : Nat → Nat) (X : Xm) (zr7 : Im → Nat → Int32 → Int32 → Nat → Option (Int32 × Im)) (I : Im) (zx0 : Nat) (zx1 : Int32) (zx2 : Int32) (p_144 : Nat) : Option (Int32 × Im) :=
  if zx2 ≤ 0 then
    m9_opens_29 fl len X I zx0 zx2 p_144
  else
    nn (m9_of fl len X I zx0 (zx2 - (1 : Int32)) (0 : Int32)) fun zv2 =>
    if zv2 ≤ zx1 then
      m9_opens_29 fl len X I zx0 zx2 p_144
    else
      lt (zx2 + (-1)) fun zv5 =>
      zr7 I zx0 zx1 zv5 p_144
noncomputable def m9_opens_7 (fl : Nat) (len : Nat → Nat) (X : Xm) (n : Nat) : Im → Nat → Int32 → Int32 → Nat → Option (Int32 × Im) :=
  Nat.rec (fun _ _ _ _ _ => none) (fun _ r => m9_opens_7b fl len X r) n
set_option maxHeartbeats 4000000 in
set_option maxRecDepth 100000 in
theorem w9_opens_7b {p : Program} {l : Launch} {e : Env} {s : State} {m : MethodId} {args : Array Value} {below : List Frame} {meth : Method} {c : Code} {E : EN} {G : GM} {X : Xm} (C0 : CX p s m args meth c E cX9_opens RX9 4) (hr : meth.sig.returnType = (some .int)) (hz : s.heap.size + 0 ≤ eB E + G.1) {rr : Int32 × Im} (fl : Nat) (zr7 : Im → Nat → Int32 → Int32 → Nat → Option (Int32 × Im)) (zhr7 : ∀ (I : Im) (H : Heap) (locs : List Loc) (ls : Array Slot) (zx0 : Nat) (zx1 : Int32) (zx2 : Int32) (p_144 : Nat) (zt0 : okA E G 9 zx0) (ep_144 : gR X 144 zx0 = some p_144) (tp_144 : okA E G 11 p_144), WD E G I X s.heap H locs → lv_has ls 4 [(0, .ref zx0), (1, .int zx1), (2, .int zx2)] → zr7 I zx0 zx1 zx2 p_144 = some rr → W p l e ({ frames := 1, cells := 0, slots := 0, locals := 22 } : Room) s m args below meth c H locs 0 0 (MQ below (QI E G rr.1 rr.2 X) args s 0 0 (eA E)) (F0 m 7 ls [])) : ∀ (I : Im) (H : Heap) (locs : List Loc) (ls : Array Slot) (zx0 : Nat) (zx1 : Int32) (zx2 : Int32) (p_144 : Nat) (zt0 : okA E G 9 zx0) (ep_144 : gR X 144 zx0 = some p_144) (tp_144 : okA E G 11 p_144), WD E G I X s.heap H locs → lv_has ls 4 [(0, .ref zx0), (1, .int zx1), (2, .int zx2)] → m9_opens_7b fl G.2.2 X zr7 I zx0 zx1 zx2 p_144 = some rr → W p l e ({ frames := 1, cells := 0, slots := 0, locals := 22 } : Room) s m args below meth c H locs 0 0 (MQ below (QI E G rr.1 rr.2 X) args s 0 0 (eA E)) (F0 m 7 ls []) := by
  intro I H locs ls zx0 zx1 zx2 p_144 zt0 ep_144 tp_144 hw hl hf
  unfold m9_opens_7b at hf
  have hx := C0.1; have hb := C0.2.1; have hml := C0.2.2.1; have hown := C0.2.2.2.1; have hts := C0.2.2.2.2.1
  refine lv_iload_n hx hb dX9_opens_7 rfl (lv_at hl 2 rfl) ?_
  refine lv_if_le (tgt := 29) hx hb dX9_opens_8 (by decide) (fun zc1 => ?_) (fun zc1 => ?_)
  · have hf := ite_t hf zc1
    exact w9_opens_29 C0 hr hz fl I _ _ _ zx0 zx2 p_144 zt0 ep_144 tp_144 hw (lv_sub hl [0, 2] rfl) hf
  · have hf := ite_f hf zc1
    refine lv_aload_n hx hb dX9_opens_11 rfl (lv_at hl 0 rfl) ?_
    refine lv_iload_n hx hb dX9_opens_12 rfl (lv_at hl 2 rfl) ?_
    refine lv_iconst (v := (1 : Int32)) hx hb dX9_opens_13 (by decide) ?_
    refine lv_isub hx hb dX9_opens_14 ?_
    refine lv_iconst (v := (0 : Int32)) hx hb dX9_opens_15 (by decide) ?_
    obtain ⟨zv2, ze3, hf⟩ := nn_some hf
    refine x_ci (r := zv2) (I1 := I) (X1 := X) (x_runV (As := [.int (zx2 - (1 : Int32)), .int (0 : Int32)]) (rest := []) C0 (c9_of l E G fl X I zx0 (zx2 - (1 : Int32)) (0 : Int32) zt0 ze3) hw 9 zt0 (by decide) rfl wd117 wd623 wd624 wd625 wd612 ⟨rfl, rfl⟩ hy9_of ⟨Nat.le_of_ble_eq_true rfl, Nat.le_of_ble_eq_true rfl⟩ rfl hl.1 (Nat.le_of_ble_eq_true rfl) ⟨Nat.zero_le _, Nat.zero_le _⟩ dX9_opens_16) hw (fun H locs hw => ?_)
    refine lv_iload_n hx hb dX9_opens_19 rfl (lv_at hl 1 rfl) ?_
    refine lv_icmp_le (tgt := 29) hx hb dX9_opens_20 (by decide) (fun zc4 => ?_) (fun zc4 => ?_)
    · have hf := ite_t hf zc4
      exact w9_opens_29 C0 hr hz fl I _ _ _ zx0 zx2 p_144 zt0 ep_144 tp_144 hw (lv_sub hl [0, 2] rfl) hf
    · have hf := ite_f hf zc4
      obtain ⟨zv5, ezv5⟩ : ∃ y : Int32, y = zx2 + (-1) := ⟨_, rfl⟩
      have hf := lt_at hf ezv5
      refine lv_iinc (v := zv5) (lv' := [(2, .int zv5), (0, .ref zx0), (1, .int zx1)]) hx hb dX9_opens_23 hl (k := 2) rfl (by rw [ezv5]; rfl) (by decide) rfl (fun ls hl => ?_)
      refine lv_goto (tgt := 7) hx hb dX9_opens_26 (by decide) ?_
      exact zhr7 I _ _ _ zx0 zx1 zv5 p_144 zt0 ep_144 tp_144 hw (lv_sub hl [1, 2, 0] rfl) hf
theorem w9_opens_7 {p : Program} {l : Launch} {e : Env} {s : State} {m : MethodId} {args : Array Value} {below : List Frame} {meth : Method} {c : Code} {E : EN} {G : GM} {X : Xm} (C0 : CX p s m args meth c E cX9_opens RX9 4) (hr : meth.sig.returnType = (some .int)) (hz : s.heap.size + 0 ≤ eB E + G.1) {rr : Int32 × Im} (fl : Nat) : ∀ (n : Nat) (I : Im) (H : Heap) (locs : List Loc) (ls : Array Slot) (zx0 : Nat) (zx1 : Int32) (zx2 : Int32) (p_144 : Nat) (zt0 : okA E G 9 zx0) (ep_144 : gR X 144 zx0 = some p_144) (tp_144 : okA E G 11 p_144), WD E G I X s.heap H locs → lv_has ls 4 [(0, .ref zx0), (1, .int zx1), (2, .int zx2)] → m9_opens_7 fl G.2.2 X n I zx0 zx1 zx2 p_144 = some rr → W p l e ({ frames := 1, cells := 0, slots := 0, locals := 22 } : Room) s m args below meth c H locs 0 0 (MQ below (QI E G rr.1 rr.2 X) args s 0 0 (eA E)) (F0 m 7 ls []) := by
  intro n
  induction n with
  | zero => intro I H locs ls zx0 zx1 zx2 p_144 zt0 ep_144 tp_144 hw hl hf; exact absurd (show (none : Option (Int32 × Im)) = some rr from hf) (by simp)
  | succ n ih => intro I H locs ls zx0 zx1 zx2 p_144 zt0 ep_144 tp_144 hw hl hf; exact w9_opens_7b C0 hr hz fl _ ih I H locs ls zx0 zx1 zx2 p_144 zt0 ep_144 tp_144 hw hl hf
noncomputable def m9_opens (fl : Nat) (len : Nat → Nat) (X : Xm) (I : Im) (zx0 : Nat) (zx1 : Int32) : Option (Int32 × Im) :=
  nn (gR X 144 zx0) fun zv1 =>
  ck (inb (5 : Int32) (len zv1) = true) <|
  lt ((gA I zv1 ((5 : Int32)).toNatClampNeg)) fun zv3 =>
  m9_opens_7 fl len X fl I zx0 zx1 zv3 zv1
theorem hy9_opens : yX9_opens.cls = RX9 ∧ yX9_opens.cls ≠ "java/lang/invoke/MethodHandle" ∧ yX9_opens.cls ≠ "java/lang/invoke/VarHandle" ∧ (parseMethodDescriptor yX9_opens.desc).map (fun d => d.parameters.length) = some 1 := ⟨rfl, by decide +kernel, by decide +kernel, by decide +kernel⟩
set_option maxHeartbeats 4000000 in
set_option maxRecDepth 100000 in
theorem c9_opens (l : Launch) (E : EN) (G : GM) (fl : Nat) (X : Xm) (I : Im) (zx0 : Nat) (zx1 : Int32) (zt0 : okA E G 9 zx0) {rr : Int32 × Im} (hf : m9_opens fl G.2.2 X I zx0 zx1 = some rr) : MT l yX9_opens cX9_opens 4 (some .int) ({ frames := 1, cells := 0, slots := 0, locals := 22 } : Room) E G I X [.ref zx0, .int zx1] (QI E G rr.1 rr.2 X) 0 0 := by
  refine Met.ofW (cc := cX9_opens) (maxL := 4) (ret := (some .int)) (by decide +kernel) rfl ?_
  intro p e s m args below meth c s₁ B hml hv
  obtain ⟨rfl, hw0, hSE⟩ := hv
  have C0 : CX p s m ([.ref zx0, .int zx1] : List Value).toArray meth c E cX9_opens RX9 4 := ⟨B.exec, B.bytes, hml, findClass_of_methodNamed B.named, fun w hw => atoms_spec (ws := WS yX9_opens cX9_opens 4 (some .int)) B.pre w (List.mem_cons_of_mem _ hw), B.notSynchronized, hSE⟩
  have hz : s.heap.size + 0 ≤ eB E + G.1 := Nat.le_of_eq hw0.2.1
  have hw : WD E G I X s.heap s.heap [] := ⟨hw0, va_S.rf⟩
  have hr := B.returns
  have hx := C0.1; have hb := C0.2.1; have hml := C0.2.2.1; have hown := C0.2.2.2.1; have hts := C0.2.2.2.2.1
  have hl := lv_entry ([.ref zx0, .int zx1]) (n := 4) (Nat.le_of_ble_eq_true rfl)
  rw [lg_entry_eq]
  generalize (lg_sl ([.ref zx0, .int zx1]) ++ List.replicate (4 - (lg_sl ([.ref zx0, .int zx1])).length) Slot.unset).toArray = ls at hl ⊢
  have hl : lv_has ls 4 [(0, .ref zx0), (1, .int zx1)] := hl
  unfold m9_opens at hf
  refine lv_aload_n hx hb dX9_opens_0 rfl (lv_at hl 0 rfl) ?_
  obtain ⟨zv1, ezv1, hf⟩ := nn_some hf
  have tzv1 : okA E G 11 zv1 := wt_r hw ezv1
  refine xg_9_0 C0 hw zt0 wd601 ezv1 dX9_opens_1 ?_
  refine lv_iconst (v := (5 : Int32)) hx hb dX9_opens_4 (by decide) ?_
  obtain ⟨zhb2, hf⟩ := ck_some hf
  refine x_iald C0 hw tzv1 zhb2 dX9_opens_5 ?_
  refine lv_topi (fun zv3 ezv3 => ?_)
  have hf := lt_at hf ezv3
  refine lv_istore_n (lv' := [(2, .int zv3), (0, .ref zx0), (1, .int zx1)]) hx hb dX9_opens_6 rfl hl (by decide) rfl (fun ls hl => ?_)
  exact w9_opens_7 C0 hr hz fl fl I _ _ _ zx0 zx1 zv3 zv1 zt0 ezv1 tzv1 hw (lv_sub hl [1, 2, 0] rfl) hf
noncomputable def m9_closes_17b (fl : Nat) (len : Nat → Nat) (X : Xm) (zr17 : Im → Nat → Int32 → Nat → Option (Im)) (I : Im) (zx0 : Nat) (zx2 : Int32) (p_144 : Nat) : Option (Im) :=
  ck (inb (5 : Int32) (len p_144) = true) <|
  if ((8 : Int32) + ((5 : Int32) * (gA I p_144 ((5 : Int32)).toNatClampNeg))) ≤ zx2 then
    some (I)
  else
    ck (inb (zx2 + (5 : Int32)) (len p_144) = true) <|
    ck (inb zx2 (len p_144) = true) <|
    lt (pA I p_144 (zx2).toNatClampNeg (gA I p_144 ((zx2 + (5 : Int32))).toNatClampNeg)) fun zI5 =>
    lt (zx2 + 1) fun zv6 =>
    zr17 zI5 zx0 zv6 p_144
noncomputable def m9_closes_17 (fl : Nat) (len : Nat → Nat) (X : Xm) (n : Nat) : Im → Nat → Int32 → Nat → Option (Im) :=
  Nat.rec (fun _ _ _ _ => none) (fun _ r => m9_closes_17b fl len X r) n
set_option maxHeartbeats 4000000 in
set_option maxRecDepth 100000 in
theorem w9_closes_17b {p : Program} {l : Launch} {e : Env} {s : State} {m : MethodId} {args : Array Value} {below : List Frame} {meth : Method} {c : Code} {E : EN} {G : GM} {X : Xm} (C0 : CX p s m args meth c E cX9_closes RX9 3) (hr : meth.sig.returnType = none) (hz : s.heap.size + 0 ≤ eB E + G.1) {rr : Im} (fl : Nat) (zr17 : Im → Nat → Int32 → Nat → Option (Im)) (zhr17 : ∀ (I : Im) (H : Heap) (locs : List Loc) (ls : Array Slot) (zx0 : Nat) (zx2 : Int32) (p_144 : Nat) (zt0 : okA E G 9 zx0) (ep_144 : gR X 144 zx0 = some p_144) (tp_144 : okA E G 11 p_144), WD E G I X s.heap H locs → lv_has ls 3 [(0, .ref zx0), (2, .int zx2)] → zr17 I zx0 zx2 p_144 = some rr → W p l e ({ frames := 0, cells := 0, slots := 0, locals := 0 } : Room) s m args below meth c H locs 0 0 (MQ below (QV E G rr X) args s 0 0 (eA E)) (F0 m 17 ls [])) : ∀ (I : Im) (H : Heap) (locs : List Loc) (ls : Array Slot) (zx0 : Nat) (zx2 : Int32) (p_144 : Nat) (zt0 : okA E G 9 zx0) (ep_144 : gR X 144 zx0 = some p_144) (tp_144 : okA E G 11 p_144), WD E G I X s.heap H locs → lv_has ls 3 [(0, .ref zx0), (2, .int zx2)] → m9_closes_17b fl G.2.2 X zr17 I zx0 zx2 p_144 = some rr → W p l e ({ frames := 0, cells := 0, slots := 0, locals := 0 } : Room) s m args below meth c H locs 0 0 (MQ below (QV E G rr X) args s 0 0 (eA E)) (F0 m 17 ls []) := by
  intro I H locs ls zx0 zx2 p_144 zt0 ep_144 tp_144 hw hl hf
  unfold m9_closes_17b at hf
  have hx := C0.1; have hb := C0.2.1; have hml := C0.2.2.1; have hown := C0.2.2.2.1; have hts := C0.2.2.2.2.1
  refine lv_iload_n hx hb dX9_closes_17 rfl (lv_at hl 1 rfl) ?_
  refine lv_bipush (v := (8 : Int32)) hx hb dX9_closes_18 (by decide) ?_
  refine lv_iconst (v := (5 : Int32)) hx hb dX9_closes_20 (by decide) ?_
  refine lv_aload_n hx hb dX9_closes_21 rfl (lv_at hl 0 rfl) ?_
  refine xg_9_0 C0 hw zt0 wd601 ep_144 dX9_closes_22 ?_
  refine lv_iconst (v := (5 : Int32)) hx hb dX9_closes_25 (by decide) ?_
  obtain ⟨zhb1, hf⟩ := ck_some hf
  refine x_iald C0 hw tp_144 zhb1 dX9_closes_26 ?_
  refine lv_imul hx hb dX9_closes_27 ?_
  refine lv_iadd hx hb dX9_closes_28 ?_
  refine lv_icmp_ge (tgt := 52) hx hb dX9_closes_29 (by decide) (fun zc2 => ?_) (fun zc2 => ?_)
  · have hf := ite_t hf zc2
    obtain rfl := Option.some.inj hf
    exact x_vret C0 hr hw dX9_closes_52
  · have hf := ite_f hf zc2
    refine lv_aload_n hx hb dX9_closes_32 rfl (lv_at hl 0 rfl) ?_
    refine xg_9_0 C0 hw zt0 wd601 ep_144 dX9_closes_33 ?_
    refine lv_iload_n hx hb dX9_closes_36 rfl (lv_at hl 1 rfl) ?_
    refine lv_aload_n hx hb dX9_closes_37 rfl (lv_at hl 0 rfl) ?_
    refine xg_9_0 C0 hw zt0 wd601 ep_144 dX9_closes_38 ?_
    refine lv_iload_n hx hb dX9_closes_41 rfl (lv_at hl 1 rfl) ?_
    refine lv_iconst (v := (5 : Int32)) hx hb dX9_closes_42 (by decide) ?_
    refine lv_iadd hx hb dX9_closes_43 ?_
    obtain ⟨zhb3, hf⟩ := ck_some hf
    refine x_iald C0 hw tp_144 zhb3 dX9_closes_44 ?_
    obtain ⟨zhb4, hf⟩ := ck_some hf
    obtain ⟨zI5, ezI5⟩ : ∃ y : Im, y = pA I p_144 (zx2).toNatClampNeg (gA I p_144 ((zx2 + (5 : Int32))).toNatClampNeg) := ⟨_, rfl⟩
    have hf := lt_at hf ezI5
    refine x_iast C0 hz hw tp_144 zhb4 dX9_closes_45 ezI5 (fun H locs hw => ?_)
    obtain ⟨zv6, ezv6⟩ : ∃ y : Int32, y = zx2 + 1 := ⟨_, rfl⟩
    have hf := lt_at hf ezv6
    refine lv_iinc (v := zv6) (lv' := [(2, .int zv6), (0, .ref zx0)]) hx hb dX9_closes_46 hl (k := 1) rfl (by rw [ezv6]; rfl) (by decide) rfl (fun ls hl => ?_)
    refine lv_goto (tgt := 17) hx hb dX9_closes_49 (by decide) ?_
    exact zhr17 zI5 _ _ _ zx0 zv6 p_144 zt0 ep_144 tp_144 hw (lv_sub hl [1, 0] rfl) hf
theorem w9_closes_17 {p : Program} {l : Launch} {e : Env} {s : State} {m : MethodId} {args : Array Value} {below : List Frame} {meth : Method} {c : Code} {E : EN} {G : GM} {X : Xm} (C0 : CX p s m args meth c E cX9_closes RX9 3) (hr : meth.sig.returnType = none) (hz : s.heap.size + 0 ≤ eB E + G.1) {rr : Im} (fl : Nat) : ∀ (n : Nat) (I : Im) (H : Heap) (locs : List Loc) (ls : Array Slot) (zx0 : Nat) (zx2 : Int32) (p_144 : Nat) (zt0 : okA E G 9 zx0) (ep_144 : gR X 144 zx0 = some p_144) (tp_144 : okA E G 11 p_144), WD E G I X s.heap H locs → lv_has ls 3 [(0, .ref zx0), (2, .int zx2)] → m9_closes_17 fl G.2.2 X n I zx0 zx2 p_144 = some rr → W p l e ({ frames := 0, cells := 0, slots := 0, locals := 0 } : Room) s m args below meth c H locs 0 0 (MQ below (QV E G rr X) args s 0 0 (eA E)) (F0 m 17 ls []) := by
  intro n
  induction n with
  | zero => intro I H locs ls zx0 zx2 p_144 zt0 ep_144 tp_144 hw hl hf; exact absurd (show (none : Option (Im)) = some rr from hf) (by simp)
  | succ n ih => intro I H locs ls zx0 zx2 p_144 zt0 ep_144 tp_144 hw hl hf; exact w9_closes_17b C0 hr hz fl _ ih I H locs ls zx0 zx2 p_144 zt0 ep_144 tp_144 hw hl hf
noncomputable def m9_closes (fl : Nat) (len : Nat → Nat) (X : Xm) (I : Im) (zx0 : Nat) (zx1 : Int32) : Option (Im) :=
  nn (gR X 144 zx0) fun zv1 =>
  ck (inb (5 : Int32) (len zv1) = true) <|
  lt (pA I zv1 ((5 : Int32)).toNatClampNeg ((gA I zv1 ((5 : Int32)).toNatClampNeg) - (1 : Int32))) fun zI3 =>
  lt (((8 : Int32) + ((5 : Int32) * zx1))) fun zv4 =>
  m9_closes_17 fl len X fl zI3 zx0 zv4 zv1
theorem hy9_closes : yX9_closes.cls = RX9 ∧ yX9_closes.cls ≠ "java/lang/invoke/MethodHandle" ∧ yX9_closes.cls ≠ "java/lang/invoke/VarHandle" ∧ (parseMethodDescriptor yX9_closes.desc).map (fun d => d.parameters.length) = some 1 := ⟨rfl, by decide +kernel, by decide +kernel, by decide +kernel⟩
set_option maxHeartbeats 4000000 in
set_option maxRecDepth 100000 in
theorem c9_closes (l : Launch) (E : EN) (G : GM) (fl : Nat) (X : Xm) (I : Im) (zx0 : Nat) (zx1 : Int32) (zt0 : okA E G 9 zx0) {rr : Im} (hf : m9_closes fl G.2.2 X I zx0 zx1 = some rr) : MT l yX9_closes cX9_closes 3 none ({ frames := 0, cells := 0, slots := 0, locals := 0 } : Room) E G I X [.ref zx0, .int zx1] (QV E G rr X) 0 0 := by
  refine Met.ofW (cc := cX9_closes) (maxL := 3) (ret := none) (by decide +kernel) rfl ?_
  intro p e s m args below meth c s₁ B hml hv
  obtain ⟨rfl, hw0, hSE⟩ := hv
  have C0 : CX p s m ([.ref zx0, .int zx1] : List Value).toArray meth c E cX9_closes RX9 3 := ⟨B.exec, B.bytes, hml, findClass_of_methodNamed B.named, fun w hw => atoms_spec (ws := WS yX9_closes cX9_closes 3 none) B.pre w (List.mem_cons_of_mem _ hw), B.notSynchronized, hSE⟩
  have hz : s.heap.size + 0 ≤ eB E + G.1 := Nat.le_of_eq hw0.2.1
  have hw : WD E G I X s.heap s.heap [] := ⟨hw0, va_S.rf⟩
  have hr := B.returns
  have hx := C0.1; have hb := C0.2.1; have hml := C0.2.2.1; have hown := C0.2.2.2.1; have hts := C0.2.2.2.2.1
  have hl := lv_entry ([.ref zx0, .int zx1]) (n := 3) (Nat.le_of_ble_eq_true rfl)
  rw [lg_entry_eq]
  generalize (lg_sl ([.ref zx0, .int zx1]) ++ List.replicate (3 - (lg_sl ([.ref zx0, .int zx1])).length) Slot.unset).toArray = ls at hl ⊢
  have hl : lv_has ls 3 [(0, .ref zx0), (1, .int zx1)] := hl
  unfold m9_closes at hf
  refine lv_aload_n hx hb dX9_closes_0 rfl (lv_at hl 0 rfl) ?_
  obtain ⟨zv1, ezv1, hf⟩ := nn_some hf
  have tzv1 : okA E G 11 zv1 := wt_r hw ezv1
  refine xg_9_0 C0 hw zt0 wd601 ezv1 dX9_closes_1 ?_
  refine lv_iconst (v := (5 : Int32)) hx hb dX9_closes_4 (by decide) ?_
  refine lv_dup2_11 hx hb dX9_closes_5 rfl rfl ?_
  obtain ⟨zhb2, hf⟩ := ck_some hf
  refine x_iald C0 hw tzv1 zhb2 dX9_closes_6 ?_
  refine lv_iconst (v := (1 : Int32)) hx hb dX9_closes_7 (by decide) ?_
  refine lv_isub hx hb dX9_closes_8 ?_
  obtain ⟨zI3, ezI3⟩ : ∃ y : Im, y = pA I zv1 ((5 : Int32)).toNatClampNeg ((gA I zv1 ((5 : Int32)).toNatClampNeg) - (1 : Int32)) := ⟨_, rfl⟩
  have hf := lt_at hf ezI3
  refine x_iast C0 hz hw tzv1 zhb2 dX9_closes_9 ezI3 (fun H locs hw => ?_)
  refine lv_bipush (v := (8 : Int32)) hx hb dX9_closes_10 (by decide) ?_
  refine lv_iconst (v := (5 : Int32)) hx hb dX9_closes_12 (by decide) ?_
  refine lv_iload_n hx hb dX9_closes_13 rfl (lv_at hl 1 rfl) ?_
  refine lv_imul hx hb dX9_closes_14 ?_
  refine lv_iadd hx hb dX9_closes_15 ?_
  refine lv_topi (fun zv4 ezv4 => ?_)
  have hf := lt_at hf ezv4
  refine lv_istore_n (lv' := [(2, .int zv4), (0, .ref zx0), (1, .int zx1)]) hx hb dX9_closes_16 rfl hl (by decide) rfl (fun ls hl => ?_)
  exact w9_closes_17 C0 hr hz fl fl zI3 _ _ _ zx0 zv4 zv1 zt0 ezv1 tzv1 hw (lv_sub hl [1, 0] rfl) hf
