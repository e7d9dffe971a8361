noncomputable def m9_begins_8b (fl : Nat) (len : Nat → Nat) (X : Xm) (I : Im) (zr8 : Nat → Int32 → Int32 → Int32 → Int32 → Option (Int32)) (zx0 : Nat) (zx1 : Int32) (zx2 : Int32) (zx3 : Int32) (zx4 : Int32) : Option (Int32) :=
  if (((6 : Int32) * zx1) + zx2) ≤ zx4 then
    some (zx3)
  else
    ck (inb zx4 (len zx0) = true) <|
    lt ((zx3 + ((gA I zx0 (zx4).toNatClampNeg) - (gA I zx0 (zx4).toNatClampNeg) / (64 : Int32) * (64 : Int32)))) fun zv3 =>
    lt (zx4 + 1) fun zv4 =>
    zr8 zx0 zx1 zx2 zv3 zv4
noncomputable def m9_begins_8 (fl : Nat) (len : Nat → Nat) (X : Xm) (I : Im) (n : Nat) : Nat → Int32 → Int32 → Int32 → Int32 → Option (Int32) :=
  Nat.rec (fun _ _ _ _ _ => none) (fun _ r => m9_begins_8b fl len X I r) n
set_option maxHeartbeats 4000000 in
set_option maxRecDepth 100000 in
theorem w9_begins_8b {p : Program} {l : Launch} {e : Env} {s : State} {m : MethodId} {args : Array Value} {below : List Frame} {meth : Method} {c : Code} {E : EN} {G : GM} {X : Xm} {I : Im} (C0 : CX p s m args meth c E cL_begins RL 5) (hr : meth.sig.returnType = (some .int)) (hz : s.heap.size + 0 ≤ eB E + G.1) {rr : Int32} (fl : Nat) (zr8 : Nat → Int32 → Int32 → Int32 → Int32 → Option (Int32)) (zhr8 : ∀ (H : Heap) (locs : List Loc) (ls : Array Slot) (zx0 : Nat) (zx1 : Int32) (zx2 : Int32) (zx3 : Int32) (zx4 : Int32) (zt0 : okA E G 11 zx0), WD E G I X s.heap H locs → lv_has ls 5 [(0, .ref zx0), (1, .int zx1), (2, .int zx2), (3, .int zx3), (4, .int zx4)] → zr8 zx0 zx1 zx2 zx3 zx4 = some rr → W p l e ({ frames := 0, cells := 0, slots := 0, locals := 0 } : Room) s m args below meth c H locs 0 0 (MQ below (QI E G rr I X) args s 0 0 (eA E)) (F0 m 8 ls [])) : ∀ (H : Heap) (locs : List Loc) (ls : Array Slot) (zx0 : Nat) (zx1 : Int32) (zx2 : Int32) (zx3 : Int32) (zx4 : Int32) (zt0 : okA E G 11 zx0), WD E G I X s.heap H locs → lv_has ls 5 [(0, .ref zx0), (1, .int zx1), (2, .int zx2), (3, .int zx3), (4, .int zx4)] → m9_begins_8b fl G.2.2 X I zr8 zx0 zx1 zx2 zx3 zx4 = some rr → W p l e ({ frames := 0, cells := 0, slots := 0, locals := 0 } : Room) s m args below meth c H locs 0 0 (MQ below (QI E G rr I X) args s 0 0 (eA E)) (F0 m 8 ls []) := by
  intro H locs ls zx0 zx1 zx2 zx3 zx4 zt0 hw hl hf
  unfold m9_begins_8b at hf
  have hx := C0.1; have hb := C0.2.1; have hml := C0.2.2.1; have hown := C0.2.2.2.1; have hts := C0.2.2.2.2.1
  refine lv_iload hx hb dL_begins_8 (lv_at hl 4 rfl) ?_
  refine lv_bipush (v := (6 : Int32)) hx hb dL_begins_10 (by decide) ?_
  refine lv_iload_n hx hb dL_begins_12 rfl (lv_at hl 1 rfl) ?_
  refine lv_imul hx hb dL_begins_13 ?_
  refine lv_iload_n hx hb dL_begins_14 rfl (lv_at hl 2 rfl) ?_
  refine lv_iadd hx hb dL_begins_15 ?_
  refine lv_icmp_ge (tgt := 35) hx hb dL_begins_16 (by decide) (fun zc1 => ?_) (fun zc1 => ?_)
  · have hf := ite_t hf zc1
    refine lv_iload_n hx hb dL_begins_35 rfl (lv_at hl 3 rfl) ?_
    obtain rfl := Option.some.inj hf
    exact x_iret C0 hr hw dL_begins_36
  · have hf := ite_f hf zc1
    refine lv_iload_n hx hb dL_begins_19 rfl (lv_at hl 3 rfl) ?_
    refine lv_aload_n hx hb dL_begins_20 rfl (lv_at hl 0 rfl) ?_
    refine lv_iload hx hb dL_begins_21 (lv_at hl 4 rfl) ?_
    obtain ⟨zhb2, hf⟩ := ck_some hf
    refine x_iald C0 hw zt0 zhb2 dL_begins_23 ?_
    refine lv_bipush (v := (64 : Int32)) hx hb dL_begins_24 (by decide) ?_
    refine lv_irem hx hb dL_begins_26 (by decide) ?_
    refine lv_iadd hx hb dL_begins_27 ?_
    refine lv_topi (fun zv3 ezv3 => ?_)
    have hf := lt_at hf ezv3
    refine lv_istore_n (lv' := [(3, .int zv3), (0, .ref zx0), (1, .int zx1), (2, .int zx2), (4, .int zx4)]) hx hb dL_begins_28 rfl hl (by decide) rfl (fun ls hl => ?_)
    obtain ⟨zv4, ezv4⟩ : ∃ y : Int32, y = zx4 + 1 := ⟨_, rfl⟩
    have hf := lt_at hf ezv4
    refine lv_iinc (v := zv4) (lv' := [(4, .int zv4), (3, .int zv3), (0, .ref zx0), (1, .int zx1), (2, .int zx2)]) hx hb dL_begins_29 hl (k := 4) rfl (by rw [ezv4]; rfl) (by decide) rfl (fun ls hl => ?_)
    refine lv_goto (tgt := 8) hx hb dL_begins_32 (by decide) ?_
    exact zhr8 _ _ _ zx0 zx1 zx2 zv3 zv4 zt0 hw (lv_sub hl [2, 3, 4, 1, 0] rfl) hf
theorem w9_begins_8 {p : Program} {l : Launch} {e : Env} {s : State} {m : MethodId} {args : Array Value} {below : List Frame} {meth : Method} {c : Code} {E : EN} {G : GM} {X : Xm} {I : Im} (C0 : CX p s m args meth c E cL_begins RL 5) (hr : meth.sig.returnType = (some .int)) (hz : s.heap.size + 0 ≤ eB E + G.1) {rr : Int32} (fl : Nat) : ∀ (n : Nat) (H : Heap) (locs : List Loc) (ls : Array Slot) (zx0 : Nat) (zx1 : Int32) (zx2 : Int32) (zx3 : Int32) (zx4 : Int32) (zt0 : okA E G 11 zx0), WD E G I X s.heap H locs → lv_has ls 5 [(0, .ref zx0), (1, .int zx1), (2, .int zx2), (3, .int zx3), (4, .int zx4)] → m9_begins_8 fl G.2.2 X I n zx0 zx1 zx2 zx3 zx4 = some rr → W p l e ({ frames := 0, cells := 0, slots := 0, locals := 0 } : Room) s m args below meth c H locs 0 0 (MQ below (QI E G rr I X) args s 0 0 (eA E)) (F0 m 8 ls []) := by
  intro n
  induction n with
  | zero => intro H locs ls zx0 zx1 zx2 zx3 zx4 zt0 hw hl hf; exact absurd (show (none : Option (Int32)) = some rr from hf) (by simp)
  | succ n ih => intro H locs ls zx0 zx1 zx2 zx3 zx4 zt0 hw hl hf; exact w9_begins_8b C0 hr hz fl _ ih H locs ls zx0 zx1 zx2 zx3 zx4 zt0 hw hl hf
noncomputable def m9_begins (fl : Nat) (len : Nat → Nat) (X : Xm) (I : Im) (zx0 : Nat) (zx1 : Int32) (zx2 : Int32) : Option (Int32) :=
  lt (((6 : Int32) * zx1)) fun zv1 =>
  m9_begins_8 fl len X I fl zx0 zx1 zx2 (0 : Int32) zv1
theorem hy9_begins : yL_begins.cls = RL ∧ yL_begins.cls ≠ "java/lang/invoke/MethodHandle" ∧ yL_begins.cls ≠ "java/lang/invoke/VarHandle" ∧ (parseMethodDescriptor yL_begins.desc).map (fun d => d.parameters.length) = some 3 := ⟨rfl, by decide +kernel, by decide +kernel, by decide +kernel⟩
set_option maxHeartbeats 4000000 in
set_option maxRecDepth 100000 in
theorem c9_begins (l : Launch) (E : EN) (G : GM) (fl : Nat) (X : Xm) (I : Im) (zx0 : Nat) (zx1 : Int32) (zx2 : Int32) (zt0 : okA E G 11 zx0) {rr : Int32} (hf : m9_begins fl G.2.2 X I zx0 zx1 zx2 = some rr) : MT l yL_begins cL_begins 5 (some .int) ({ frames := 0, cells := 0, slots := 0, locals := 0 } : Room) E G I X [.ref zx0, .int zx1, .int zx2] (QI E G rr I X) 0 0 := by
  refine Met.ofW (cc := cL_begins) (maxL := 5) (ret := (some .int)) (by decide +kernel) rfl ?_
  intro p e s m args below meth c s₁ B hml hv
  obtain ⟨rfl, hw0, hSE⟩ := hv
  have C0 : CX p s m ([.ref zx0, .int zx1, .int zx2] : List Value).toArray meth c E cL_begins RL 5 := ⟨B.exec, B.bytes, hml, findClass_of_methodNamed B.named, fun w hw => atoms_spec (ws := WS yL_begins cL_begins 5 (some .int)) B.pre w (List.mem_cons_of_mem _ hw), B.notSynchronized, hSE⟩
  have hz : s.heap.size + 0 ≤ eB E + G.1 := Nat.le_of_eq hw0.2.1
  have hw : WD E G I X s.heap s.heap [] := ⟨hw0, va_S.rf⟩
  have hr := B.returns
  have hx := C0.1; have hb := C0.2.1; have hml := C0.2.2.1; have hown := C0.2.2.2.1; have hts := C0.2.2.2.2.1
  have hl := lv_entry ([.ref zx0, .int zx1, .int zx2]) (n := 5) (Nat.le_of_ble_eq_true rfl)
  rw [lg_entry_eq]
  generalize (lg_sl ([.ref zx0, .int zx1, .int zx2]) ++ List.replicate (5 - (lg_sl ([.ref zx0, .int zx1, .int zx2])).length) Slot.unset).toArray = ls at hl ⊢
  have hl : lv_has ls 5 [(0, .ref zx0), (1, .int zx1), (2, .int zx2)] := hl
  unfold m9_begins at hf
  refine lv_iconst (v := (0 : Int32)) hx hb dL_begins_0 (by decide) ?_
  refine lv_istore_n (lv' := [(3, .int (0 : Int32)), (0, .ref zx0), (1, .int zx1), (2, .int zx2)]) hx hb dL_begins_1 rfl hl (by decide) rfl (fun ls hl => ?_)
  refine lv_bipush (v := (6 : Int32)) hx hb dL_begins_2 (by decide) ?_
  refine lv_iload_n hx hb dL_begins_4 rfl (lv_at hl 2 rfl) ?_
  refine lv_imul hx hb dL_begins_5 ?_
  refine lv_topi (fun zv1 ezv1 => ?_)
  have hf := lt_at hf ezv1
  refine lv_istore (lv' := [(4, .int zv1), (3, .int (0 : Int32)), (0, .ref zx0), (1, .int zx1), (2, .int zx2)]) hx hb dL_begins_6 hl (by decide) rfl (fun ls hl => ?_)
  exact w9_begins_8 C0 hr hz fl fl _ _ _ zx0 zx1 zx2 (0 : Int32) zv1 zt0 hw (lv_sub hl [2, 3, 4, 1, 0] rfl) hf
noncomputable def m9_toward_28 (fl : Nat) (len : Nat → Nat) (X : Xm) (I : Im) (zs0 : Int32) : Option (Int32) :=
  some (zs0)
set_option maxHeartbeats 4000000 in
set_option maxRecDepth 100000 in
theorem w9_toward_28 {p : Program} {l : Launch} {e : Env} {s : State} {m : MethodId} {args : Array Value} {below : List Frame} {meth : Method} {c : Code} {E : EN} {G : GM} {X : Xm} {I : Im} (C0 : CX p s m args meth c E cL_toward RL 4) (hr : meth.sig.returnType = (some .int)) (hz : s.heap.size + 0 ≤ eB E + G.1) {rr : Int32} (fl : Nat) : ∀ (H : Heap) (locs : List Loc) (ls : Array Slot) (zs0 : Int32) , WD E G I X s.heap H locs → lv_has ls 4 [] → m9_toward_28 fl G.2.2 X I zs0 = some rr → W p l e ({ frames := 0, cells := 0, slots := 0, locals := 0 } : Room) s m args below meth c H locs 0 0 (MQ below (QI E G rr I X) args s 0 0 (eA E)) (F0 m 28 ls [.int zs0]) := by
  intro H locs ls zs0 hw hl hf
  unfold m9_toward_28 at hf
  have hx := C0.1; have hb := C0.2.1; have hml := C0.2.2.1; have hown := C0.2.2.2.1; have hts := C0.2.2.2.2.1
  obtain rfl := Option.some.inj hf
  exact x_iret C0 hr hw dL_toward_28
noncomputable def m9_toward (fl : Nat) (len : Nat → Nat) (X : Xm) (I : Im) (zx0 : Int32) (zx1 : Int32) (zx2 : Int32) : Option (Int32) :=
  lt ((zx1 - zx0)) fun zv1 =>
  if zv1 ≤ zx2 then
    if (-zx2) ≤ zv1 then
      m9_toward_28 fl len X I zx1
    else
      m9_toward_28 fl len X I (zx0 - zx2)
  else
    m9_toward_28 fl len X I (zx0 + zx2)
theorem hy9_toward : yL_toward.cls = RL ∧ yL_toward.cls ≠ "java/lang/invoke/MethodHandle" ∧ yL_toward.cls ≠ "java/lang/invoke/VarHandle" ∧ (parseMethodDescriptor yL_toward.desc).map (fun d => d.parameters.length) = some 3 := ⟨rfl, by decide +kernel, by decide +kernel, by decide +kernel⟩
set_option maxHeartbeats 4000000 in
set_option maxRecDepth 100000 in
theorem c9_toward (l : Launch) (E : EN) (G : GM) (fl : Nat) (X : Xm) (I : Im) (zx0 : Int32) (zx1 : Int32) (zx2 : Int32) {rr : Int32} (hf : m9_toward fl G.2.2 X I zx0 zx1 zx2 = some rr) : MT l yL_toward cL_toward 4 (some .int) ({ frames := 0, cells := 0, slots := 0, locals := 0 } : Room) E G I X [.int zx0, .int zx1, .int zx2] (QI E G rr I X) 0 0 := by
  refine Met.ofW (cc := cL_toward) (maxL := 4) (ret := (some .int)) (by decide +kernel) rfl ?_
  intro p e s m args below meth c s₁ B hml hv
  obtain ⟨rfl, hw0, hSE⟩ := hv
  have C0 : CX p s m ([.int zx0, .int zx1, .int zx2] : List Value).toArray meth c E cL_toward RL 4 := ⟨B.exec, B.bytes, hml, findClass_of_methodNamed B.named, fun w hw => atoms_spec (ws := WS yL_toward cL_toward 4 (some .int)) B.pre w (List.mem_cons_of_mem _ hw), B.notSynchronized, hSE⟩
  have hz : s.heap.size + 0 ≤ eB E + G.1 := Nat.le_of_eq hw0.2.1
  have hw : WD E G I X s.heap s.heap [] := ⟨hw0, va_S.rf⟩
  have hr := B.returns
  have hx := C0.1; have hb := C0.2.1; have hml := C0.2.2.1; have hown := C0.2.2.2.1; have hts := C0.2.2.2.2.1
  have hl := lv_entry ([.int zx0, .int zx1, .int zx2]) (n := 4) (Nat.le_of_ble_eq_true rfl)
  rw [lg_entry_eq]
  generalize (lg_sl ([.int zx0, .int zx1, .int zx2]) ++ List.replicate (4 - (lg_sl ([.int zx0, .int zx1, .int zx2])).length) Slot.unset).toArray = ls at hl ⊢
  have hl : lv_has ls 4 [(0, .int zx0), (1, .int zx1), (2, .int zx2)] := hl
  unfold m9_toward at hf
  refine lv_iload_n hx hb dL_toward_0 rfl (lv_at hl 1 rfl) ?_
  refine lv_iload_n hx hb dL_toward_1 rfl (lv_at hl 0 rfl) ?_
  refine lv_isub hx hb dL_toward_2 ?_
  refine lv_topi (fun zv1 ezv1 => ?_)
  have hf := lt_at hf ezv1
  refine lv_istore_n (lv' := [(3, .int zv1), (0, .int zx0), (1, .int zx1), (2, .int zx2)]) hx hb dL_toward_3 rfl hl (by decide) rfl (fun ls hl => ?_)
  refine lv_iload_n hx hb dL_toward_4 rfl (lv_at hl 0 rfl) ?_
  refine lv_iload_n hx hb dL_toward_5 rfl (lv_at hl 3 rfl) ?_
  refine lv_icmp_le (tgt := 15) hx hb dL_toward_6 (by decide) (fun zc2 => ?_) (fun zc2 => ?_)
  · have hf := ite_t hf zc2
    refine lv_iload_n hx hb dL_toward_15 rfl (lv_at hl 0 rfl) ?_
    refine lv_iload_n hx hb dL_toward_16 rfl (lv_at hl 3 rfl) ?_
    refine lv_ineg hx hb dL_toward_17 ?_
    refine lv_icmp_ge (tgt := 27) hx hb dL_toward_18 (by decide) (fun zc3 => ?_) (fun zc3 => ?_)
    · have hf := ite_t hf zc3
      refine lv_iload_n hx hb dL_toward_27 rfl (lv_at hl 2 rfl) ?_
      exact w9_toward_28 C0 hr hz fl _ _ _ zx1 hw (lv_sub hl [] rfl) hf
    · have hf := ite_f hf zc3
      refine lv_iload_n hx hb dL_toward_21 rfl (lv_at hl 1 rfl) ?_
      refine lv_iload_n hx hb dL_toward_22 rfl (lv_at hl 3 rfl) ?_
      refine lv_isub hx hb dL_toward_23 ?_
      refine lv_goto (tgt := 28) hx hb dL_toward_24 (by decide) ?_
      exact w9_toward_28 C0 hr hz fl _ _ _ (zx0 - zx2) hw (lv_sub hl [] rfl) hf
  · have hf := ite_f hf zc2
    refine lv_iload_n hx hb dL_toward_9 rfl (lv_at hl 1 rfl) ?_
    refine lv_iload_n hx hb dL_toward_10 rfl (lv_at hl 3 rfl) ?_
    refine lv_iadd hx hb dL_toward_11 ?_
    refine lv_goto (tgt := 28) hx hb dL_toward_12 (by decide) ?_
    exact w9_toward_28 C0 hr hz fl _ _ _ (zx0 + zx2) hw (lv_sub hl [] rfl) hf
noncomputable def m9_comes_245 (fl : Nat) (len : Nat → Nat) (X : Xm) (I : Im) (zs0 : Int32) : Option (Int32 × Im) :=
  some (zs0, I)
set_option maxHeartbeats 4000000 in
set_option maxRecDepth 100000 in
theorem w9_comes_245 {p : Program} {l : Launch} {e : Env} {s : State} {m : MethodId} {args : Array Value} {below : List Frame} {meth : Method} {c : Code} {E : EN} {G : GM} {X : Xm} (C0 : CX p s m args meth c E cL_comes RL 13) (hr : meth.sig.returnType = (some .int)) (hz : s.heap.size + 0 ≤ eB E + G.1) {rr : Int32 × Im} (fl : Nat) : ∀ (I : Im) (H : Heap) (locs : List Loc) (ls : Array Slot) (zs0 : Int32) , WD E G I X s.heap H locs → lv_has ls 13 [] → m9_comes_245 fl G.2.2 X I zs0 = some rr → W p l e ({ frames := 1, cells := 0, slots := 0, locals := 24 } : Room) s m args below meth c H locs 0 0 (MQ below (QI E G rr.1 rr.2 X) args s 0 0 (eA E)) (F0 m 245 ls [.int zs0]) := by
  intro I H locs ls zs0 hw hl hf
  unfold m9_comes_245 at hf
  have hx := C0.1; have hb := C0.2.1; have hml := C0.2.2.1; have hown := C0.2.2.2.1; have hts := C0.2.2.2.2.1
  obtain rfl := Option.some.inj hf
  exact x_iret C0 hr hw dL_comes_245
noncomputable def m9_comes_221 (fl : Nat) (len : Nat → Nat) (X : Xm) (I : Im) (zx1 : Nat) (zx7 : Int32) (zx11 : Int32) : Option (Int32 × Im) :=
  ck (inb zx7 (len zx1) = true) <|
  lt (pA I zx1 (zx7).toNatClampNeg ((gA I zx1 (zx7).toNatClampNeg) + ((2048 : Int32) * zx11))) fun zI2 =>
  if zx11 ≤ (1 : Int32) then
    m9_comes_245 fl len X zI2 (0 : Int32)
  else
    m9_comes_245 fl len X zI2 (1 : Int32)
set_option maxHeartbeats 4000000 in
set_option maxRecDepth 100000 in
theorem w9_comes_221 {p : Program} {l : Launch} {e : Env} {s : State} {m : MethodId} {args : Array Value} {below : List Frame} {meth : Method} {c : Code} {E : EN} {G : GM} {X : Xm} (C0 : CX p s m args meth c E cL_comes RL 13) (hr : meth.sig.returnType = (some .int)) (hz : s.heap.size + 0 ≤ eB E + G.1) {rr : Int32 × Im} (fl : Nat) : ∀ (I : Im) (H : Heap) (locs : List Loc) (ls : Array Slot) (zx1 : Nat) (zx7 : Int32) (zx11 : Int32) (zt1 : okA E G 11 zx1), WD E G I X s.heap H locs → lv_has ls 13 [(1, .ref zx1), (7, .int zx7), (11, .int zx11)] → m9_comes_221 fl G.2.2 X I zx1 zx7 zx11 = some rr → W p l e ({ frames := 1, cells := 0, slots := 0, locals := 24 } : Room) s m args below meth c H locs 0 0 (MQ below (QI E G rr.1 rr.2 X) args s 0 0 (eA E)) (F0 m 221 ls []) := by
  intro I H locs ls zx1 zx7 zx11 zt1 hw hl hf
  unfold m9_comes_221 at hf
  have hx := C0.1; have hb := C0.2.1; have hml := C0.2.2.1; have hown := C0.2.2.2.1; have hts := C0.2.2.2.2.1
  refine lv_aload_n hx hb dL_comes_221 rfl (lv_at hl 0 rfl) ?_
  refine lv_iload hx hb dL_comes_222 (lv_at hl 1 rfl) ?_
  refine lv_dup2_11 hx hb dL_comes_224 rfl rfl ?_
  obtain ⟨zhb1, hf⟩ := ck_some hf
  refine x_iald C0 hw zt1 zhb1 dL_comes_225 ?_
  refine lv_sipush (v := (2048 : Int32)) hx hb dL_comes_226 (by decide) ?_
  refine lv_iload hx hb dL_comes_229 (lv_at hl 2 rfl) ?_
  refine lv_imul hx hb dL_comes_231 ?_
  refine lv_iadd hx hb dL_comes_232 ?_
  obtain ⟨zI2, ezI2⟩ : ∃ y : Im, y = pA I zx1 (zx7).toNatClampNeg ((gA I zx1 (zx7).toNatClampNeg) + ((2048 : Int32) * zx11)) := ⟨_, rfl⟩
  have hf := lt_at hf ezI2
  refine x_iast C0 hz hw zt1 zhb1 dL_comes_233 ezI2 (fun H locs hw => ?_)
  refine lv_iload hx hb dL_comes_234 (lv_at hl 2 rfl) ?_
  refine lv_iconst (v := (1 : Int32)) hx hb dL_comes_236 (by decide) ?_
  refine lv_icmp_le (tgt := 244) hx hb dL_comes_237 (by decide) (fun zc3 => ?_) (fun zc3 => ?_)
  · have hf := ite_t hf zc3
    refine lv_iconst (v := (0 : Int32)) hx hb dL_comes_244 (by decide) ?_
    exact w9_comes_245 C0 hr hz fl zI2 _ _ _ (0 : Int32) hw (lv_sub hl [] rfl) hf
  · have hf := ite_f hf zc3
    refine lv_iconst (v := (1 : Int32)) hx hb dL_comes_240 (by decide) ?_
    refine lv_goto (tgt := 245) hx hb dL_comes_241 (by decide) ?_
    exact w9_comes_245 C0 hr hz fl zI2 _ _ _ (1 : Int32) hw (lv_sub hl [] rfl) hf
noncomputable def m9_comes_209 (fl : Nat) (len : Nat → Nat) (X : Xm) (I : Im) (zx1 : Nat) (zx3 : Nat) (zx7 : Int32) (zx11 : Int32) (zx12 : Int32) (zs0 : Nat) (zs1 : Int32) (zs2 : Int32) (zs3 : Int32) : Option (Int32 × Im) :=
  ck (inb zs1 (len zs0) = true) <|
  lt (pA I zs0 (zs1).toNatClampNeg (zs2 + zs3)) fun zI2 =>
  ck (inb zx12 (len zx3) = true) <|
  lt (pA zI2 zx3 (zx12).toNatClampNeg ((gA zI2 zx3 (zx12).toNatClampNeg) + (8192 : Int32))) fun zI4 =>
  m9_comes_221 fl len X zI4 zx1 zx7 zx11
set_option maxHeartbeats 4000000 in
set_option maxRecDepth 100000 in
theorem w9_comes_209 {p : Program} {l : Launch} {e : Env} {s : State} {m : MethodId} {args : Array Value} {below : List Frame} {meth : Method} {c : Code} {E : EN} {G : GM} {X : Xm} (C0 : CX p s m args meth c E cL_comes RL 13) (hr : meth.sig.returnType = (some .int)) (hz : s.heap.size + 0 ≤ eB E + G.1) {rr : Int32 × Im} (fl : Nat) : ∀ (I : Im) (H : Heap) (locs : List Loc) (ls : Array Slot) (zx1 : Nat) (zx3 : Nat) (zx7 : Int32) (zx11 : Int32) (zx12 : Int32) (zs0 : Nat) (zs1 : Int32) (zs2 : Int32) (zs3 : Int32) (zt1 : okA E G 11 zx1) (zt3 : okA E G 11 zx3) (zts0 : okA E G 11 zs0), WD E G I X s.heap H locs → lv_has ls 13 [(1, .ref zx1), (3, .ref zx3), (7, .int zx7), (11, .int zx11), (12, .int zx12)] → m9_comes_209 fl G.2.2 X I zx1 zx3 zx7 zx11 zx12 zs0 zs1 zs2 zs3 = some rr → W p l e ({ frames := 1, cells := 0, slots := 0, locals := 24 } : Room) s m args below meth c H locs 0 0 (MQ below (QI E G rr.1 rr.2 X) args s 0 0 (eA E)) (F0 m 209 ls [.int zs3, .int zs2, .int zs1, .ref zs0]) := by
  intro I H locs ls zx1 zx3 zx7 zx11 zx12 zs0 zs1 zs2 zs3 zt1 zt3 zts0 hw hl hf
  unfold m9_comes_209 at hf
  have hx := C0.1; have hb := C0.2.1; have hml := C0.2.2.1; have hown := C0.2.2.2.1; have hts := C0.2.2.2.2.1
  refine lv_iadd hx hb dL_comes_209 ?_
  obtain ⟨zhb1, hf⟩ := ck_some hf
  obtain ⟨zI2, ezI2⟩ : ∃ y : Im, y = pA I zs0 (zs1).toNatClampNeg (zs2 + zs3) := ⟨_, rfl⟩
  have hf := lt_at hf ezI2
  refine x_iast C0 hz hw zts0 zhb1 dL_comes_210 ezI2 (fun H locs hw => ?_)
  refine lv_aload_n hx hb dL_comes_211 rfl (lv_at hl 1 rfl) ?_
  refine lv_iload hx hb dL_comes_212 (lv_at hl 4 rfl) ?_
  refine lv_dup2_11 hx hb dL_comes_214 rfl rfl ?_
  obtain ⟨zhb3, hf⟩ := ck_some hf
  refine x_iald C0 hw zt3 zhb3 dL_comes_215 ?_
  refine lv_sipush (v := (8192 : Int32)) hx hb dL_comes_216 (by decide) ?_
  refine lv_iadd hx hb dL_comes_219 ?_
  obtain ⟨zI4, ezI4⟩ : ∃ y : Im, y = pA zI2 zx3 (zx12).toNatClampNeg ((gA zI2 zx3 (zx12).toNatClampNeg) + (8192 : Int32)) := ⟨_, rfl⟩
  have hf := lt_at hf ezI4
  refine x_iast C0 hz hw zt3 zhb3 dL_comes_220 ezI4 (fun H locs hw => ?_)
  exact w9_comes_221 C0 hr hz fl zI4 _ _ _ zx1 zx7 zx11 zt1 hw (lv_sub hl [0, 2, 3] rfl) hf
noncomputable def m9_comes_130 (fl : Nat) (len : Nat → Nat) (X : Xm) (I : Im) (zx0 : Nat) (zx1 : Nat) (zx2 : Nat) (zx3 : Nat) (zx6 : Nat) (zx7 : Int32) (zx8 : Int32) (zx9 : Int32) (zx10 : Int32) (zs0 : Int32) : Option (Int32 × Im) :=
  if zx8 = 0 then
    if zs0 = (1 : Int32) then
      lt ((((6 : Int32) * zx9) + zx10)) fun zv3 =>
      ck (inb (((4 : Int32) * zx9) + (1 : Int32)) (len zx2) = true) <|
      lt (pA I zx2 ((((4 : Int32) * zx9) + (1 : Int32))).toNatClampNeg (zx10 + (1 : Int32))) fun zI5 =>
      ck (inb zv3 (len zx3) = true) <|
      ck (inb (((4 : Int32) * zx9) + (2 : Int32)) (len zx2) = true) <|
      lt (pA zI5 zx2 ((((4 : Int32) * zx9) + (2 : Int32))).toNatClampNeg ((gA zI5 zx3 (zv3).toNatClampNeg) - (gA zI5 zx3 (zv3).toNatClampNeg) / (64 : Int32) * (64 : Int32))) fun zI8 =>
      ck (inb (7 : Int32) (len zx0) = true) <|
      ck (inb (gA zI8 zx0 ((7 : Int32)).toNatClampNeg) (len zx6) = true) <|
      lt (pA zI8 zx6 ((gA zI8 zx0 ((7 : Int32)).toNatClampNeg)).toNatClampNeg zv3) fun zI11 =>
      if (8192 : Int32) ≤ (gA zI11 zx3 (zv3).toNatClampNeg) then
        m9_comes_209 fl len X zI11 zx1 zx3 zx7 zs0 zv3 zx0 (7 : Int32) (gA zI11 zx0 ((7 : Int32)).toNatClampNeg) (0 : Int32)
      else
        m9_comes_209 fl len X zI11 zx1 zx3 zx7 zs0 zv3 zx0 (7 : Int32) (gA zI11 zx0 ((7 : Int32)).toNatClampNeg) (1 : Int32)
    else
      m9_comes_221 fl len X I zx1 zx7 zs0
  else
    m9_comes_221 fl len X I zx1 zx7 zs0
set_option maxHeartbeats 4000000 in
set_option maxRecDepth 100000 in
theorem w9_comes_130 {p : Program} {l : Launch} {e : Env} {s : State} {m : MethodId} {args : Array Value} {below : List Frame} {meth : Method} {c : Code} {E : EN} {G : GM} {X : Xm} (C0 : CX p s m args meth c E cL_comes RL 13) (hr : meth.sig.returnType = (some .int)) (hz : s.heap.size + 0 ≤ eB E + G.1) {rr : Int32 × Im} (fl : Nat) : ∀ (I : Im) (H : Heap) (locs : List Loc) (ls : Array Slot) (zx0 : Nat) (zx1 : Nat) (zx2 : Nat) (zx3 : Nat) (zx6 : Nat) (zx7 : Int32) (zx8 : Int32) (zx9 : Int32) (zx10 : Int32) (zs0 : Int32) (zt0 : okA E G 11 zx0) (zt1 : okA E G 11 zx1) (zt2 : okA E G 11 zx2) (zt3 : okA E G 11 zx3) (zt6 : okA E G 11 zx6), WD E G I X s.heap H locs → lv_has ls 13 [(0, .ref zx0), (1, .ref zx1), (2, .ref zx2), (3, .ref zx3), (6, .ref zx6), (7, .int zx7), (8, .int zx8), (9, .int zx9), (10, .int zx10)] → m9_comes_130 fl G.2.2 X I zx0 zx1 zx2 zx3 zx6 zx7 zx8 zx9 zx10 zs0 = some rr → W p l e ({ frames := 1, cells := 0, slots := 0, locals := 24 } : Room) s m args below meth c H locs 0 0 (MQ below (QI E G rr.1 rr.2 X) args s 0 0 (eA E)) (F0 m 130 ls [.int zs0]) := by
  intro I H locs ls zx0 zx1 zx2 zx3 zx6 zx7 zx8 zx9 zx10 zs0 zt0 zt1 zt2 zt3 zt6 hw hl hf
  unfold m9_comes_130 at hf
  have hx := C0.1; have hb := C0.2.1; have hml := C0.2.2.1; have hown := C0.2.2.2.1; have hts := C0.2.2.2.2.1
  refine lv_istore (lv' := [(11, .int zs0), (0, .ref zx0), (1, .ref zx1), (2, .ref zx2), (3, .ref zx3), (6, .ref zx6), (7, .int zx7), (8, .int zx8), (9, .int zx9), (10, .int zx10)]) hx hb dL_comes_130 hl (by decide) rfl (fun ls hl => ?_)
  refine lv_iload hx hb dL_comes_132 (lv_at hl 7 rfl) ?_
  refine lv_if_ne (tgt := 221) hx hb dL_comes_134 (by decide) (fun zc1 => ?_) (fun zc1 => ?_)
  · have hf := ite_f hf zc1
    exact w9_comes_221 C0 hr hz fl I _ _ _ zx1 zx7 zs0 zt1 hw (lv_sub hl [2, 6, 0] rfl) hf
  · have hf := ite_t hf zc1
    refine lv_iload hx hb dL_comes_137 (lv_at hl 0 rfl) ?_
    refine lv_iconst (v := (1 : Int32)) hx hb dL_comes_139 (by decide) ?_
    refine lv_icmp_ne (tgt := 221) hx hb dL_comes_140 (by decide) (fun zc2 => ?_) (fun zc2 => ?_)
    · have hf := ite_f hf zc2
      exact w9_comes_221 C0 hr hz fl I _ _ _ zx1 zx7 zs0 zt1 hw (lv_sub hl [2, 6, 0] rfl) hf
    · have hf := ite_t hf zc2
      refine lv_bipush (v := (6 : Int32)) hx hb dL_comes_143 (by decide) ?_
      refine lv_iload hx hb dL_comes_145 (lv_at hl 8 rfl) ?_
      refine lv_imul hx hb dL_comes_147 ?_
      refine lv_iload hx hb dL_comes_148 (lv_at hl 9 rfl) ?_
      refine lv_iadd hx hb dL_comes_150 ?_
      refine lv_topi (fun zv3 ezv3 => ?_)
      have hf := lt_at hf ezv3
      refine lv_istore (lv' := [(12, .int zv3), (11, .int zs0), (0, .ref zx0), (1, .ref zx1), (2, .ref zx2), (3, .ref zx3), (6, .ref zx6), (7, .int zx7), (8, .int zx8), (9, .int zx9), (10, .int zx10)]) hx hb dL_comes_151 hl (by decide) rfl (fun ls hl => ?_)
      refine lv_aload_n hx hb dL_comes_153 rfl (lv_at hl 4 rfl) ?_
      refine lv_iconst (v := (4 : Int32)) hx hb dL_comes_154 (by decide) ?_
      refine lv_iload hx hb dL_comes_155 (lv_at hl 9 rfl) ?_
      refine lv_imul hx hb dL_comes_157 ?_
      refine lv_iconst (v := (1 : Int32)) hx hb dL_comes_158 (by decide) ?_
      refine lv_iadd hx hb dL_comes_159 ?_
      refine lv_iload hx hb dL_comes_160 (lv_at hl 10 rfl) ?_
      refine lv_iconst (v := (1 : Int32)) hx hb dL_comes_162 (by decide) ?_
      refine lv_iadd hx hb dL_comes_163 ?_
      obtain ⟨zhb4, hf⟩ := ck_some hf
      obtain ⟨zI5, ezI5⟩ : ∃ y : Im, y = pA I zx2 ((((4 : Int32) * zx9) + (1 : Int32))).toNatClampNeg (zx10 + (1 : Int32)) := ⟨_, rfl⟩
      have hf := lt_at hf ezI5
      refine x_iast C0 hz hw zt2 zhb4 dL_comes_164 ezI5 (fun H locs hw => ?_)
      refine lv_aload_n hx hb dL_comes_165 rfl (lv_at hl 4 rfl) ?_
      refine lv_iconst (v := (4 : Int32)) hx hb dL_comes_166 (by decide) ?_
      refine lv_iload hx hb dL_comes_167 (lv_at hl 9 rfl) ?_
      refine lv_imul hx hb dL_comes_169 ?_
      refine lv_iconst (v := (2 : Int32)) hx hb dL_comes_170 (by decide) ?_
      refine lv_iadd hx hb dL_comes_171 ?_
      refine lv_aload_n hx hb dL_comes_172 rfl (lv_at hl 5 rfl) ?_
      refine lv_iload hx hb dL_comes_173 (lv_at hl 0 rfl) ?_
      obtain ⟨zhb6, hf⟩ := ck_some hf
      refine x_iald C0 hw zt3 zhb6 dL_comes_175 ?_
      refine lv_bipush (v := (64 : Int32)) hx hb dL_comes_176 (by decide) ?_
      refine lv_irem hx hb dL_comes_178 (by decide) ?_
      obtain ⟨zhb7, hf⟩ := ck_some hf
      obtain ⟨zI8, ezI8⟩ : ∃ y : Im, y = pA zI5 zx2 ((((4 : Int32) * zx9) + (2 : Int32))).toNatClampNeg ((gA zI5 zx3 (zv3).toNatClampNeg) - (gA zI5 zx3 (zv3).toNatClampNeg) / (64 : Int32) * (64 : Int32)) := ⟨_, rfl⟩
      have hf := lt_at hf ezI8
      refine x_iast C0 hz hw zt2 zhb7 dL_comes_179 ezI8 (fun H locs hw => ?_)
      refine lv_aload hx hb dL_comes_180 (lv_at hl 6 rfl) ?_
      refine lv_aload_n hx hb dL_comes_182 rfl (lv_at hl 2 rfl) ?_
      refine lv_bipush (v := (7 : Int32)) hx hb dL_comes_183 (by decide) ?_
      obtain ⟨zhb9, hf⟩ := ck_some hf
      refine x_iald C0 hw zt0 zhb9 dL_comes_185 ?_
      refine lv_iload hx hb dL_comes_186 (lv_at hl 0 rfl) ?_
      obtain ⟨zhb10, hf⟩ := ck_some hf
      obtain ⟨zI11, ezI11⟩ : ∃ y : Im, y = pA zI8 zx6 ((gA zI8 zx0 ((7 : Int32)).toNatClampNeg)).toNatClampNeg zv3 := ⟨_, rfl⟩
      have hf := lt_at hf ezI11
      refine x_iast C0 hz hw zt6 zhb10 dL_comes_188 ezI11 (fun H locs hw => ?_)
      refine lv_aload_n hx hb dL_comes_189 rfl (lv_at hl 2 rfl) ?_
      refine lv_bipush (v := (7 : Int32)) hx hb dL_comes_190 (by decide) ?_
      refine lv_dup2_11 hx hb dL_comes_192 rfl rfl ?_
      refine x_iald C0 hw zt0 zhb9 dL_comes_193 ?_
      refine lv_aload_n hx hb dL_comes_194 rfl (lv_at hl 5 rfl) ?_
      refine lv_iload hx hb dL_comes_195 (lv_at hl 0 rfl) ?_
      refine x_iald C0 hw zt3 zhb6 dL_comes_197 ?_
      refine lv_sipush (v := (8192 : Int32)) hx hb dL_comes_198 (by decide) ?_
      refine lv_icmp_ge (tgt := 208) hx hb dL_comes_201 (by decide) (fun zc12 => ?_) (fun zc12 => ?_)
      · have hf := ite_t hf zc12
        refine lv_iconst (v := (0 : Int32)) hx hb dL_comes_208 (by decide) ?_
        exact w9_comes_209 C0 hr hz fl zI11 _ _ _ zx1 zx3 zx7 zs0 zv3 zx0 (7 : Int32) (gA zI11 zx0 ((7 : Int32)).toNatClampNeg) (0 : Int32) zt1 zt3 zt0 hw (lv_sub hl [3, 5, 7, 1, 0] rfl) hf
      · have hf := ite_f hf zc12
        refine lv_iconst (v := (1 : Int32)) hx hb dL_comes_204 (by decide) ?_
        refine lv_goto (tgt := 209) hx hb dL_comes_205 (by decide) ?_
        exact w9_comes_209 C0 hr hz fl zI11 _ _ _ zx1 zx3 zx7 zs0 zv3 zx0 (7 : Int32) (gA zI11 zx0 ((7 : Int32)).toNatClampNeg) (1 : Int32) zt1 zt3 zt0 hw (lv_sub hl [3, 5, 7, 1, 0] rfl) hf
noncomputable def m9_comes_84 (fl : Nat) (len : Nat → Nat) (X : Xm) (I : Im) (zx0 : Nat) (zx1 : Nat) (zx2 : Nat) (zx3 : Nat) (zx6 : Nat) (zx7 : Int32) (zx8 : Int32) (zx9 : Int32) (zx10 : Int32) : Option (Int32 × Im) :=
  if zx8 ≤ 0 then
    ck (inb (((4 : Int32) * zx9) + (1 : Int32)) (len zx2) = true) <|
    if (gA I zx2 ((((4 : Int32) * zx9) + (1 : Int32))).toNatClampNeg) ≤ 0 then
      ck (inb ((4 : Int32) * zx9) (len zx2) = true) <|
      nn (m9_begins fl len X I zx3 zx9 zx10) fun zv5 =>
      if (gA I zx2 (((4 : Int32) * zx9)).toNatClampNeg) = zv5 then
        m9_comes_130 fl len X I zx0 zx1 zx2 zx3 zx6 zx7 zx8 zx9 zx10 (1 : Int32)
      else
        m9_comes_130 fl len X I zx0 zx1 zx2 zx3 zx6 zx7 zx8 zx9 zx10 (3 : Int32)
    else
      m9_comes_130 fl len X I zx0 zx1 zx2 zx3 zx6 zx7 zx8 zx9 zx10 (2 : Int32)
  else
    m9_comes_130 fl len X I zx0 zx1 zx2 zx3 zx6 zx7 zx8 zx9 zx10 (1 : Int32)
set_option maxHeartbeats 4000000 in
set_option maxRecDepth 100000 in
theorem w9_comes_84 {p : Program} {l : Launch} {e : Env} {s : State} {m : MethodId} {args : Array Value} {below : List Frame} {meth : Method} {c : Code} {E : EN} {G : GM} {X : Xm} (C0 : CX p s m args meth c E cL_comes RL 13) (hr : meth.sig.returnType = (some .int)) (hz : s.heap.size + 0 ≤ eB E + G.1) {rr : Int32 × Im} (fl : Nat) : ∀ (I : Im) (H : Heap) (locs : List Loc) (ls : Array Slot) (zx0 : Nat) (zx1 : Nat) (zx2 : Nat) (zx3 : Nat) (zx6 : Nat) (zx7 : Int32) (zx8 : Int32) (zx9 : Int32) (zx10 : Int32) (zt0 : okA E G 11 zx0) (zt1 : okA E G 11 zx1) (zt2 : okA E G 11 zx2) (zt3 : okA E G 11 zx3) (zt6 : okA E G 11 zx6), WD E G I X s.heap H locs → lv_has ls 13 [(0, .ref zx0), (1, .ref zx1), (2, .ref zx2), (3, .ref zx3), (6, .ref zx6), (7, .int zx7), (8, .int zx8), (9, .int zx9), (10, .int zx10)] → m9_comes_84 fl G.2.2 X I zx0 zx1 zx2 zx3 zx6 zx7 zx8 zx9 zx10 = some rr → W p l e ({ frames := 1, cells := 0, slots := 0, locals := 24 } : Room) s m args below meth c H locs 0 0 (MQ below (QI E G rr.1 rr.2 X) args s 0 0 (eA E)) (F0 m 84 ls []) := by
  intro I H locs ls zx0 zx1 zx2 zx3 zx6 zx7 zx8 zx9 zx10 zt0 zt1 zt2 zt3 zt6 hw hl hf
  unfold m9_comes_84 at hf
  have hx := C0.1; have hb := C0.2.1; have hml := C0.2.2.1; have hown := C0.2.2.2.1; have hts := C0.2.2.2.2.1
  refine lv_iload hx hb dL_comes_84 (lv_at hl 6 rfl) ?_
  refine lv_if_le (tgt := 93) hx hb dL_comes_86 (by decide) (fun zc1 => ?_) (fun zc1 => ?_)
  · have hf := ite_t hf zc1
    refine lv_aload_n hx hb dL_comes_93 rfl (lv_at hl 2 rfl) ?_
    refine lv_iconst (v := (4 : Int32)) hx hb dL_comes_94 (by decide) ?_
    refine lv_iload hx hb dL_comes_95 (lv_at hl 7 rfl) ?_
    refine lv_imul hx hb dL_comes_97 ?_
    refine lv_iconst (v := (1 : Int32)) hx hb dL_comes_98 (by decide) ?_
    refine lv_iadd hx hb dL_comes_99 ?_
    obtain ⟨zhb2, hf⟩ := ck_some hf
    refine x_iald C0 hw zt2 zhb2 dL_comes_100 ?_
    refine lv_if_le (tgt := 108) hx hb dL_comes_101 (by decide) (fun zc3 => ?_) (fun zc3 => ?_)
    · have hf := ite_t hf zc3
      refine lv_aload_n hx hb dL_comes_108 rfl (lv_at hl 2 rfl) ?_
      refine lv_iconst (v := (4 : Int32)) hx hb dL_comes_109 (by decide) ?_
      refine lv_iload hx hb dL_comes_110 (lv_at hl 7 rfl) ?_
      refine lv_imul hx hb dL_comes_112 ?_
      obtain ⟨zhb4, hf⟩ := ck_some hf
      refine x_iald C0 hw zt2 zhb4 dL_comes_113 ?_
      refine lv_aload_n hx hb dL_comes_114 rfl (lv_at hl 3 rfl) ?_
      refine lv_iload hx hb dL_comes_115 (lv_at hl 7 rfl) ?_
      refine lv_iload hx hb dL_comes_117 (lv_at hl 8 rfl) ?_
      obtain ⟨zv5, ze6, hf⟩ := nn_some hf
      refine x_ci (r := zv5) (I1 := I) (X1 := X) (x_runS (As := [.ref zx3, .int zx9, .int zx10]) (rest := [.int (gA I zx2 (((4 : Int32) * zx9)).toNatClampNeg)]) C0 (c9_begins l E G fl X I zx3 zx9 zx10 zt3 ze6) hw wd80 wd420 wd421 wd422 ⟨rfl, rfl⟩ hy9_begins ⟨Nat.le_of_ble_eq_true rfl, Nat.le_of_ble_eq_true rfl⟩ rfl hl.1 (Nat.le_of_ble_eq_true rfl) ⟨Nat.zero_le _, Nat.zero_le _⟩ dL_comes_119) hw (fun H locs hw => ?_)
      refine lv_icmp_ne (tgt := 129) hx hb dL_comes_122 (by decide) (fun zc7 => ?_) (fun zc7 => ?_)
      · have hf := ite_f hf zc7
        refine lv_iconst (v := (3 : Int32)) hx hb dL_comes_129 (by decide) ?_
        exact w9_comes_130 C0 hr hz fl I _ _ _ zx0 zx1 zx2 zx3 zx6 zx7 zx8 zx9 zx10 (3 : Int32) zt0 zt1 zt2 zt3 zt6 hw (lv_sub hl [0, 1, 2, 3, 4, 5, 6, 7, 8] rfl) hf
      · have hf := ite_t hf zc7
        refine lv_iconst (v := (1 : Int32)) hx hb dL_comes_125 (by decide) ?_
        refine lv_goto (tgt := 130) hx hb dL_comes_126 (by decide) ?_
        exact w9_comes_130 C0 hr hz fl I _ _ _ zx0 zx1 zx2 zx3 zx6 zx7 zx8 zx9 zx10 (1 : Int32) zt0 zt1 zt2 zt3 zt6 hw (lv_sub hl [0, 1, 2, 3, 4, 5, 6, 7, 8] rfl) hf
    · have hf := ite_f hf zc3
      refine lv_iconst (v := (2 : Int32)) hx hb dL_comes_104 (by decide) ?_
      refine lv_goto (tgt := 130) hx hb dL_comes_105 (by decide) ?_
      exact w9_comes_130 C0 hr hz fl I _ _ _ zx0 zx1 zx2 zx3 zx6 zx7 zx8 zx9 zx10 (2 : Int32) zt0 zt1 zt2 zt3 zt6 hw (lv_sub hl [0, 1, 2, 3, 4, 5, 6, 7, 8] rfl) hf
  · have hf := ite_f hf zc1
    refine lv_iconst (v := (1 : Int32)) hx hb dL_comes_89 (by decide) ?_
    refine lv_goto (tgt := 130) hx hb dL_comes_90 (by decide) ?_
    exact w9_comes_130 C0 hr hz fl I _ _ _ zx0 zx1 zx2 zx3 zx6 zx7 zx8 zx9 zx10 (1 : Int32) zt0 zt1 zt2 zt3 zt6 hw (lv_sub hl [0, 1, 2, 3, 4, 5, 6, 7, 8] rfl) hf
noncomputable def m9_comes_48 (fl : Nat) (len : Nat → Nat) (X : Xm) (I : Im) (zx0 : Nat) (zx1 : Nat) (zx2 : Nat) (zx3 : Nat) (zx5 : Nat) (zx6 : Nat) (zx7 : Int32) (zx8 : Int32) (zx9 : Int32) (zx10 : Int32) : Option (Int32 × Im) :=
  if zx8 = (1 : Int32) then
    ck (inb (6 : Int32) (len zx0) = true) <|
    ck (inb (1 : Int32) (len zx0) = true) <|
    ck (inb (gA I zx0 ((6 : Int32)).toNatClampNeg) (len zx5) = true) <|
    lt (pA I zx5 ((gA I zx0 ((6 : Int32)).toNatClampNeg)).toNatClampNeg ((zx9 + ((4 : Int32) * zx10)) + ((512 : Int32) * (gA I zx0 ((1 : Int32)).toNatClampNeg)))) fun zI5 =>
    lt (pA zI5 zx0 ((6 : Int32)).toNatClampNeg ((gA zI5 zx0 ((6 : Int32)).toNatClampNeg) + (1 : Int32))) fun zI6 =>
    m9_comes_84 fl len X zI6 zx0 zx1 zx2 zx3 zx6 zx7 zx8 zx9 zx10
  else
    m9_comes_84 fl len X I zx0 zx1 zx2 zx3 zx6 zx7 zx8 zx9 zx10
set_option maxHeartbeats 4000000 in
set_option maxRecDepth 100000 in
theorem w9_comes_48 {p : Program} {l : Launch} {e : Env} {s : State} {m : MethodId} {args : Array Value} {below : List Frame} {meth : Method} {c : Code} {E : EN} {G : GM} {X : Xm} (C0 : CX p s m args meth c E cL_comes RL 13) (hr : meth.sig.returnType = (some .int)) (hz : s.heap.size + 0 ≤ eB E + G.1) {rr : Int32 × Im} (fl : Nat) : ∀ (I : Im) (H : Heap) (locs : List Loc) (ls : Array Slot) (zx0 : Nat) (zx1 : Nat) (zx2 : Nat) (zx3 : Nat) (zx5 : Nat) (zx6 : Nat) (zx7 : Int32) (zx8 : Int32) (zx9 : Int32) (zx10 : Int32) (zt0 : okA E G 11 zx0) (zt1 : okA E G 11 zx1) (zt2 : okA E G 11 zx2) (zt3 : okA E G 11 zx3) (zt5 : okA E G 11 zx5) (zt6 : okA E G 11 zx6), WD E G I X s.heap H locs → lv_has ls 13 [(0, .ref zx0), (1, .ref zx1), (2, .ref zx2), (3, .ref zx3), (5, .ref zx5), (6, .ref zx6), (7, .int zx7), (8, .int zx8), (9, .int zx9), (10, .int zx10)] → m9_comes_48 fl G.2.2 X I zx0 zx1 zx2 zx3 zx5 zx6 zx7 zx8 zx9 zx10 = some rr → W p l e ({ frames := 1, cells := 0, slots := 0, locals := 24 } : Room) s m args below meth c H locs 0 0 (MQ below (QI E G rr.1 rr.2 X) args s 0 0 (eA E)) (F0 m 48 ls []) := by
  intro I H locs ls zx0 zx1 zx2 zx3 zx5 zx6 zx7 zx8 zx9 zx10 zt0 zt1 zt2 zt3 zt5 zt6 hw hl hf
  unfold m9_comes_48 at hf
  have hx := C0.1; have hb := C0.2.1; have hml := C0.2.2.1; have hown := C0.2.2.2.1; have hts := C0.2.2.2.2.1
  refine lv_iload hx hb dL_comes_48 (lv_at hl 7 rfl) ?_
  refine lv_iconst (v := (1 : Int32)) hx hb dL_comes_50 (by decide) ?_
  refine lv_icmp_ne (tgt := 84) hx hb dL_comes_51 (by decide) (fun zc1 => ?_) (fun zc1 => ?_)
  · have hf := ite_f hf zc1
    exact w9_comes_84 C0 hr hz fl I _ _ _ zx0 zx1 zx2 zx3 zx6 zx7 zx8 zx9 zx10 zt0 zt1 zt2 zt3 zt6 hw (lv_sub hl [0, 1, 2, 3, 5, 6, 7, 8, 9] rfl) hf
  · have hf := ite_t hf zc1
    refine lv_aload hx hb dL_comes_54 (lv_at hl 4 rfl) ?_
    refine lv_aload_n hx hb dL_comes_56 rfl (lv_at hl 0 rfl) ?_
    refine lv_bipush (v := (6 : Int32)) hx hb dL_comes_57 (by decide) ?_
    obtain ⟨zhb2, hf⟩ := ck_some hf
    refine x_iald C0 hw zt0 zhb2 dL_comes_59 ?_
    refine lv_iload hx hb dL_comes_60 (lv_at hl 8 rfl) ?_
    refine lv_iconst (v := (4 : Int32)) hx hb dL_comes_62 (by decide) ?_
    refine lv_iload hx hb dL_comes_63 (lv_at hl 9 rfl) ?_
    refine lv_imul hx hb dL_comes_65 ?_
    refine lv_iadd hx hb dL_comes_66 ?_
    refine lv_sipush (v := (512 : Int32)) hx hb dL_comes_67 (by decide) ?_
    refine lv_aload_n hx hb dL_comes_70 rfl (lv_at hl 0 rfl) ?_
    refine lv_iconst (v := (1 : Int32)) hx hb dL_comes_71 (by decide) ?_
    obtain ⟨zhb3, hf⟩ := ck_some hf
    refine x_iald C0 hw zt0 zhb3 dL_comes_72 ?_
    refine lv_imul hx hb dL_comes_73 ?_
    refine lv_iadd hx hb dL_comes_74 ?_
    obtain ⟨zhb4, hf⟩ := ck_some hf
    obtain ⟨zI5, ezI5⟩ : ∃ y : Im, y = pA I zx5 ((gA I zx0 ((6 : Int32)).toNatClampNeg)).toNatClampNeg ((zx9 + ((4 : Int32) * zx10)) + ((512 : Int32) * (gA I zx0 ((1 : Int32)).toNatClampNeg))) := ⟨_, rfl⟩
    have hf := lt_at hf ezI5
    refine x_iast C0 hz hw zt5 zhb4 dL_comes_75 ezI5 (fun H locs hw => ?_)
    refine lv_aload_n hx hb dL_comes_76 rfl (lv_at hl 0 rfl) ?_
    refine lv_bipush (v := (6 : Int32)) hx hb dL_comes_77 (by decide) ?_
    refine lv_dup2_11 hx hb dL_comes_79 rfl rfl ?_
    refine x_iald C0 hw zt0 zhb2 dL_comes_80 ?_
    refine lv_iconst (v := (1 : Int32)) hx hb dL_comes_81 (by decide) ?_
    refine lv_iadd hx hb dL_comes_82 ?_
    obtain ⟨zI6, ezI6⟩ : ∃ y : Im, y = pA zI5 zx0 ((6 : Int32)).toNatClampNeg ((gA zI5 zx0 ((6 : Int32)).toNatClampNeg) + (1 : Int32)) := ⟨_, rfl⟩
    have hf := lt_at hf ezI6
    refine x_iast C0 hz hw zt0 zhb2 dL_comes_83 ezI6 (fun H locs hw => ?_)
    exact w9_comes_84 C0 hr hz fl zI6 _ _ _ zx0 zx1 zx2 zx3 zx6 zx7 zx8 zx9 zx10 zt0 zt1 zt2 zt3 zt6 hw (lv_sub hl [0, 1, 2, 3, 5, 6, 7, 8, 9] rfl) hf
noncomputable def m9_comes (fl : Nat) (len : Nat → Nat) (X : Xm) (I : Im) (zx0 : Nat) (zx1 : Nat) (zx2 : Nat) (zx3 : Nat) (zx4 : Nat) (zx5 : Nat) (zx6 : Nat) (zx7 : Int32) : Option (Int32 × Im) :=
  ck (inb zx7 (len zx1) = true) <|
  lt (((gA I zx1 (zx7).toNatClampNeg) - (gA I zx1 (zx7).toNatClampNeg) / (4 : Int32) * (4 : Int32))) fun zv2 =>
  lt ((((gA I zx1 (zx7).toNatClampNeg) / (4 : Int32)) - ((gA I zx1 (zx7).toNatClampNeg) / (4 : Int32)) / (4 : Int32) * (4 : Int32))) fun zv3 =>
  lt ((((gA I zx1 (zx7).toNatClampNeg) / (16 : Int32)) - ((gA I zx1 (zx7).toNatClampNeg) / (16 : Int32)) / (128 : Int32) * (128 : Int32))) fun zv4 =>
  if zv2 = (2 : Int32) then
    ck (inb (((2 : Int32) * zv3) + (1 : Int32)) (len zx4) = true) <|
    lt (pA I zx4 ((((2 : Int32) * zv3) + (1 : Int32))).toNatClampNeg zv4) fun zI7 =>
    m9_comes_48 fl len X zI7 zx0 zx1 zx2 zx3 zx5 zx6 zx7 zv2 zv3 zv4
  else
    m9_comes_48 fl len X I zx0 zx1 zx2 zx3 zx5 zx6 zx7 zv2 zv3 zv4
theorem hy9_comes : yL_comes.cls = RL ∧ yL_comes.cls ≠ "java/lang/invoke/MethodHandle" ∧ yL_comes.cls ≠ "java/lang/invoke/VarHandle" ∧ (parseMethodDescriptor yL_comes.desc).map (fun d => d.parameters.length) = some 8 := ⟨rfl, by decide +kernel, by decide +kernel, by decide +kernel⟩
set_option maxHeartbeats 4000000 in
set_option maxRecDepth 100000 in
theorem c9_comes (l : Launch) (E : EN) (G : GM) (fl : Nat) (X : Xm) (I : Im) (zx0 : Nat) (zx1 : Nat) (zx2 : Nat) (zx3 : Nat) (zx4 : Nat) (zx5 : Nat) (zx6 : Nat) (zx7 : Int32) (zt0 : okA E G 11 zx0) (zt1 : okA E G 11 zx1) (zt2 : okA E G 11 zx2) (zt3 : okA E G 11 zx3) (zt4 : okA E G 11 zx4) (zt5 : okA E G 11 zx5) (zt6 : okA E G 11 zx6) {rr : Int32 × Im} (hf : m9_comes fl G.2.2 X I zx0 zx1 zx2 zx3 zx4 zx5 zx6 zx7 = some rr) : MT l yL_comes cL_comes 13 (some .int) ({ frames := 1, cells := 0, slots := 0, locals := 24 } : Room) E G I X [.ref zx0, .ref zx1, .ref zx2, .ref zx3, .ref zx4, .ref zx5, .ref zx6, .int zx7] (QI E G rr.1 rr.2 X) 0 0 := by
  refine Met.ofW (cc := cL_comes) (maxL := 13) (ret := (some .int)) (by decide +kernel) rfl ?_
  intro p e s m args below meth c s₁ B hml hv
  obtain ⟨rfl, hw0, hSE⟩ := hv
  have C0 : CX p s m ([.ref zx0, .ref zx1, .ref zx2, .ref zx3, .ref zx4, .ref zx5, .ref zx6, .int zx7] : List Value).toArray meth c E cL_comes RL 13 := ⟨B.exec, B.bytes, hml, findClass_of_methodNamed B.named, fun w hw => atoms_spec (ws := WS yL_comes cL_comes 13 (some .int)) B.pre w (List.mem_cons_of_mem _ hw), B.notSynchronized, hSE⟩
  have hz : s.heap.size + 0 ≤ eB E + G.1 := Nat.le_of_eq hw0.2.1
  have hw : WD E G I X s.heap s.heap [] := ⟨hw0, va_S.rf⟩
  have hr := B.returns
  have hx := C0.1; have hb := C0.2.1; have hml := C0.2.2.1; have hown := C0.2.2.2.1; have hts := C0.2.2.2.2.1
  have hl := lv_entry ([.ref zx0, .ref zx1, .ref zx2, .ref zx3, .ref zx4, .ref zx5, .ref zx6, .int zx7]) (n := 13) (Nat.le_of_ble_eq_true rfl)
  rw [lg_entry_eq]
  generalize (lg_sl ([.ref zx0, .ref zx1, .ref zx2, .ref zx3, .ref zx4, .ref zx5, .ref zx6, .int zx7]) ++ List.replicate (13 - (lg_sl ([.ref zx0, .ref zx1, .ref zx2, .ref zx3, .ref zx4, .ref zx5, .ref zx6, .int zx7])).length) Slot.unset).toArray = ls at hl ⊢
  have hl : lv_has ls 13 [(0, .ref zx0), (1, .ref zx1), (2, .ref zx2), (3, .ref zx3), (4, .ref zx4), (5, .ref zx5), (6, .ref zx6), (7, .int zx7)] := hl
  unfold m9_comes at hf
  refine lv_aload_n hx hb dL_comes_0 rfl (lv_at hl 1 rfl) ?_
  refine lv_iload hx hb dL_comes_1 (lv_at hl 7 rfl) ?_
  obtain ⟨zhb1, hf⟩ := ck_some hf
  refine x_iald C0 hw zt1 zhb1 dL_comes_3 ?_
  refine lv_iconst (v := (4 : Int32)) hx hb dL_comes_4 (by decide) ?_
  refine lv_irem hx hb dL_comes_5 (by decide) ?_
  refine lv_topi (fun zv2 ezv2 => ?_)
  have hf := lt_at hf ezv2
  refine lv_istore (lv' := [(8, .int zv2), (0, .ref zx0), (1, .ref zx1), (2, .ref zx2), (3, .ref zx3), (4, .ref zx4), (5, .ref zx5), (6, .ref zx6), (7, .int zx7)]) hx hb dL_comes_6 hl (by decide) rfl (fun ls hl => ?_)
  refine lv_aload_n hx hb dL_comes_8 rfl (lv_at hl 2 rfl) ?_
  refine lv_iload hx hb dL_comes_9 (lv_at hl 8 rfl) ?_
  refine x_iald C0 hw zt1 zhb1 dL_comes_11 ?_
  refine lv_iconst (v := (4 : Int32)) hx hb dL_comes_12 (by decide) ?_
  refine lv_idiv hx hb dL_comes_13 (by decide) ?_
  refine lv_iconst (v := (4 : Int32)) hx hb dL_comes_14 (by decide) ?_
  refine lv_irem hx hb dL_comes_15 (by decide) ?_
  refine lv_topi (fun zv3 ezv3 => ?_)
  have hf := lt_at hf ezv3
  refine lv_istore (lv' := [(9, .int zv3), (8, .int zv2), (0, .ref zx0), (1, .ref zx1), (2, .ref zx2), (3, .ref zx3), (4, .ref zx4), (5, .ref zx5), (6, .ref zx6), (7, .int zx7)]) hx hb dL_comes_16 hl (by decide) rfl (fun ls hl => ?_)
  refine lv_aload_n hx hb dL_comes_18 rfl (lv_at hl 3 rfl) ?_
  refine lv_iload hx hb dL_comes_19 (lv_at hl 9 rfl) ?_
  refine x_iald C0 hw zt1 zhb1 dL_comes_21 ?_
  refine lv_bipush (v := (16 : Int32)) hx hb dL_comes_22 (by decide) ?_
  refine lv_idiv hx hb dL_comes_24 (by decide) ?_
  refine lv_sipush (v := (128 : Int32)) hx hb dL_comes_25 (by decide) ?_
  refine lv_irem hx hb dL_comes_28 (by decide) ?_
  refine lv_topi (fun zv4 ezv4 => ?_)
  have hf := lt_at hf ezv4
  refine lv_istore (lv' := [(10, .int zv4), (9, .int zv3), (8, .int zv2), (0, .ref zx0), (1, .ref zx1), (2, .ref zx2), (3, .ref zx3), (4, .ref zx4), (5, .ref zx5), (6, .ref zx6), (7, .int zx7)]) hx hb dL_comes_29 hl (by decide) rfl (fun ls hl => ?_)
  refine lv_iload hx hb dL_comes_31 (lv_at hl 2 rfl) ?_
  refine lv_iconst (v := (2 : Int32)) hx hb dL_comes_33 (by decide) ?_
  refine lv_icmp_ne (tgt := 48) hx hb dL_comes_34 (by decide) (fun zc5 => ?_) (fun zc5 => ?_)
  · have hf := ite_f hf zc5
    exact w9_comes_48 C0 hr hz fl I _ _ _ zx0 zx1 zx2 zx3 zx5 zx6 zx7 zv2 zv3 zv4 zt0 zt1 zt2 zt3 zt5 zt6 hw (lv_sub hl [3, 4, 5, 6, 8, 9, 10, 2, 1, 0] rfl) hf
  · have hf := ite_t hf zc5
    refine lv_aload hx hb dL_comes_37 (lv_at hl 7 rfl) ?_
    refine lv_iconst (v := (2 : Int32)) hx hb dL_comes_39 (by decide) ?_
    refine lv_iload hx hb dL_comes_40 (lv_at hl 1 rfl) ?_
    refine lv_imul hx hb dL_comes_42 ?_
    refine lv_iconst (v := (1 : Int32)) hx hb dL_comes_43 (by decide) ?_
    refine lv_iadd hx hb dL_comes_44 ?_
    refine lv_iload hx hb dL_comes_45 (lv_at hl 0 rfl) ?_
    obtain ⟨zhb6, hf⟩ := ck_some hf
    obtain ⟨zI7, ezI7⟩ : ∃ y : Im, y = pA I zx4 ((((2 : Int32) * zv3) + (1 : Int32))).toNatClampNeg zv4 := ⟨_, rfl⟩
    have hf := lt_at hf ezI7
    refine x_iast C0 hz hw zt4 zhb6 dL_comes_47 ezI7 (fun H locs hw => ?_)
    exact w9_comes_48 C0 hr hz fl zI7 _ _ _ zx0 zx1 zx2 zx3 zx5 zx6 zx7 zv2 zv3 zv4 zt0 zt1 zt2 zt3 zt5 zt6 hw (lv_sub hl [3, 4, 5, 6, 8, 9, 10, 2, 1, 0] rfl) hf
noncomputable def m9_nextOf_32 (fl : Nat) (len : Nat → Nat) (X : Xm) (I : Im) (zr2 : Nat → Nat → Int32 → Int32 → Option (Int32)) (zx0 : Nat) (zx1 : Nat) (zx2 : Int32) (zx3 : Int32) : Option (Int32) :=
  lt (zx3 + 1) fun zv1 =>
  zr2 zx0 zx1 zx2 zv1
set_option maxHeartbeats 4000000 in
set_option maxRecDepth 100000 in
theorem w9_nextOf_32 {p : Program} {l : Launch} {e : Env} {s : State} {m : MethodId} {args : Array Value} {below : List Frame} {meth : Method} {c : Code} {E : EN} {G : GM} {X : Xm} {I : Im} (C0 : CX p s m args meth c E cL_nextOf RL 4) (hr : meth.sig.returnType = (some .int)) (hz : s.heap.size + 0 ≤ eB E + G.1) {rr : Int32} (fl : Nat) (zr2 : Nat → Nat → Int32 → Int32 → Option (Int32)) (zhr2 : ∀ (H : Heap) (locs : List Loc) (ls : Array Slot) (zx0 : Nat) (zx1 : Nat) (zx2 : Int32) (zx3 : Int32) (zt0 : okA E G 11 zx0) (zt1 : okA E G 11 zx1), WD E G I X s.heap H locs → lv_has ls 4 [(0, .ref zx0), (1, .ref zx1), (2, .int zx2), (3, .int zx3)] → zr2 zx0 zx1 zx2 zx3 = some rr → W p l e ({ frames := 0, cells := 0, slots := 0, locals := 0 } : Room) s m args below meth c H locs 0 0 (MQ below (QI E G rr I X) args s 0 0 (eA E)) (F0 m 2 ls [])) : ∀ (H : Heap) (locs : List Loc) (ls : Array Slot) (zx0 : Nat) (zx1 : Nat) (zx2 : Int32) (zx3 : Int32) (zt0 : okA E G 11 zx0) (zt1 : okA E G 11 zx1), WD E G I X s.heap H locs → lv_has ls 4 [(0, .ref zx0), (1, .ref zx1), (2, .int zx2), (3, .int zx3)] → m9_nextOf_32 fl G.2.2 X I zr2 zx0 zx1 zx2 zx3 = some rr → W p l e ({ frames := 0, cells := 0, slots := 0, locals := 0 } : Room) s m args below meth c H locs 0 0 (MQ below (QI E G rr I X) args s 0 0 (eA E)) (F0 m 32 ls []) := by
  intro H locs ls zx0 zx1 zx2 zx3 zt0 zt1 hw hl hf
  unfold m9_nextOf_32 at hf
  have hx := C0.1; have hb := C0.2.1; have hml := C0.2.2.1; have hown := C0.2.2.2.1; have hts := C0.2.2.2.2.1
  obtain ⟨zv1, ezv1⟩ : ∃ y : Int32, y = zx3 + 1 := ⟨_, rfl⟩
  have hf := lt_at hf ezv1
  refine lv_iinc (v := zv1) (lv' := [(3, .int zv1), (0, .ref zx0), (1, .ref zx1), (2, .int zx2)]) hx hb dL_nextOf_32 hl (k := 3) rfl (by rw [ezv1]; rfl) (by decide) rfl (fun ls hl => ?_)
  refine lv_goto (tgt := 2) hx hb dL_nextOf_35 (by decide) ?_
  exact zhr2 _ _ _ zx0 zx1 zx2 zv1 zt0 zt1 hw (lv_sub hl [1, 2, 3, 0] rfl) hf
noncomputable def m9_nextOf_2b (fl : Nat) (len : Nat → Nat) (X : Xm) (I : Im) (zr2 : Nat → Nat → Int32 → Int32 → Option (Int32)) (zx0 : Nat) (zx1 : Nat) (zx2 : Int32) (zx3 : Int32) : Option (Int32) :=
  ck (inb (5 : Int32) (len zx0) = true) <|
  if (gA I zx0 ((5 : Int32)).toNatClampNeg) ≤ zx3 then
    some ((-6 : Int32))
  else
    ck (inb zx3 (len zx1) = true) <|
    if (2048 : Int32) ≤ (gA I zx1 (zx3).toNatClampNeg) then
      m9_nextOf_32 fl len X I zr2 zx0 zx1 zx2 zx3
    else
      if ((gA I zx1 (zx3).toNatClampNeg) - (gA I zx1 (zx3).toNatClampNeg) / (16 : Int32) * (16 : Int32)) = ((4 : Int32) * zx2) then
        some (zx3)
      else
        m9_nextOf_32 fl len X I zr2 zx0 zx1 zx2 zx3
noncomputable def m9_nextOf_2 (fl : Nat) (len : Nat → Nat) (X : Xm) (I : Im) (n : Nat) : Nat → Nat → Int32 → Int32 → Option (Int32) :=
  Nat.rec (fun _ _ _ _ => none) (fun _ r => m9_nextOf_2b fl len X I r) n
set_option maxHeartbeats 4000000 in
set_option maxRecDepth 100000 in
theorem w9_nextOf_2b {p : Program} {l : Launch} {e : Env} {s : State} {m : MethodId} {args : Array Value} {below : List Frame} {meth : Method} {c : Code} {E : EN} {G : GM} {X : Xm} {I : Im} (C0 : CX p s m args meth c E cL_nextOf RL 4) (hr : meth.sig.returnType = (some .int)) (hz : s.heap.size + 0 ≤ eB E + G.1) {rr : Int32} (fl : Nat) (zr2 : Nat → Nat → Int32 → Int32 → Option (Int32)) (zhr2 : ∀ (H : Heap) (locs : List Loc) (ls : Array Slot) (zx0 : Nat) (zx1 : Nat) (zx2 : Int32) (zx3 : Int32) (zt0 : okA E G 11 zx0) (zt1 : okA E G 11 zx1), WD E G I X s.heap H locs → lv_has ls 4 [(0, .ref zx0), (1, .ref zx1), (2, .int zx2), (3, .int zx3)] → zr2 zx0 zx1 zx2 zx3 = some rr → W p l e ({ frames := 0, cells := 0, slots := 0, locals := 0 } : Room) s m args below meth c H locs 0 0 (MQ below (QI E G rr I X) args s 0 0 (eA E)) (F0 m 2 ls [])) : ∀ (H : Heap) (locs : List Loc) (ls : Array Slot) (zx0 : Nat) (zx1 : Nat) (zx2 : Int32) (zx3 : Int32) (zt0 : okA E G 11 zx0) (zt1 : okA E G 11 zx1), WD E G I X s.heap H locs → lv_has ls 4 [(0, .ref zx0), (1, .ref zx1), (2, .int zx2), (3, .int zx3)] → m9_nextOf_2b fl G.2.2 X I zr2 zx0 zx1 zx2 zx3 = some rr → W p l e ({ frames := 0, cells := 0, slots := 0, locals := 0 } : Room) s m args below meth c H locs 0 0 (MQ below (QI E G rr I X) args s 0 0 (eA E)) (F0 m 2 ls []) := by
  intro H locs ls zx0 zx1 zx2 zx3 zt0 zt1 hw hl hf
  unfold m9_nextOf_2b at hf
  have hx := C0.1; have hb := C0.2.1; have hml := C0.2.2.1; have hown := C0.2.2.2.1; have hts := C0.2.2.2.2.1
  refine lv_iload_n hx hb dL_nextOf_2 rfl (lv_at hl 3 rfl) ?_
  refine lv_aload_n hx hb dL_nextOf_3 rfl (lv_at hl 0 rfl) ?_
  refine lv_iconst (v := (5 : Int32)) hx hb dL_nextOf_4 (by decide) ?_
  obtain ⟨zhb1, hf⟩ := ck_some hf
  refine x_iald C0 hw zt0 zhb1 dL_nextOf_5 ?_
  refine lv_icmp_ge (tgt := 38) hx hb dL_nextOf_6 (by decide) (fun zc2 => ?_) (fun zc2 => ?_)
  · have hf := ite_t hf zc2
    refine lv_bipush (v := (-6 : Int32)) hx hb dL_nextOf_38 (by decide) ?_
    obtain rfl := Option.some.inj hf
    exact x_iret C0 hr hw dL_nextOf_40
  · have hf := ite_f hf zc2
    refine lv_aload_n hx hb dL_nextOf_9 rfl (lv_at hl 1 rfl) ?_
    refine lv_iload_n hx hb dL_nextOf_10 rfl (lv_at hl 3 rfl) ?_
    obtain ⟨zhb3, hf⟩ := ck_some hf
    refine x_iald C0 hw zt1 zhb3 dL_nextOf_11 ?_
    refine lv_sipush (v := (2048 : Int32)) hx hb dL_nextOf_12 (by decide) ?_
    refine lv_icmp_ge (tgt := 32) hx hb dL_nextOf_15 (by decide) (fun zc4 => ?_) (fun zc4 => ?_)
    · have hf := ite_t hf zc4
      exact w9_nextOf_32 C0 hr hz fl zr2 zhr2 _ _ _ zx0 zx1 zx2 zx3 zt0 zt1 hw (lv_sub hl [0, 1, 2, 3] rfl) hf
    · have hf := ite_f hf zc4
      refine lv_aload_n hx hb dL_nextOf_18 rfl (lv_at hl 1 rfl) ?_
      refine lv_iload_n hx hb dL_nextOf_19 rfl (lv_at hl 3 rfl) ?_
      refine x_iald C0 hw zt1 zhb3 dL_nextOf_20 ?_
      refine lv_bipush (v := (16 : Int32)) hx hb dL_nextOf_21 (by decide) ?_
      refine lv_irem hx hb dL_nextOf_23 (by decide) ?_
      refine lv_iconst (v := (4 : Int32)) hx hb dL_nextOf_24 (by decide) ?_
      refine lv_iload_n hx hb dL_nextOf_25 rfl (lv_at hl 2 rfl) ?_
      refine lv_imul hx hb dL_nextOf_26 ?_
      refine lv_icmp_ne (tgt := 32) hx hb dL_nextOf_27 (by decide) (fun zc5 => ?_) (fun zc5 => ?_)
      · have hf := ite_f hf zc5
        exact w9_nextOf_32 C0 hr hz fl zr2 zhr2 _ _ _ zx0 zx1 zx2 zx3 zt0 zt1 hw (lv_sub hl [0, 1, 2, 3] rfl) hf
      · have hf := ite_t hf zc5
        refine lv_iload_n hx hb dL_nextOf_30 rfl (lv_at hl 3 rfl) ?_
        obtain rfl := Option.some.inj hf
        exact x_iret C0 hr hw dL_nextOf_31
theorem w9_nextOf_2 {p : Program} {l : Launch} {e : Env} {s : State} {m : MethodId} {args : Array Value} {below : List Frame} {meth : Method} {c : Code} {E : EN} {G : GM} {X : Xm} {I : Im} (C0 : CX p s m args meth c E cL_nextOf RL 4) (hr : meth.sig.returnType = (some .int)) (hz : s.heap.size + 0 ≤ eB E + G.1) {rr : Int32} (fl : Nat) : ∀ (n : Nat) (H : Heap) (locs : List Loc) (ls : Array Slot) (zx0 : Nat) (zx1 : Nat) (zx2 : Int32) (zx3 : Int32) (zt0 : okA E G 11 zx0) (zt1 : okA E G 11 zx1), WD E G I X s.heap H locs → lv_has ls 4 [(0, .ref zx0), (1, .ref zx1), (2, .int zx2), (3, .int zx3)] → m9_nextOf_2 fl G.2.2 X I n zx0 zx1 zx2 zx3 = some rr → W p l e ({ frames := 0, cells := 0, slots := 0, locals := 0 } : Room) s m args below meth c H locs 0 0 (MQ below (QI E G rr I X) args s 0 0 (eA E)) (F0 m 2 ls []) := by
  intro n
  induction n with
  | zero => intro H locs ls zx0 zx1 zx2 zx3 zt0 zt1 hw hl hf; exact absurd (show (none : Option (Int32)) = some rr from hf) (by simp)
  | succ n ih => intro H locs ls zx0 zx1 zx2 zx3 zt0 zt1 hw hl hf; exact w9_nextOf_2b C0 hr hz fl _ ih H locs ls zx0 zx1 zx2 zx3 zt0 zt1 hw hl hf
noncomputable def m9_nextOf (fl : Nat) (len : Nat → Nat) (X : Xm) (I : Im) (zx0 : Nat) (zx1 : Nat) (zx2 : Int32) : Option (Int32) :=
  m9_nextOf_2 fl len X I fl zx0 zx1 zx2 (0 : Int32)
theorem hy9_nextOf : yL_nextOf.cls = RL ∧ yL_nextOf.cls ≠ "java/lang/invoke/MethodHandle" ∧ yL_nextOf.cls ≠ "java/lang/invoke/VarHandle" ∧ (parseMethodDescriptor yL_nextOf.desc).map (fun d => d.parameters.length) = some 3 := ⟨rfl, by decide +kernel, by decide +kernel, by decide +kernel⟩
set_option maxHeartbeats 4000000 in
set_option maxRecDepth 100000 in
theorem c9_nextOf (l : Launch) (E : EN) (G : GM) (fl : Nat) (X : Xm) (I : Im) (zx0 : Nat) (zx1 : Nat) (zx2 : Int32) (zt0 : okA E G 11 zx0) (zt1 : okA E G 11 zx1) {rr : Int32} (hf : m9_nextOf fl G.2.2 X I zx0 zx1 zx2 = some rr) : MT l yL_nextOf cL_nextOf 4 (some .int) ({ frames := 0, cells := 0, slots := 0, locals := 0 } : Room) E G I X [.ref zx0, .ref zx1, .int zx2] (QI E G rr I X) 0 0 := by
  refine Met.ofW (cc := cL_nextOf) (maxL := 4) (ret := (some .int)) (by decide +kernel) rfl ?_
  intro p e s m args below meth c s₁ B hml hv
  obtain ⟨rfl, hw0, hSE⟩ := hv
  have C0 : CX p s m ([.ref zx0, .ref zx1, .int zx2] : List Value).toArray meth c E cL_nextOf RL 4 := ⟨B.exec, B.bytes, hml, findClass_of_methodNamed B.named, fun w hw => atoms_spec (ws := WS yL_nextOf cL_nextOf 4 (some .int)) B.pre w (List.mem_cons_of_mem _ hw), B.notSynchronized, hSE⟩
  have hz : s.heap.size + 0 ≤ eB E + G.1 := Nat.le_of_eq hw0.2.1
  have hw : WD E G I X s.heap s.heap [] := ⟨hw0, va_S.rf⟩
  have hr := B.returns
  have hx := C0.1; have hb := C0.2.1; have hml := C0.2.2.1; have hown := C0.2.2.2.1; have hts := C0.2.2.2.2.1
  have hl := lv_entry ([.ref zx0, .ref zx1, .int zx2]) (n := 4) (Nat.le_of_ble_eq_true rfl)
  rw [lg_entry_eq]
  generalize (lg_sl ([.ref zx0, .ref zx1, .int zx2]) ++ List.replicate (4 - (lg_sl ([.ref zx0, .ref zx1, .int zx2])).length) Slot.unset).toArray = ls at hl ⊢
  have hl : lv_has ls 4 [(0, .ref zx0), (1, .ref zx1), (2, .int zx2)] := hl
  unfold m9_nextOf at hf
  refine lv_iconst (v := (0 : Int32)) hx hb dL_nextOf_0 (by decide) ?_
  refine lv_istore_n (lv' := [(3, .int (0 : Int32)), (0, .ref zx0), (1, .ref zx1), (2, .int zx2)]) hx hb dL_nextOf_1 rfl hl (by decide) rfl (fun ls hl => ?_)
  exact w9_nextOf_2 C0 hr hz fl fl _ _ _ zx0 zx1 zx2 (0 : Int32) zt0 zt1 hw (lv_sub hl [1, 2, 3, 0] rfl) hf
