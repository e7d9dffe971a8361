noncomputable def m9_cuesThat_30 (fl : Nat) (len : Nat → Nat) (X : Xm) (I : Im) (zr4 : Nat → Int32 → Int32 → Int32 → Option (Int32)) (zx0 : Nat) (zx1 : Int32) (zx3 : Int32) (zs0 : Int32) (zs1 : Int32) (p_144 : Nat) : Option (Int32) :=
  lt ((zs0 + zs1)) fun zv1 =>
  lt (zx3 + 1) fun zv2 =>
  zr4 zx0 zx1 zv1 zv2
set_option maxHeartbeats 4000000 in
set_option maxRecDepth 100000 in
theorem w9_cuesThat_30 {p : Program} {l : Launch} {e : Env} {s : State} {m : MethodId} {args : Array Value} {below : List Frame} {meth : Method} {c : Code} {E : EN} {G : GM} {X : Xm} {I : Im} (C0 : CX p s m args meth c E cX9_cuesThat RX9 4) (hr : meth.sig.returnType = (some .int)) (hz : s.heap.size + 0 ≤ eB E + G.1) {rr : Int32} (fl : Nat) (zr4 : Nat → Int32 → Int32 → Int32 → Option (Int32)) (zhr4 : ∀ (H : Heap) (locs : List Loc) (ls : Array Slot) (zx0 : Nat) (zx1 : Int32) (zx2 : Int32) (zx3 : Int32) (zt0 : okA E G 9 zx0), WD E G I X s.heap H locs → lv_has ls 4 [(0, .ref zx0), (1, .int zx1), (2, .int zx2), (3, .int zx3)] → zr4 zx0 zx1 zx2 zx3 = some rr → W p l e ({ frames := 1, cells := 0, slots := 0, locals := 22 } : Room) s m args below meth c H locs 0 0 (MQ below (QI E G rr I X) args s 0 0 (eA E)) (F0 m 4 ls [])) : ∀ (H : Heap) (locs : List Loc) (ls : Array Slot) (zx0 : Nat) (zx1 : Int32) (zx3 : Int32) (zs0 : Int32) (zs1 : Int32) (p_144 : Nat) (zt0 : okA E G 9 zx0) (ep_144 : gR X 144 zx0 = some p_144) (tp_144 : okA E G 11 p_144), WD E G I X s.heap H locs → lv_has ls 4 [(0, .ref zx0), (1, .int zx1), (3, .int zx3)] → m9_cuesThat_30 fl G.2.2 X I zr4 zx0 zx1 zx3 zs0 zs1 p_144 = some rr → W p l e ({ frames := 1, cells := 0, slots := 0, locals := 22 } : Room) s m args below meth c H locs 0 0 (MQ below (QI E G rr I X) args s 0 0 (eA E)) (F0 m 30 ls [.int zs1, .int zs0]) := by
  intro H locs ls zx0 zx1 zx3 zs0 zs1 p_144 zt0 ep_144 tp_144 hw hl hf
  unfold m9_cuesThat_30 at hf
  have hx := C0.1; have hb := C0.2.1; have hml := C0.2.2.1; have hown := C0.2.2.2.1; have hts := C0.2.2.2.2.1
  refine lv_iadd hx hb dX9_cuesThat_30 ?_
  refine lv_topi (fun zv1 ezv1 => ?_)
  have hf := lt_at hf ezv1
  refine lv_istore_n (lv' := [(2, .int zv1), (0, .ref zx0), (1, .int zx1), (3, .int zx3)]) hx hb dX9_cuesThat_31 rfl hl (by decide) rfl (fun ls hl => ?_)
  obtain ⟨zv2, ezv2⟩ : ∃ y : Int32, y = zx3 + 1 := ⟨_, rfl⟩
  have hf := lt_at hf ezv2
  refine lv_iinc (v := zv2) (lv' := [(3, .int zv2), (2, .int zv1), (0, .ref zx0), (1, .int zx1)]) hx hb dX9_cuesThat_32 hl (k := 3) rfl (by rw [ezv2]; rfl) (by decide) rfl (fun ls hl => ?_)
  refine lv_goto (tgt := 4) hx hb dX9_cuesThat_35 (by decide) ?_
  exact zhr4 _ _ _ zx0 zx1 zv1 zv2 zt0 hw (lv_sub hl [2, 3, 1, 0] rfl) hf
noncomputable def m9_cuesThat_4b (fl : Nat) (len : Nat → Nat) (X : Xm) (I : Im) (zr4 : Nat → Int32 → Int32 → Int32 → Option (Int32)) (zx0 : Nat) (zx1 : Int32) (zx2 : Int32) (zx3 : Int32) : Option (Int32) :=
  nn (gR X 144 zx0) fun zv1 =>
  ck (inb (5 : Int32) (len zv1) = true) <|
  if (gA I zv1 ((5 : Int32)).toNatClampNeg) ≤ zx3 then
    some (zx2)
  else
    nn (m9_of fl len X I zx0 zx3 (4 : Int32)) fun zv4 =>
    if zv4 = zx1 then
      m9_cuesThat_30 fl len X I zr4 zx0 zx1 zx3 zx2 (1 : Int32) zv1
    else
      m9_cuesThat_30 fl len X I zr4 zx0 zx1 zx3 zx2 (0 : Int32) zv1
noncomputable def m9_cuesThat_4 (fl : Nat) (len : Nat → Nat) (X : Xm) (I : Im) (n : Nat) : Nat → Int32 → Int32 → Int32 → Option (Int32) :=
  Nat.rec (fun _ _ _ _ => none) (fun _ r => m9_cuesThat_4b fl len X I r) n
set_option maxHeartbeats 4000000 in
set_option maxRecDepth 100000 in
theorem w9_cuesThat_4b {p : Program} {l : Launch} {e : Env} {s : State} {m : MethodId} {args : Array Value} {below : List Frame} {meth : Method} {c : Code} {E : EN} {G : GM} {X : Xm} {I : Im} (C0 : CX p s m args meth c E cX9_cuesThat RX9 4) (hr : meth.sig.returnType = (some .int)) (hz : s.heap.size + 0 ≤ eB E + G.1) {rr : Int32} (fl : Nat) (zr4 : Nat → Int32 → Int32 → Int32 → Option (Int32)) (zhr4 : ∀ (H : Heap) (locs : List Loc) (ls : Array Slot) (zx0 : Nat) (zx1 : Int32) (zx2 : Int32) (zx3 : Int32) (zt0 : okA E G 9 zx0), WD E G I X s.heap H locs → lv_has ls 4 [(0, .ref zx0), (1, .int zx1), (2, .int zx2), (3, .int zx3)] → zr4 zx0 zx1 zx2 zx3 = some rr → W p l e ({ frames := 1, cells := 0, slots := 0, locals := 22 } : Room) s m args below meth c H locs 0 0 (MQ below (QI E G rr I X) args s 0 0 (eA E)) (F0 m 4 ls [])) : ∀ (H : Heap) (locs : List Loc) (ls : Array Slot) (zx0 : Nat) (zx1 : Int32) (zx2 : Int32) (zx3 : Int32) (zt0 : okA E G 9 zx0), WD E G I X s.heap H locs → lv_has ls 4 [(0, .ref zx0), (1, .int zx1), (2, .int zx2), (3, .int zx3)] → m9_cuesThat_4b fl G.2.2 X I zr4 zx0 zx1 zx2 zx3 = some rr → W p l e ({ frames := 1, cells := 0, slots := 0, locals := 22 } : Room) s m args below meth c H locs 0 0 (MQ below (QI E G rr I X) args s 0 0 (eA E)) (F0 m 4 ls []) := by
  intro H locs ls zx0 zx1 zx2 zx3 zt0 hw hl hf
  unfold m9_cuesThat_4b at hf
  have hx := C0.1; have hb := C0.2.1; have hml := C0.2.2.1; have hown := C0.2.2.2.1; have hts := C0.2.2.2.2.1
  refine lv_iload_n hx hb dX9_cuesThat_4 rfl (lv_at hl 3 rfl) ?_
  refine lv_aload_n hx hb dX9_cuesThat_5 rfl (lv_at hl 0 rfl) ?_
  obtain ⟨zv1, ezv1, hf⟩ := nn_some hf
  have tzv1 : okA E G 11 zv1 := wt_r hw ezv1
  refine xg_9_0 C0 hw zt0 wd601 ezv1 dX9_cuesThat_6 ?_
  refine lv_iconst (v := (5 : Int32)) hx hb dX9_cuesThat_9 (by decide) ?_
  obtain ⟨zhb2, hf⟩ := ck_some hf
  refine x_iald C0 hw tzv1 zhb2 dX9_cuesThat_10 ?_
  refine lv_icmp_ge (tgt := 38) hx hb dX9_cuesThat_11 (by decide) (fun zc3 => ?_) (fun zc3 => ?_)
  · have hf := ite_t hf zc3
    refine lv_iload_n hx hb dX9_cuesThat_38 rfl (lv_at hl 2 rfl) ?_
    obtain rfl := Option.some.inj hf
    exact x_iret C0 hr hw dX9_cuesThat_39
  · have hf := ite_f hf zc3
    refine lv_iload_n hx hb dX9_cuesThat_14 rfl (lv_at hl 2 rfl) ?_
    refine lv_aload_n hx hb dX9_cuesThat_15 rfl (lv_at hl 0 rfl) ?_
    refine lv_iload_n hx hb dX9_cuesThat_16 rfl (lv_at hl 3 rfl) ?_
    refine lv_iconst (v := (4 : Int32)) hx hb dX9_cuesThat_17 (by decide) ?_
    obtain ⟨zv4, ze5, hf⟩ := nn_some hf
    refine x_ci (r := zv4) (I1 := I) (X1 := X) (x_runV (As := [.int zx3, .int (4 : Int32)]) (rest := [.int zx2]) C0 (c9_of l E G fl X I zx0 zx3 (4 : Int32) zt0 ze5) hw 9 zt0 (by decide) rfl wd117 wd623 wd624 wd625 wd612 ⟨rfl, rfl⟩ hy9_of ⟨Nat.le_of_ble_eq_true rfl, Nat.le_of_ble_eq_true rfl⟩ rfl hl.1 (Nat.le_of_ble_eq_true rfl) ⟨Nat.zero_le _, Nat.zero_le _⟩ dX9_cuesThat_18) hw (fun H locs hw => ?_)
    refine lv_iload_n hx hb dX9_cuesThat_21 rfl (lv_at hl 1 rfl) ?_
    refine lv_icmp_ne (tgt := 29) hx hb dX9_cuesThat_22 (by decide) (fun zc6 => ?_) (fun zc6 => ?_)
    · have hf := ite_f hf zc6
      refine lv_iconst (v := (0 : Int32)) hx hb dX9_cuesThat_29 (by decide) ?_
      exact w9_cuesThat_30 C0 hr hz fl zr4 zhr4 _ _ _ zx0 zx1 zx3 zx2 (0 : Int32) zv1 zt0 ezv1 tzv1 hw (lv_sub hl [0, 1, 3] rfl) hf
    · have hf := ite_t hf zc6
      refine lv_iconst (v := (1 : Int32)) hx hb dX9_cuesThat_25 (by decide) ?_
      refine lv_goto (tgt := 30) hx hb dX9_cuesThat_26 (by decide) ?_
      exact w9_cuesThat_30 C0 hr hz fl zr4 zhr4 _ _ _ zx0 zx1 zx3 zx2 (1 : Int32) zv1 zt0 ezv1 tzv1 hw (lv_sub hl [0, 1, 3] rfl) hf
theorem w9_cuesThat_4 {p : Program} {l : Launch} {e : Env} {s : State} {m : MethodId} {args : Array Value} {below : List Frame} {meth : Method} {c : Code} {E : EN} {G : GM} {X : Xm} {I : Im} (C0 : CX p s m args meth c E cX9_cuesThat RX9 4) (hr : meth.sig.returnType = (some .int)) (hz : s.heap.size + 0 ≤ eB E + G.1) {rr : Int32} (fl : Nat) : ∀ (n : Nat) (H : Heap) (locs : List Loc) (ls : Array Slot) (zx0 : Nat) (zx1 : Int32) (zx2 : Int32) (zx3 : Int32) (zt0 : okA E G 9 zx0), WD E G I X s.heap H locs → lv_has ls 4 [(0, .ref zx0), (1, .int zx1), (2, .int zx2), (3, .int zx3)] → m9_cuesThat_4 fl G.2.2 X I n zx0 zx1 zx2 zx3 = some rr → W p l e ({ frames := 1, cells := 0, slots := 0, locals := 22 } : Room) s m args below meth c H locs 0 0 (MQ below (QI E G rr I X) args s 0 0 (eA E)) (F0 m 4 ls []) := by
  intro n
  induction n with
  | zero => intro H locs ls zx0 zx1 zx2 zx3 zt0 hw hl hf; exact absurd (show (none : Option (Int32)) = some rr from hf) (by simp)
  | succ n ih => intro H locs ls zx0 zx1 zx2 zx3 zt0 hw hl hf; exact w9_cuesThat_4b C0 hr hz fl _ ih H locs ls zx0 zx1 zx2 zx3 zt0 hw hl hf
noncomputable def m9_cuesThat (fl : Nat) (len : Nat → Nat) (X : Xm) (I : Im) (zx0 : Nat) (zx1 : Int32) : Option (Int32) :=
  m9_cuesThat_4 fl len X I fl zx0 zx1 (0 : Int32) (0 : Int32)
theorem hy9_cuesThat : yX9_cuesThat.cls = RX9 ∧ yX9_cuesThat.cls ≠ "java/lang/invoke/MethodHandle" ∧ yX9_cuesThat.cls ≠ "java/lang/invoke/VarHandle" ∧ (parseMethodDescriptor yX9_cuesThat.desc).map (fun d => d.parameters.length) = some 1 := ⟨rfl, by decide +kernel, by decide +kernel, by decide +kernel⟩
set_option maxHeartbeats 4000000 in
set_option maxRecDepth 100000 in
theorem c9_cuesThat (l : Launch) (E : EN) (G : GM) (fl : Nat) (X : Xm) (I : Im) (zx0 : Nat) (zx1 : Int32) (zt0 : okA E G 9 zx0) {rr : Int32} (hf : m9_cuesThat fl G.2.2 X I zx0 zx1 = some rr) : MT l yX9_cuesThat cX9_cuesThat 4 (some .int) ({ frames := 1, cells := 0, slots := 0, locals := 22 } : Room) E G I X [.ref zx0, .int zx1] (QI E G rr I X) 0 0 := by
  refine Met.ofW (cc := cX9_cuesThat) (maxL := 4) (ret := (some .int)) (by decide +kernel) rfl ?_
  intro p e s m args below meth c s₁ B hml hv
  obtain ⟨rfl, hw0, hSE⟩ := hv
  have C0 : CX p s m ([.ref zx0, .int zx1] : List Value).toArray meth c E cX9_cuesThat RX9 4 := ⟨B.exec, B.bytes, hml, findClass_of_methodNamed B.named, fun w hw => atoms_spec (ws := WS yX9_cuesThat cX9_cuesThat 4 (some .int)) B.pre w (List.mem_cons_of_mem _ hw), B.notSynchronized, hSE⟩
  have hz : s.heap.size + 0 ≤ eB E + G.1 := Nat.le_of_eq hw0.2.1
  have hw : WD E G I X s.heap s.heap [] := ⟨hw0, va_S.rf⟩
  have hr := B.returns
  have hx := C0.1; have hb := C0.2.1; have hml := C0.2.2.1; have hown := C0.2.2.2.1; have hts := C0.2.2.2.2.1
  have hl := lv_entry ([.ref zx0, .int zx1]) (n := 4) (Nat.le_of_ble_eq_true rfl)
  rw [lg_entry_eq]
  generalize (lg_sl ([.ref zx0, .int zx1]) ++ List.replicate (4 - (lg_sl ([.ref zx0, .int zx1])).length) Slot.unset).toArray = ls at hl ⊢
  have hl : lv_has ls 4 [(0, .ref zx0), (1, .int zx1)] := hl
  unfold m9_cuesThat at hf
  refine lv_iconst (v := (0 : Int32)) hx hb dX9_cuesThat_0 (by decide) ?_
  refine lv_istore_n (lv' := [(2, .int (0 : Int32)), (0, .ref zx0), (1, .int zx1)]) hx hb dX9_cuesThat_1 rfl hl (by decide) rfl (fun ls hl => ?_)
  refine lv_iconst (v := (0 : Int32)) hx hb dX9_cuesThat_2 (by decide) ?_
  refine lv_istore_n (lv' := [(3, .int (0 : Int32)), (2, .int (0 : Int32)), (0, .ref zx0), (1, .int zx1)]) hx hb dX9_cuesThat_3 rfl hl (by decide) rfl (fun ls hl => ?_)
  exact w9_cuesThat_4 C0 hr hz fl fl _ _ _ zx0 zx1 (0 : Int32) (0 : Int32) zt0 hw (lv_sub hl [2, 3, 1, 0] rfl) hf
noncomputable def m9_loudest_47 (fl : Nat) (len : Nat → Nat) (X : Xm) (I : Im) (zr5 : Nat → Int32 → Int32 → Option (Int32)) (zx0 : Nat) (zx3 : Int32) (zs0 : Int32) (p_144 : Nat) : Option (Int32) :=
  lt (zx3 + 1) fun zv1 =>
  zr5 zx0 zs0 zv1
set_option maxHeartbeats 4000000 in
set_option maxRecDepth 100000 in
theorem w9_loudest_47 {p : Program} {l : Launch} {e : Env} {s : State} {m : MethodId} {args : Array Value} {below : List Frame} {meth : Method} {c : Code} {E : EN} {G : GM} {X : Xm} {I : Im} (C0 : CX p s m args meth c E cX9_loudest RX9 4) (hr : meth.sig.returnType = (some .int)) (hz : s.heap.size + 0 ≤ eB E + G.1) {rr : Int32} (fl : Nat) (zr5 : Nat → Int32 → Int32 → Option (Int32)) (zhr5 : ∀ (H : Heap) (locs : List Loc) (ls : Array Slot) (zx0 : Nat) (zx2 : Int32) (zx3 : Int32) (zt0 : okA E G 9 zx0), WD E G I X s.heap H locs → lv_has ls 4 [(0, .ref zx0), (2, .int zx2), (3, .int zx3)] → zr5 zx0 zx2 zx3 = some rr → W p l e ({ frames := 0, cells := 0, slots := 0, locals := 0 } : Room) s m args below meth c H locs 0 0 (MQ below (QI E G rr I X) args s 0 0 (eA E)) (F0 m 5 ls [])) : ∀ (H : Heap) (locs : List Loc) (ls : Array Slot) (zx0 : Nat) (zx3 : Int32) (zs0 : Int32) (p_144 : Nat) (zt0 : okA E G 9 zx0) (ep_144 : gR X 144 zx0 = some p_144) (tp_144 : okA E G 11 p_144), WD E G I X s.heap H locs → lv_has ls 4 [(0, .ref zx0), (3, .int zx3)] → m9_loudest_47 fl G.2.2 X I zr5 zx0 zx3 zs0 p_144 = some rr → W p l e ({ frames := 0, cells := 0, slots := 0, locals := 0 } : Room) s m args below meth c H locs 0 0 (MQ below (QI E G rr I X) args s 0 0 (eA E)) (F0 m 47 ls [.int zs0]) := by
  intro H locs ls zx0 zx3 zs0 p_144 zt0 ep_144 tp_144 hw hl hf
  unfold m9_loudest_47 at hf
  have hx := C0.1; have hb := C0.2.1; have hml := C0.2.2.1; have hown := C0.2.2.2.1; have hts := C0.2.2.2.2.1
  refine lv_istore_n (lv' := [(2, .int zs0), (0, .ref zx0), (3, .int zx3)]) hx hb dX9_loudest_47 rfl hl (by decide) rfl (fun ls hl => ?_)
  obtain ⟨zv1, ezv1⟩ : ∃ y : Int32, y = zx3 + 1 := ⟨_, rfl⟩
  have hf := lt_at hf ezv1
  refine lv_iinc (v := zv1) (lv' := [(3, .int zv1), (2, .int zs0), (0, .ref zx0)]) hx hb dX9_loudest_48 hl (k := 2) rfl (by rw [ezv1]; rfl) (by decide) rfl (fun ls hl => ?_)
  refine lv_goto (tgt := 5) hx hb dX9_loudest_51 (by decide) ?_
  exact zhr5 _ _ _ zx0 zs0 zv1 zt0 hw (lv_sub hl [2, 1, 0] rfl) hf
noncomputable def m9_loudest_42 (fl : Nat) (len : Nat → Nat) (X : Xm) (I : Im) (zr5 : Nat → Int32 → Int32 → Option (Int32)) (zx0 : Nat) (zx3 : Int32) (p_144 : Nat) : Option (Int32) :=
  m9_loudest_47 fl len X I zr5 zx0 zx3 zx3 p_144
set_option maxHeartbeats 4000000 in
set_option maxRecDepth 100000 in
theorem w9_loudest_42 {p : Program} {l : Launch} {e : Env} {s : State} {m : MethodId} {args : Array Value} {below : List Frame} {meth : Method} {c : Code} {E : EN} {G : GM} {X : Xm} {I : Im} (C0 : CX p s m args meth c E cX9_loudest RX9 4) (hr : meth.sig.returnType = (some .int)) (hz : s.heap.size + 0 ≤ eB E + G.1) {rr : Int32} (fl : Nat) (zr5 : Nat → Int32 → Int32 → Option (Int32)) (zhr5 : ∀ (H : Heap) (locs : List Loc) (ls : Array Slot) (zx0 : Nat) (zx2 : Int32) (zx3 : Int32) (zt0 : okA E G 9 zx0), WD E G I X s.heap H locs → lv_has ls 4 [(0, .ref zx0), (2, .int zx2), (3, .int zx3)] → zr5 zx0 zx2 zx3 = some rr → W p l e ({ frames := 0, cells := 0, slots := 0, locals := 0 } : Room) s m args below meth c H locs 0 0 (MQ below (QI E G rr I X) args s 0 0 (eA E)) (F0 m 5 ls [])) : ∀ (H : Heap) (locs : List Loc) (ls : Array Slot) (zx0 : Nat) (zx3 : Int32) (p_144 : Nat) (zt0 : okA E G 9 zx0) (ep_144 : gR X 144 zx0 = some p_144) (tp_144 : okA E G 11 p_144), WD E G I X s.heap H locs → lv_has ls 4 [(0, .ref zx0), (3, .int zx3)] → m9_loudest_42 fl G.2.2 X I zr5 zx0 zx3 p_144 = some rr → W p l e ({ frames := 0, cells := 0, slots := 0, locals := 0 } : Room) s m args below meth c H locs 0 0 (MQ below (QI E G rr I X) args s 0 0 (eA E)) (F0 m 42 ls []) := by
  intro H locs ls zx0 zx3 p_144 zt0 ep_144 tp_144 hw hl hf
  unfold m9_loudest_42 at hf
  have hx := C0.1; have hb := C0.2.1; have hml := C0.2.2.1; have hown := C0.2.2.2.1; have hts := C0.2.2.2.2.1
  refine lv_iload_n hx hb dX9_loudest_42 rfl (lv_at hl 1 rfl) ?_
  refine lv_goto (tgt := 47) hx hb dX9_loudest_43 (by decide) ?_
  exact w9_loudest_47 C0 hr hz fl zr5 zhr5 _ _ _ zx0 zx3 zx3 p_144 zt0 ep_144 tp_144 hw (lv_sub hl [0, 1] rfl) hf
noncomputable def m9_loudest_5b (fl : Nat) (len : Nat → Nat) (X : Xm) (I : Im) (zr5 : Nat → Int32 → Int32 → Option (Int32)) (zx0 : Nat) (zx2 : Int32) (zx3 : Int32) : Option (Int32) :=
  nn (gR X 144 zx0) fun zv1 =>
  ck (inb (4 : Int32) (len zv1) = true) <|
  if (gA I zv1 ((4 : Int32)).toNatClampNeg) ≤ zx3 then
    some (zx2)
  else
    if zx2 < 0 then
      m9_loudest_42 fl len X I zr5 zx0 zx3 zv1
    else
      ck (inb ((320 : Int32) + zx3) (len zv1) = true) <|
      ck (inb ((320 : Int32) + zx2) (len zv1) = true) <|
      if (gA I zv1 (((320 : Int32) + zx3)).toNatClampNeg) ≤ (gA I zv1 (((320 : Int32) + zx2)).toNatClampNeg) then
        m9_loudest_47 fl len X I zr5 zx0 zx3 zx2 zv1
      else
        m9_loudest_42 fl len X I zr5 zx0 zx3 zv1
noncomputable def m9_loudest_5 (fl : Nat) (len : Nat → Nat) (X : Xm) (I : Im) (n : Nat) : Nat → Int32 → Int32 → Option (Int32) :=
  Nat.rec (fun _ _ _ => none) (fun _ r => m9_loudest_5b fl len X I r) n
set_option maxHeartbeats 4000000 in
set_option maxRecDepth 100000 in
theorem w9_loudest_5b {p : Program} {l : Launch} {e : Env} {s : State} {m : MethodId} {args : Array Value} {below : List Frame} {meth : Method} {c : Code} {E : EN} {G : GM} {X : Xm} {I : Im} (C0 : CX p s m args meth c E cX9_loudest RX9 4) (hr : meth.sig.returnType = (some .int)) (hz : s.heap.size + 0 ≤ eB E + G.1) {rr : Int32} (fl : Nat) (zr5 : Nat → Int32 → Int32 → Option (Int32)) (zhr5 : ∀ (H : Heap) (locs : List Loc) (ls : Array Slot) (zx0 : Nat) (zx2 : Int32) (zx3 : Int32) (zt0 : okA E G 9 zx0), WD E G I X s.heap H locs → lv_has ls 4 [(0, .ref zx0), (2, .int zx2), (3, .int zx3)] → zr5 zx0 zx2 zx3 = some rr → W p l e ({ frames := 0, cells := 0, slots := 0, locals := 0 } : Room) s m args below meth c H locs 0 0 (MQ below (QI E G rr I X) args s 0 0 (eA E)) (F0 m 5 ls [])) : ∀ (H : Heap) (locs : List Loc) (ls : Array Slot) (zx0 : Nat) (zx2 : Int32) (zx3 : Int32) (zt0 : okA E G 9 zx0), WD E G I X s.heap H locs → lv_has ls 4 [(0, .ref zx0), (2, .int zx2), (3, .int zx3)] → m9_loudest_5b fl G.2.2 X I zr5 zx0 zx2 zx3 = some rr → W p l e ({ frames := 0, cells := 0, slots := 0, locals := 0 } : Room) s m args below meth c H locs 0 0 (MQ below (QI E G rr I X) args s 0 0 (eA E)) (F0 m 5 ls []) := by
  intro H locs ls zx0 zx2 zx3 zt0 hw hl hf
  unfold m9_loudest_5b at hf
  have hx := C0.1; have hb := C0.2.1; have hml := C0.2.2.1; have hown := C0.2.2.2.1; have hts := C0.2.2.2.2.1
  refine lv_iload_n hx hb dX9_loudest_5 rfl (lv_at hl 2 rfl) ?_
  refine lv_aload_n hx hb dX9_loudest_6 rfl (lv_at hl 0 rfl) ?_
  obtain ⟨zv1, ezv1, hf⟩ := nn_some hf
  have tzv1 : okA E G 11 zv1 := wt_r hw ezv1
  refine xg_9_0 C0 hw zt0 wd601 ezv1 dX9_loudest_7 ?_
  refine lv_iconst (v := (4 : Int32)) hx hb dX9_loudest_10 (by decide) ?_
  obtain ⟨zhb2, hf⟩ := ck_some hf
  refine x_iald C0 hw tzv1 zhb2 dX9_loudest_11 ?_
  refine lv_icmp_ge (tgt := 54) hx hb dX9_loudest_12 (by decide) (fun zc3 => ?_) (fun zc3 => ?_)
  · have hf := ite_t hf zc3
    refine lv_iload_n hx hb dX9_loudest_54 rfl (lv_at hl 1 rfl) ?_
    obtain rfl := Option.some.inj hf
    exact x_iret C0 hr hw dX9_loudest_55
  · have hf := ite_f hf zc3
    refine lv_iload_n hx hb dX9_loudest_15 rfl (lv_at hl 1 rfl) ?_
    refine lv_if_lt (tgt := 42) hx hb dX9_loudest_16 (by decide) (fun zc4 => ?_) (fun zc4 => ?_)
    · have hf := ite_t hf zc4
      exact w9_loudest_42 C0 hr hz fl zr5 zhr5 _ _ _ zx0 zx3 zv1 zt0 ezv1 tzv1 hw (lv_sub hl [0, 2] rfl) hf
    · have hf := ite_f hf zc4
      refine lv_aload_n hx hb dX9_loudest_19 rfl (lv_at hl 0 rfl) ?_
      refine xg_9_0 C0 hw zt0 wd601 ezv1 dX9_loudest_20 ?_
      refine lv_sipush (v := (320 : Int32)) hx hb dX9_loudest_23 (by decide) ?_
      refine lv_iload_n hx hb dX9_loudest_26 rfl (lv_at hl 2 rfl) ?_
      refine lv_iadd hx hb dX9_loudest_27 ?_
      obtain ⟨zhb5, hf⟩ := ck_some hf
      refine x_iald C0 hw tzv1 zhb5 dX9_loudest_28 ?_
      refine lv_aload_n hx hb dX9_loudest_29 rfl (lv_at hl 0 rfl) ?_
      refine xg_9_0 C0 hw zt0 wd601 ezv1 dX9_loudest_30 ?_
      refine lv_sipush (v := (320 : Int32)) hx hb dX9_loudest_33 (by decide) ?_
      refine lv_iload_n hx hb dX9_loudest_36 rfl (lv_at hl 1 rfl) ?_
      refine lv_iadd hx hb dX9_loudest_37 ?_
      obtain ⟨zhb6, hf⟩ := ck_some hf
      refine x_iald C0 hw tzv1 zhb6 dX9_loudest_38 ?_
      refine lv_icmp_le (tgt := 46) hx hb dX9_loudest_39 (by decide) (fun zc7 => ?_) (fun zc7 => ?_)
      · have hf := ite_t hf zc7
        refine lv_iload_n hx hb dX9_loudest_46 rfl (lv_at hl 1 rfl) ?_
        exact w9_loudest_47 C0 hr hz fl zr5 zhr5 _ _ _ zx0 zx3 zx2 zv1 zt0 ezv1 tzv1 hw (lv_sub hl [0, 2] rfl) hf
      · have hf := ite_f hf zc7
        exact w9_loudest_42 C0 hr hz fl zr5 zhr5 _ _ _ zx0 zx3 zv1 zt0 ezv1 tzv1 hw (lv_sub hl [0, 2] rfl) hf
theorem w9_loudest_5 {p : Program} {l : Launch} {e : Env} {s : State} {m : MethodId} {args : Array Value} {below : List Frame} {meth : Method} {c : Code} {E : EN} {G : GM} {X : Xm} {I : Im} (C0 : CX p s m args meth c E cX9_loudest RX9 4) (hr : meth.sig.returnType = (some .int)) (hz : s.heap.size + 0 ≤ eB E + G.1) {rr : Int32} (fl : Nat) : ∀ (n : Nat) (H : Heap) (locs : List Loc) (ls : Array Slot) (zx0 : Nat) (zx2 : Int32) (zx3 : Int32) (zt0 : okA E G 9 zx0), WD E G I X s.heap H locs → lv_has ls 4 [(0, .ref zx0), (2, .int zx2), (3, .int zx3)] → m9_loudest_5 fl G.2.2 X I n zx0 zx2 zx3 = some rr → W p l e ({ frames := 0, cells := 0, slots := 0, locals := 0 } : Room) s m args below meth c H locs 0 0 (MQ below (QI E G rr I X) args s 0 0 (eA E)) (F0 m 5 ls []) := by
  intro n
  induction n with
  | zero => intro H locs ls zx0 zx2 zx3 zt0 hw hl hf; exact absurd (show (none : Option (Int32)) = some rr from hf) (by simp)
  | succ n ih => intro H locs ls zx0 zx2 zx3 zt0 hw hl hf; exact w9_loudest_5b C0 hr hz fl _ ih H locs ls zx0 zx2 zx3 zt0 hw hl hf
noncomputable def m9_loudest (fl : Nat) (len : Nat → Nat) (X : Xm) (I : Im) (zx0 : Nat) (zx1 : Int32) : Option (Int32) :=
  m9_loudest_5 fl len X I fl zx0 (-6 : Int32) zx1
theorem hy9_loudest : yX9_loudest.cls = RX9 ∧ yX9_loudest.cls ≠ "java/lang/invoke/MethodHandle" ∧ yX9_loudest.cls ≠ "java/lang/invoke/VarHandle" ∧ (parseMethodDescriptor yX9_loudest.desc).map (fun d => d.parameters.length) = some 1 := ⟨rfl, by decide +kernel, by decide +kernel, by decide +kernel⟩
set_option maxHeartbeats 4000000 in
set_option maxRecDepth 100000 in
theorem c9_loudest (l : Launch) (E : EN) (G : GM) (fl : Nat) (X : Xm) (I : Im) (zx0 : Nat) (zx1 : Int32) (zt0 : okA E G 9 zx0) {rr : Int32} (hf : m9_loudest fl G.2.2 X I zx0 zx1 = some rr) : MT l yX9_loudest cX9_loudest 4 (some .int) ({ frames := 0, cells := 0, slots := 0, locals := 0 } : Room) E G I X [.ref zx0, .int zx1] (QI E G rr I X) 0 0 := by
  refine Met.ofW (cc := cX9_loudest) (maxL := 4) (ret := (some .int)) (by decide +kernel) rfl ?_
  intro p e s m args below meth c s₁ B hml hv
  obtain ⟨rfl, hw0, hSE⟩ := hv
  have C0 : CX p s m ([.ref zx0, .int zx1] : List Value).toArray meth c E cX9_loudest RX9 4 := ⟨B.exec, B.bytes, hml, findClass_of_methodNamed B.named, fun w hw => atoms_spec (ws := WS yX9_loudest cX9_loudest 4 (some .int)) B.pre w (List.mem_cons_of_mem _ hw), B.notSynchronized, hSE⟩
  have hz : s.heap.size + 0 ≤ eB E + G.1 := Nat.le_of_eq hw0.2.1
  have hw : WD E G I X s.heap s.heap [] := ⟨hw0, va_S.rf⟩
  have hr := B.returns
  have hx := C0.1; have hb := C0.2.1; have hml := C0.2.2.1; have hown := C0.2.2.2.1; have hts := C0.2.2.2.2.1
  have hl := lv_entry ([.ref zx0, .int zx1]) (n := 4) (Nat.le_of_ble_eq_true rfl)
  rw [lg_entry_eq]
  generalize (lg_sl ([.ref zx0, .int zx1]) ++ List.replicate (4 - (lg_sl ([.ref zx0, .int zx1])).length) Slot.unset).toArray = ls at hl ⊢
  have hl : lv_has ls 4 [(0, .ref zx0), (1, .int zx1)] := hl
  unfold m9_loudest at hf
  refine lv_bipush (v := (-6 : Int32)) hx hb dX9_loudest_0 (by decide) ?_
  refine lv_istore_n (lv' := [(2, .int (-6 : Int32)), (0, .ref zx0), (1, .int zx1)]) hx hb dX9_loudest_2 rfl hl (by decide) rfl (fun ls hl => ?_)
  refine lv_iload_n hx hb dX9_loudest_3 rfl (lv_at hl 2 rfl) ?_
  refine lv_istore_n (lv' := [(3, .int zx1), (2, .int (-6 : Int32)), (0, .ref zx0), (1, .int zx1)]) hx hb dX9_loudest_4 rfl hl (by decide) rfl (fun ls hl => ?_)
  exact w9_loudest_5 C0 hr hz fl fl _ _ _ zx0 (-6 : Int32) zx1 zt0 hw (lv_sub hl [2, 1, 0] rfl) hf
noncomputable def m9_tooLoud_39 (fl : Nat) (len : Nat → Nat) (X : Xm) (I : Im) (zr4 : Nat → Int32 → Int32 → Option (Int32)) (zx0 : Nat) (zx3 : Int32) (zs0 : Int32) (zs1 : Int32) (p_144 : Nat) : Option (Int32) :=
  lt ((zs0 + zs1)) fun zv1 =>
  lt (zx3 + 1) fun zv2 =>
  zr4 zx0 zv1 zv2
set_option maxHeartbeats 4000000 in
set_option maxRecDepth 100000 in
theorem w9_tooLoud_39 {p : Program} {l : Launch} {e : Env} {s : State} {m : MethodId} {args : Array Value} {below : List Frame} {meth : Method} {c : Code} {E : EN} {G : GM} {X : Xm} {I : Im} (C0 : CX p s m args meth c E cX9_tooLoud RX9 4) (hr : meth.sig.returnType = (some .int)) (hz : s.heap.size + 0 ≤ eB E + G.1) {rr : Int32} (fl : Nat) (zr4 : Nat → Int32 → Int32 → Option (Int32)) (zhr4 : ∀ (H : Heap) (locs : List Loc) (ls : Array Slot) (zx0 : Nat) (zx2 : Int32) (zx3 : Int32) (zt0 : okA E G 9 zx0), WD E G I X s.heap H locs → lv_has ls 4 [(0, .ref zx0), (2, .int zx2), (3, .int zx3)] → zr4 zx0 zx2 zx3 = some rr → W p l e ({ frames := 0, cells := 0, slots := 0, locals := 0 } : Room) s m args below meth c H locs 0 0 (MQ below (QI E G rr I X) args s 0 0 (eA E)) (F0 m 4 ls [])) : ∀ (H : Heap) (locs : List Loc) (ls : Array Slot) (zx0 : Nat) (zx3 : Int32) (zs0 : Int32) (zs1 : Int32) (p_144 : Nat) (zt0 : okA E G 9 zx0) (ep_144 : gR X 144 zx0 = some p_144) (tp_144 : okA E G 11 p_144), WD E G I X s.heap H locs → lv_has ls 4 [(0, .ref zx0), (3, .int zx3)] → m9_tooLoud_39 fl G.2.2 X I zr4 zx0 zx3 zs0 zs1 p_144 = some rr → W p l e ({ frames := 0, cells := 0, slots := 0, locals := 0 } : Room) s m args below meth c H locs 0 0 (MQ below (QI E G rr I X) args s 0 0 (eA E)) (F0 m 39 ls [.int zs1, .int zs0]) := by
  intro H locs ls zx0 zx3 zs0 zs1 p_144 zt0 ep_144 tp_144 hw hl hf
  unfold m9_tooLoud_39 at hf
  have hx := C0.1; have hb := C0.2.1; have hml := C0.2.2.1; have hown := C0.2.2.2.1; have hts := C0.2.2.2.2.1
  refine lv_iadd hx hb dX9_tooLoud_39 ?_
  refine lv_topi (fun zv1 ezv1 => ?_)
  have hf := lt_at hf ezv1
  refine lv_istore_n (lv' := [(2, .int zv1), (0, .ref zx0), (3, .int zx3)]) hx hb dX9_tooLoud_40 rfl hl (by decide) rfl (fun ls hl => ?_)
  obtain ⟨zv2, ezv2⟩ : ∃ y : Int32, y = zx3 + 1 := ⟨_, rfl⟩
  have hf := lt_at hf ezv2
  refine lv_iinc (v := zv2) (lv' := [(3, .int zv2), (2, .int zv1), (0, .ref zx0)]) hx hb dX9_tooLoud_41 hl (k := 2) rfl (by rw [ezv2]; rfl) (by decide) rfl (fun ls hl => ?_)
  refine lv_goto (tgt := 4) hx hb dX9_tooLoud_44 (by decide) ?_
  exact zhr4 _ _ _ zx0 zv1 zv2 zt0 hw (lv_sub hl [2, 1, 0] rfl) hf
noncomputable def m9_tooLoud_4b (fl : Nat) (len : Nat → Nat) (X : Xm) (I : Im) (zr4 : Nat → Int32 → Int32 → Option (Int32)) (zx0 : Nat) (zx2 : Int32) (zx3 : Int32) : Option (Int32) :=
  nn (gR X 144 zx0) fun zv1 =>
  ck (inb (4 : Int32) (len zv1) = true) <|
  if (gA I zv1 ((4 : Int32)).toNatClampNeg) ≤ zx3 then
    some (zx2)
  else
    ck (inb ((320 : Int32) + zx3) (len zv1) = true) <|
    ck (inb (3 : Int32) (len zv1) = true) <|
    if (gA I zv1 (((320 : Int32) + zx3)).toNatClampNeg) ≤ (gA I zv1 ((3 : Int32)).toNatClampNeg) then
      m9_tooLoud_39 fl len X I zr4 zx0 zx3 zx2 (0 : Int32) zv1
    else
      m9_tooLoud_39 fl len X I zr4 zx0 zx3 zx2 (1 : Int32) zv1
noncomputable def m9_tooLoud_4 (fl : Nat) (len : Nat → Nat) (X : Xm) (I : Im) (n : Nat) : Nat → Int32 → Int32 → Option (Int32) :=
  Nat.rec (fun _ _ _ => none) (fun _ r => m9_tooLoud_4b fl len X I r) n
set_option maxHeartbeats 4000000 in
set_option maxRecDepth 100000 in
theorem w9_tooLoud_4b {p : Program} {l : Launch} {e : Env} {s : State} {m : MethodId} {args : Array Value} {below : List Frame} {meth : Method} {c : Code} {E : EN} {G : GM} {X : Xm} {I : Im} (C0 : CX p s m args meth c E cX9_tooLoud RX9 4) (hr : meth.sig.returnType = (some .int)) (hz : s.heap.size + 0 ≤ eB E + G.1) {rr : Int32} (fl : Nat) (zr4 : Nat → Int32 → Int32 → Option (Int32)) (zhr4 : ∀ (H : Heap) (locs : List Loc) (ls : Array Slot) (zx0 : Nat) (zx2 : Int32) (zx3 : Int32) (zt0 : okA E G 9 zx0), WD E G I X s.heap H locs → lv_has ls 4 [(0, .ref zx0), (2, .int zx2), (3, .int zx3)] → zr4 zx0 zx2 zx3 = some rr → W p l e ({ frames := 0, cells := 0, slots := 0, locals := 0 } : Room) s m args below meth c H locs 0 0 (MQ below (QI E G rr I X) args s 0 0 (eA E)) (F0 m 4 ls [])) : ∀ (H : Heap) (locs : List Loc) (ls : Array Slot) (zx0 : Nat) (zx2 : Int32) (zx3 : Int32) (zt0 : okA E G 9 zx0), WD E G I X s.heap H locs → lv_has ls 4 [(0, .ref zx0), (2, .int zx2), (3, .int zx3)] → m9_tooLoud_4b fl G.2.2 X I zr4 zx0 zx2 zx3 = some rr → W p l e ({ frames := 0, cells := 0, slots := 0, locals := 0 } : Room) s m args below meth c H locs 0 0 (MQ below (QI E G rr I X) args s 0 0 (eA E)) (F0 m 4 ls []) := by
  intro H locs ls zx0 zx2 zx3 zt0 hw hl hf
  unfold m9_tooLoud_4b at hf
  have hx := C0.1; have hb := C0.2.1; have hml := C0.2.2.1; have hown := C0.2.2.2.1; have hts := C0.2.2.2.2.1
  refine lv_iload_n hx hb dX9_tooLoud_4 rfl (lv_at hl 2 rfl) ?_
  refine lv_aload_n hx hb dX9_tooLoud_5 rfl (lv_at hl 0 rfl) ?_
  obtain ⟨zv1, ezv1, hf⟩ := nn_some hf
  have tzv1 : okA E G 11 zv1 := wt_r hw ezv1
  refine xg_9_0 C0 hw zt0 wd601 ezv1 dX9_tooLoud_6 ?_
  refine lv_iconst (v := (4 : Int32)) hx hb dX9_tooLoud_9 (by decide) ?_
  obtain ⟨zhb2, hf⟩ := ck_some hf
  refine x_iald C0 hw tzv1 zhb2 dX9_tooLoud_10 ?_
  refine lv_icmp_ge (tgt := 47) hx hb dX9_tooLoud_11 (by decide) (fun zc3 => ?_) (fun zc3 => ?_)
  · have hf := ite_t hf zc3
    refine lv_iload_n hx hb dX9_tooLoud_47 rfl (lv_at hl 1 rfl) ?_
    obtain rfl := Option.some.inj hf
    exact x_iret C0 hr hw dX9_tooLoud_48
  · have hf := ite_f hf zc3
    refine lv_iload_n hx hb dX9_tooLoud_14 rfl (lv_at hl 1 rfl) ?_
    refine lv_aload_n hx hb dX9_tooLoud_15 rfl (lv_at hl 0 rfl) ?_
    refine xg_9_0 C0 hw zt0 wd601 ezv1 dX9_tooLoud_16 ?_
    refine lv_sipush (v := (320 : Int32)) hx hb dX9_tooLoud_19 (by decide) ?_
    refine lv_iload_n hx hb dX9_tooLoud_22 rfl (lv_at hl 2 rfl) ?_
    refine lv_iadd hx hb dX9_tooLoud_23 ?_
    obtain ⟨zhb4, hf⟩ := ck_some hf
    refine x_iald C0 hw tzv1 zhb4 dX9_tooLoud_24 ?_
    refine lv_aload_n hx hb dX9_tooLoud_25 rfl (lv_at hl 0 rfl) ?_
    refine xg_9_0 C0 hw zt0 wd601 ezv1 dX9_tooLoud_26 ?_
    refine lv_iconst (v := (3 : Int32)) hx hb dX9_tooLoud_29 (by decide) ?_
    obtain ⟨zhb5, hf⟩ := ck_some hf
    refine x_iald C0 hw tzv1 zhb5 dX9_tooLoud_30 ?_
    refine lv_icmp_le (tgt := 38) hx hb dX9_tooLoud_31 (by decide) (fun zc6 => ?_) (fun zc6 => ?_)
    · have hf := ite_t hf zc6
      refine lv_iconst (v := (0 : Int32)) hx hb dX9_tooLoud_38 (by decide) ?_
      exact w9_tooLoud_39 C0 hr hz fl zr4 zhr4 _ _ _ zx0 zx3 zx2 (0 : Int32) zv1 zt0 ezv1 tzv1 hw (lv_sub hl [0, 2] rfl) hf
    · have hf := ite_f hf zc6
      refine lv_iconst (v := (1 : Int32)) hx hb dX9_tooLoud_34 (by decide) ?_
      refine lv_goto (tgt := 39) hx hb dX9_tooLoud_35 (by decide) ?_
      exact w9_tooLoud_39 C0 hr hz fl zr4 zhr4 _ _ _ zx0 zx3 zx2 (1 : Int32) zv1 zt0 ezv1 tzv1 hw (lv_sub hl [0, 2] rfl) hf
theorem w9_tooLoud_4 {p : Program} {l : Launch} {e : Env} {s : State} {m : MethodId} {args : Array Value} {below : List Frame} {meth : Method} {c : Code} {E : EN} {G : GM} {X : Xm} {I : Im} (C0 : CX p s m args meth c E cX9_tooLoud RX9 4) (hr : meth.sig.returnType = (some .int)) (hz : s.heap.size + 0 ≤ eB E + G.1) {rr : Int32} (fl : Nat) : ∀ (n : Nat) (H : Heap) (locs : List Loc) (ls : Array Slot) (zx0 : Nat) (zx2 : Int32) (zx3 : Int32) (zt0 : okA E G 9 zx0), WD E G I X s.heap H locs → lv_has ls 4 [(0, .ref zx0), (2, .int zx2), (3, .int zx3)] → m9_tooLoud_4 fl G.2.2 X I n zx0 zx2 zx3 = some rr → W p l e ({ frames := 0, cells := 0, slots := 0, locals := 0 } : Room) s m args below meth c H locs 0 0 (MQ below (QI E G rr I X) args s 0 0 (eA E)) (F0 m 4 ls []) := by
  intro n
  induction n with
  | zero => intro H locs ls zx0 zx2 zx3 zt0 hw hl hf; exact absurd (show (none : Option (Int32)) = some rr from hf) (by simp)
  | succ n ih => intro H locs ls zx0 zx2 zx3 zt0 hw hl hf; exact w9_tooLoud_4b C0 hr hz fl _ ih H locs ls zx0 zx2 zx3 zt0 hw hl hf
noncomputable def m9_tooLoud (fl : Nat) (len : Nat → Nat) (X : Xm) (I : Im) (zx0 : Nat) (zx1 : Int32) : Option (Int32) :=
  m9_tooLoud_4 fl len X I fl zx0 (0 : Int32) zx1
theorem hy9_tooLoud : yX9_tooLoud.cls = RX9 ∧ yX9_tooLoud.cls ≠ "java/lang/invoke/MethodHandle" ∧ yX9_tooLoud.cls ≠ "java/lang/invoke/VarHandle" ∧ (parseMethodDescriptor yX9_tooLoud.desc).map (fun d => d.parameters.length) = some 1 := ⟨rfl, by decide +kernel, by decide +kernel, by decide +kernel⟩
set_option maxHeartbeats 4000000 in
set_option maxRecDepth 100000 in
theorem c9_tooLoud (l : Launch) (E : EN) (G : GM) (fl : Nat) (X : Xm) (I : Im) (zx0 : Nat) (zx1 : Int32) (zt0 : okA E G 9 zx0) {rr : Int32} (hf : m9_tooLoud fl G.2.2 X I zx0 zx1 = some rr) : MT l yX9_tooLoud cX9_tooLoud 4 (some .int) ({ frames := 0, cells := 0, slots := 0, locals := 0 } : Room) E G I X [.ref zx0, .int zx1] (QI E G rr I X) 0 0 := by
  refine Met.ofW (cc := cX9_tooLoud) (maxL := 4) (ret := (some .int)) (by decide +kernel) rfl ?_
  intro p e s m args below meth c s₁ B hml hv
  obtain ⟨rfl, hw0, hSE⟩ := hv
  have C0 : CX p s m ([.ref zx0, .int zx1] : List Value).toArray meth c E cX9_tooLoud RX9 4 := ⟨B.exec, B.bytes, hml, findClass_of_methodNamed B.named, fun w hw => atoms_spec (ws := WS yX9_tooLoud cX9_tooLoud 4 (some .int)) B.pre w (List.mem_cons_of_mem _ hw), B.notSynchronized, hSE⟩
  have hz : s.heap.size + 0 ≤ eB E + G.1 := Nat.le_of_eq hw0.2.1
  have hw : WD E G I X s.heap s.heap [] := ⟨hw0, va_S.rf⟩
  have hr := B.returns
  have hx := C0.1; have hb := C0.2.1; have hml := C0.2.2.1; have hown := C0.2.2.2.1; have hts := C0.2.2.2.2.1
  have hl := lv_entry ([.ref zx0, .int zx1]) (n := 4) (Nat.le_of_ble_eq_true rfl)
  rw [lg_entry_eq]
  generalize (lg_sl ([.ref zx0, .int zx1]) ++ List.replicate (4 - (lg_sl ([.ref zx0, .int zx1])).length) Slot.unset).toArray = ls at hl ⊢
  have hl : lv_has ls 4 [(0, .ref zx0), (1, .int zx1)] := hl
  unfold m9_tooLoud at hf
  refine lv_iconst (v := (0 : Int32)) hx hb dX9_tooLoud_0 (by decide) ?_
  refine lv_istore_n (lv' := [(2, .int (0 : Int32)), (0, .ref zx0), (1, .int zx1)]) hx hb dX9_tooLoud_1 rfl hl (by decide) rfl (fun ls hl => ?_)
  refine lv_iload_n hx hb dX9_tooLoud_2 rfl (lv_at hl 2 rfl) ?_
  refine lv_istore_n (lv' := [(3, .int zx1), (2, .int (0 : Int32)), (0, .ref zx0), (1, .int zx1)]) hx hb dX9_tooLoud_3 rfl hl (by decide) rfl (fun ls hl => ?_)
  exact w9_tooLoud_4 C0 hr hz fl fl _ _ _ zx0 (0 : Int32) zx1 zt0 hw (lv_sub hl [2, 1, 0] rfl) hf
noncomputable def m9_playing_26 (fl : Nat) (len : Nat → Nat) (X : Xm) (I : Im) (zr4 : Nat → Int32 → Int32 → Option (Int32)) (zx0 : Nat) (zx2 : Int32) (zs0 : Int32) (zs1 : Int32) : Option (Int32) :=
  lt ((zs0 ||| zs1)) fun zv1 =>
  lt (zx2 + 1) fun zv2 =>
  zr4 zx0 zv1 zv2
set_option maxHeartbeats 4000000 in
set_option maxRecDepth 100000 in
theorem w9_playing_26 {p : Program} {l : Launch} {e : Env} {s : State} {m : MethodId} {args : Array Value} {below : List Frame} {meth : Method} {c : Code} {E : EN} {G : GM} {X : Xm} {I : Im} (C0 : CX p s m args meth c E cX9_playing RX9 3) (hr : meth.sig.returnType = (some .int)) (hz : s.heap.size + 0 ≤ eB E + G.1) {rr : Int32} (fl : Nat) (zr4 : Nat → Int32 → Int32 → Option (Int32)) (zhr4 : ∀ (H : Heap) (locs : List Loc) (ls : Array Slot) (zx0 : Nat) (zx1 : Int32) (zx2 : Int32) (zt0 : okA E G 9 zx0), WD E G I X s.heap H locs → lv_has ls 3 [(0, .ref zx0), (1, .int zx1), (2, .int zx2)] → zr4 zx0 zx1 zx2 = some rr → W p l e ({ frames := 1, cells := 0, slots := 0, locals := 22 } : Room) s m args below meth c H locs 0 0 (MQ below (QI E G rr I X) args s 0 0 (eA E)) (F0 m 4 ls [])) : ∀ (H : Heap) (locs : List Loc) (ls : Array Slot) (zx0 : Nat) (zx2 : Int32) (zs0 : Int32) (zs1 : Int32) (zt0 : okA E G 9 zx0), WD E G I X s.heap H locs → lv_has ls 3 [(0, .ref zx0), (2, .int zx2)] → m9_playing_26 fl G.2.2 X I zr4 zx0 zx2 zs0 zs1 = some rr → W p l e ({ frames := 1, cells := 0, slots := 0, locals := 22 } : Room) s m args below meth c H locs 0 0 (MQ below (QI E G rr I X) args s 0 0 (eA E)) (F0 m 26 ls [.int zs1, .int zs0]) := by
  intro H locs ls zx0 zx2 zs0 zs1 zt0 hw hl hf
  unfold m9_playing_26 at hf
  have hx := C0.1; have hb := C0.2.1; have hml := C0.2.2.1; have hown := C0.2.2.2.1; have hts := C0.2.2.2.2.1
  refine lv_ior hx hb dX9_playing_26 ?_
  refine lv_topi (fun zv1 ezv1 => ?_)
  have hf := lt_at hf ezv1
  refine lv_istore_n (lv' := [(1, .int zv1), (0, .ref zx0), (2, .int zx2)]) hx hb dX9_playing_27 rfl hl (by decide) rfl (fun ls hl => ?_)
  obtain ⟨zv2, ezv2⟩ : ∃ y : Int32, y = zx2 + 1 := ⟨_, rfl⟩
  have hf := lt_at hf ezv2
  refine lv_iinc (v := zv2) (lv' := [(2, .int zv2), (1, .int zv1), (0, .ref zx0)]) hx hb dX9_playing_28 hl (k := 2) rfl (by rw [ezv2]; rfl) (by decide) rfl (fun ls hl => ?_)
  refine lv_goto (tgt := 4) hx hb dX9_playing_31 (by decide) ?_
  exact zhr4 _ _ _ zx0 zv1 zv2 zt0 hw (lv_sub hl [2, 1, 0] rfl) hf
noncomputable def m9_playing_4b (fl : Nat) (len : Nat → Nat) (X : Xm) (I : Im) (zr4 : Nat → Int32 → Int32 → Option (Int32)) (zx0 : Nat) (zx1 : Int32) (zx2 : Int32) : Option (Int32) :=
  if (4 : Int32) ≤ zx2 then
    some (zx1)
  else
    nn (m9_reel fl len X I zx0 zx2 (1 : Int32)) fun zv2 =>
    if zv2 ≤ 0 then
      m9_playing_26 fl len X I zr4 zx0 zx2 zx1 (0 : Int32)
    else
      m9_playing_26 fl len X I zr4 zx0 zx2 zx1 ((1 : Int32) <<< (zx2 &&& 31))
noncomputable def m9_playing_4 (fl : Nat) (len : Nat → Nat) (X : Xm) (I : Im) (n : Nat) : Nat → Int32 → Int32 → Option (Int32) :=
  Nat.rec (fun _ _ _ => none) (fun _ r => m9_playing_4b fl len X I r) n
set_option maxHeartbeats 4000000 in
set_option maxRecDepth 100000 in
theorem w9_playing_4b {p : Program} {l : Launch} {e : Env} {s : State} {m : MethodId} {args : Array Value} {below : List Frame} {meth : Method} {c : Code} {E : EN} {G : GM} {X : Xm} {I : Im} (C0 : CX p s m args meth c E cX9_playing RX9 3) (hr : meth.sig.returnType = (some .int)) (hz : s.heap.size + 0 ≤ eB E + G.1) {rr : Int32} (fl : Nat) (zr4 : Nat → Int32 → Int32 → Option (Int32)) (zhr4 : ∀ (H : Heap) (locs : List Loc) (ls : Array Slot) (zx0 : Nat) (zx1 : Int32) (zx2 : Int32) (zt0 : okA E G 9 zx0), WD E G I X s.heap H locs → lv_has ls 3 [(0, .ref zx0), (1, .int zx1), (2, .int zx2)] → zr4 zx0 zx1 zx2 = some rr → W p l e ({ frames := 1, cells := 0, slots := 0, locals := 22 } : Room) s m args below meth c H locs 0 0 (MQ below (QI E G rr I X) args s 0 0 (eA E)) (F0 m 4 ls [])) : ∀ (H : Heap) (locs : List Loc) (ls : Array Slot) (zx0 : Nat) (zx1 : Int32) (zx2 : Int32) (zt0 : okA E G 9 zx0), WD E G I X s.heap H locs → lv_has ls 3 [(0, .ref zx0), (1, .int zx1), (2, .int zx2)] → m9_playing_4b fl G.2.2 X I zr4 zx0 zx1 zx2 = some rr → W p l e ({ frames := 1, cells := 0, slots := 0, locals := 22 } : Room) s m args below meth c H locs 0 0 (MQ below (QI E G rr I X) args s 0 0 (eA E)) (F0 m 4 ls []) := by
  intro H locs ls zx0 zx1 zx2 zt0 hw hl hf
  unfold m9_playing_4b at hf
  have hx := C0.1; have hb := C0.2.1; have hml := C0.2.2.1; have hown := C0.2.2.2.1; have hts := C0.2.2.2.2.1
  refine lv_iload_n hx hb dX9_playing_4 rfl (lv_at hl 2 rfl) ?_
  refine lv_iconst (v := (4 : Int32)) hx hb dX9_playing_5 (by decide) ?_
  refine lv_icmp_ge (tgt := 34) hx hb dX9_playing_6 (by decide) (fun zc1 => ?_) (fun zc1 => ?_)
  · have hf := ite_t hf zc1
    refine lv_iload_n hx hb dX9_playing_34 rfl (lv_at hl 1 rfl) ?_
    obtain rfl := Option.some.inj hf
    exact x_iret C0 hr hw dX9_playing_35
  · have hf := ite_f hf zc1
    refine lv_iload_n hx hb dX9_playing_9 rfl (lv_at hl 1 rfl) ?_
    refine lv_aload_n hx hb dX9_playing_10 rfl (lv_at hl 0 rfl) ?_
    refine lv_iload_n hx hb dX9_playing_11 rfl (lv_at hl 2 rfl) ?_
    refine lv_iconst (v := (1 : Int32)) hx hb dX9_playing_12 (by decide) ?_
    obtain ⟨zv2, ze3, hf⟩ := nn_some hf
    refine x_ci (r := zv2) (I1 := I) (X1 := X) (x_runV (As := [.int zx2, .int (1 : Int32)]) (rest := [.int zx1]) C0 (c9_reel l E G fl X I zx0 zx2 (1 : Int32) zt0 ze3) hw 9 zt0 (by decide) rfl wd119 wd615 wd616 wd617 wd612 ⟨rfl, rfl⟩ hy9_reel ⟨Nat.le_of_ble_eq_true rfl, Nat.le_of_ble_eq_true rfl⟩ rfl hl.1 (Nat.le_of_ble_eq_true rfl) ⟨Nat.zero_le _, Nat.zero_le _⟩ dX9_playing_13) hw (fun H locs hw => ?_)
    refine lv_if_le (tgt := 25) hx hb dX9_playing_16 (by decide) (fun zc4 => ?_) (fun zc4 => ?_)
    · have hf := ite_t hf zc4
      refine lv_iconst (v := (0 : Int32)) hx hb dX9_playing_25 (by decide) ?_
      exact w9_playing_26 C0 hr hz fl zr4 zhr4 _ _ _ zx0 zx2 zx1 (0 : Int32) zt0 hw (lv_sub hl [0, 2] rfl) hf
    · have hf := ite_f hf zc4
      refine lv_iconst (v := (1 : Int32)) hx hb dX9_playing_19 (by decide) ?_
      refine lv_iload_n hx hb dX9_playing_20 rfl (lv_at hl 2 rfl) ?_
      refine lv_ishl hx hb dX9_playing_21 ?_
      refine lv_goto (tgt := 26) hx hb dX9_playing_22 (by decide) ?_
      exact w9_playing_26 C0 hr hz fl zr4 zhr4 _ _ _ zx0 zx2 zx1 ((1 : Int32) <<< (zx2 &&& 31)) zt0 hw (lv_sub hl [0, 2] rfl) hf
theorem w9_playing_4 {p : Program} {l : Launch} {e : Env} {s : State} {m : MethodId} {args : Array Value} {below : List Frame} {meth : Method} {c : Code} {E : EN} {G : GM} {X : Xm} {I : Im} (C0 : CX p s m args meth c E cX9_playing RX9 3) (hr : meth.sig.returnType = (some .int)) (hz : s.heap.size + 0 ≤ eB E + G.1) {rr : Int32} (fl : Nat) : ∀ (n : Nat) (H : Heap) (locs : List Loc) (ls : Array Slot) (zx0 : Nat) (zx1 : Int32) (zx2 : Int32) (zt0 : okA E G 9 zx0), WD E G I X s.heap H locs → lv_has ls 3 [(0, .ref zx0), (1, .int zx1), (2, .int zx2)] → m9_playing_4 fl G.2.2 X I n zx0 zx1 zx2 = some rr → W p l e ({ frames := 1, cells := 0, slots := 0, locals := 22 } : Room) s m args below meth c H locs 0 0 (MQ below (QI E G rr I X) args s 0 0 (eA E)) (F0 m 4 ls []) := by
  intro n
  induction n with
  | zero => intro H locs ls zx0 zx1 zx2 zt0 hw hl hf; exact absurd (show (none : Option (Int32)) = some rr from hf) (by simp)
  | succ n ih => intro H locs ls zx0 zx1 zx2 zt0 hw hl hf; exact w9_playing_4b C0 hr hz fl _ ih H locs ls zx0 zx1 zx2 zt0 hw hl hf
noncomputable def m9_playing (fl : Nat) (len : Nat → Nat) (X : Xm) (I : Im) (zx0 : Nat) : Option (Int32) :=
  m9_playing_4 fl len X I fl zx0 (0 : Int32) (0 : Int32)
theorem hy9_playing : yX9_playing.cls = RX9 ∧ yX9_playing.cls ≠ "java/lang/invoke/MethodHandle" ∧ yX9_playing.cls ≠ "java/lang/invoke/VarHandle" ∧ (parseMethodDescriptor yX9_playing.desc).map (fun d => d.parameters.length) = some 0 := ⟨rfl, by decide +kernel, by decide +kernel, by decide +kernel⟩
set_option maxHeartbeats 4000000 in
set_option maxRecDepth 100000 in
theorem c9_playing (l : Launch) (E : EN) (G : GM) (fl : Nat) (X : Xm) (I : Im) (zx0 : Nat) (zt0 : okA E G 9 zx0) {rr : Int32} (hf : m9_playing fl G.2.2 X I zx0 = some rr) : MT l yX9_playing cX9_playing 3 (some .int) ({ frames := 1, cells := 0, slots := 0, locals := 22 } : Room) E G I X [.ref zx0] (QI E G rr I X) 0 0 := by
  refine Met.ofW (cc := cX9_playing) (maxL := 3) (ret := (some .int)) (by decide +kernel) rfl ?_
  intro p e s m args below meth c s₁ B hml hv
  obtain ⟨rfl, hw0, hSE⟩ := hv
  have C0 : CX p s m ([.ref zx0] : List Value).toArray meth c E cX9_playing RX9 3 := ⟨B.exec, B.bytes, hml, findClass_of_methodNamed B.named, fun w hw => atoms_spec (ws := WS yX9_playing cX9_playing 3 (some .int)) B.pre w (List.mem_cons_of_mem _ hw), B.notSynchronized, hSE⟩
  have hz : s.heap.size + 0 ≤ eB E + G.1 := Nat.le_of_eq hw0.2.1
  have hw : WD E G I X s.heap s.heap [] := ⟨hw0, va_S.rf⟩
  have hr := B.returns
  have hx := C0.1; have hb := C0.2.1; have hml := C0.2.2.1; have hown := C0.2.2.2.1; have hts := C0.2.2.2.2.1
  have hl := lv_entry ([.ref zx0]) (n := 3) (Nat.le_of_ble_eq_true rfl)
  rw [lg_entry_eq]
  generalize (lg_sl ([.ref zx0]) ++ List.replicate (3 - (lg_sl ([.ref zx0])).length) Slot.unset).toArray = ls at hl ⊢
  have hl : lv_has ls 3 [(0, .ref zx0)] := hl
  unfold m9_playing at hf
  refine lv_iconst (v := (0 : Int32)) hx hb dX9_playing_0 (by decide) ?_
  refine lv_istore_n (lv' := [(1, .int (0 : Int32)), (0, .ref zx0)]) hx hb dX9_playing_1 rfl hl (by decide) rfl (fun ls hl => ?_)
  refine lv_iconst (v := (0 : Int32)) hx hb dX9_playing_2 (by decide) ?_
  refine lv_istore_n (lv' := [(2, .int (0 : Int32)), (1, .int (0 : Int32)), (0, .ref zx0)]) hx hb dX9_playing_3 rfl hl (by decide) rfl (fun ls hl => ?_)
  exact w9_playing_4 C0 hr hz fl fl _ _ _ zx0 (0 : Int32) (0 : Int32) zt0 hw (lv_sub hl [2, 1, 0] rfl) hf
noncomputable def m9_count_115 (fl : Nat) (len : Nat → Nat) (X : Xm) (I : Im) (zx0 : Nat) (zx1 : Int32) : Option (Int32) :=
  nn (gR X 144 zx0) fun zv1 =>
  ck (inb (zx1 - (9 : Int32)) (len zv1) = true) <|
  some ((gA I zv1 ((zx1 - (9 : Int32))).toNatClampNeg))
set_option maxHeartbeats 4000000 in
set_option maxRecDepth 100000 in
theorem w9_count_115 {p : Program} {l : Launch} {e : Env} {s : State} {m : MethodId} {args : Array Value} {below : List Frame} {meth : Method} {c : Code} {E : EN} {G : GM} {X : Xm} {I : Im} (C0 : CX p s m args meth c E cX9_count RX9 2) (hr : meth.sig.returnType = (some .int)) (hz : s.heap.size + 0 ≤ eB E + G.1) {rr : Int32} (fl : Nat) : ∀ (H : Heap) (locs : List Loc) (ls : Array Slot) (zx0 : Nat) (zx1 : Int32) (zt0 : okA E G 9 zx0), WD E G I X s.heap H locs → lv_has ls 2 [(0, .ref zx0), (1, .int zx1)] → m9_count_115 fl G.2.2 X I zx0 zx1 = some rr → W p l e ({ frames := 2, cells := 0, slots := 0, locals := 45 } : Room) s m args below meth c H locs 0 0 (MQ below (QI E G rr I X) args s 0 0 (eA E)) (F0 m 115 ls []) := by
  intro H locs ls zx0 zx1 zt0 hw hl hf
  unfold m9_count_115 at hf
  have hx := C0.1; have hb := C0.2.1; have hml := C0.2.2.1; have hown := C0.2.2.2.1; have hts := C0.2.2.2.2.1
  refine lv_aload_n hx hb dX9_count_115 rfl (lv_at hl 0 rfl) ?_
  obtain ⟨zv1, ezv1, hf⟩ := nn_some hf
  have tzv1 : okA E G 11 zv1 := wt_r hw ezv1
  refine xg_9_0 C0 hw zt0 wd601 ezv1 dX9_count_116 ?_
  refine lv_iload_n hx hb dX9_count_119 rfl (lv_at hl 1 rfl) ?_
  refine lv_bipush (v := (9 : Int32)) hx hb dX9_count_120 (by decide) ?_
  refine lv_isub hx hb dX9_count_122 ?_
  obtain ⟨zhb2, hf⟩ := ck_some hf
  refine x_iald C0 hw tzv1 zhb2 dX9_count_123 ?_
  obtain rfl := Option.some.inj hf
  exact x_iret C0 hr hw dX9_count_124
noncomputable def m9_count_90 (fl : Nat) (len : Nat → Nat) (X : Xm) (I : Im) (zx0 : Nat) (zx1 : Int32) : Option (Int32) :=
  nn (m9_cuesThat fl len X I zx0 (zx1 - (2 : Int32))) fun zv1 =>
  some (zv1)
set_option maxHeartbeats 4000000 in
set_option maxRecDepth 100000 in
theorem w9_count_90 {p : Program} {l : Launch} {e : Env} {s : State} {m : MethodId} {args : Array Value} {below : List Frame} {meth : Method} {c : Code} {E : EN} {G : GM} {X : Xm} {I : Im} (C0 : CX p s m args meth c E cX9_count RX9 2) (hr : meth.sig.returnType = (some .int)) (hz : s.heap.size + 0 ≤ eB E + G.1) {rr : Int32} (fl : Nat) : ∀ (H : Heap) (locs : List Loc) (ls : Array Slot) (zx0 : Nat) (zx1 : Int32) (zt0 : okA E G 9 zx0), WD E G I X s.heap H locs → lv_has ls 2 [(0, .ref zx0), (1, .int zx1)] → m9_count_90 fl G.2.2 X I zx0 zx1 = some rr → W p l e ({ frames := 2, cells := 0, slots := 0, locals := 45 } : Room) s m args below meth c H locs 0 0 (MQ below (QI E G rr I X) args s 0 0 (eA E)) (F0 m 90 ls []) := by
  intro H locs ls zx0 zx1 zt0 hw hl hf
  unfold m9_count_90 at hf
  have hx := C0.1; have hb := C0.2.1; have hml := C0.2.2.1; have hown := C0.2.2.2.1; have hts := C0.2.2.2.2.1
  refine lv_aload_n hx hb dX9_count_90 rfl (lv_at hl 0 rfl) ?_
  refine lv_iload_n hx hb dX9_count_91 rfl (lv_at hl 1 rfl) ?_
  refine lv_iconst (v := (2 : Int32)) hx hb dX9_count_92 (by decide) ?_
  refine lv_isub hx hb dX9_count_93 ?_
  obtain ⟨zv1, ze2, hf⟩ := nn_some hf
  refine x_ci (r := zv1) (I1 := I) (X1 := X) (x_runV (As := [.int (zx1 - (2 : Int32))]) (rest := []) C0 (c9_cuesThat l E G fl X I zx0 (zx1 - (2 : Int32)) zt0 ze2) hw 9 zt0 (by decide) rfl wd157 wd690 wd691 wd692 wd612 ⟨rfl, rfl⟩ hy9_cuesThat ⟨Nat.le_of_ble_eq_true rfl, Nat.le_of_ble_eq_true rfl⟩ rfl hl.1 (Nat.le_of_ble_eq_true rfl) ⟨Nat.zero_le _, Nat.zero_le _⟩ dX9_count_94) hw (fun H locs hw => ?_)
  obtain rfl := Option.some.inj hf
  exact x_iret C0 hr hw dX9_count_97
noncomputable def m9_count (fl : Nat) (len : Nat → Nat) (X : Xm) (I : Im) (zx0 : Nat) (zx1 : Int32) : Option (Int32) :=
  if zx1 = (0 : Int32) then
    nn (gR X 144 zx0) fun zv2 =>
    ck (inb (4 : Int32) (len zv2) = true) <|
    some ((gA I zv2 ((4 : Int32)).toNatClampNeg))
  else
    if zx1 = (1 : Int32) then
      nn (gR X 144 zx0) fun zv5 =>
      ck (inb (5 : Int32) (len zv5) = true) <|
      some ((gA I zv5 ((5 : Int32)).toNatClampNeg))
    else
      if zx1 = (2 : Int32) then
        m9_count_90 fl len X I zx0 zx1
      else
        if zx1 = (3 : Int32) then
          m9_count_90 fl len X I zx0 zx1
        else
          if zx1 = (4 : Int32) then
            m9_count_90 fl len X I zx0 zx1
          else
            if zx1 = (5 : Int32) then
              m9_count_90 fl len X I zx0 zx1
            else
              if zx1 = (6 : Int32) then
                nn (m9_loudest fl len X I zx0 (0 : Int32)) fun zv12 =>
                some (zv12)
              else
                if zx1 = (7 : Int32) then
                  nn (m9_tooLoud fl len X I zx0 (0 : Int32)) fun zv15 =>
                  some (zv15)
                else
                  if zx1 = (8 : Int32) then
                    nn (m9_playing fl len X I zx0) fun zv18 =>
                    some (zv18)
                  else
                    if zx1 = (9 : Int32) then
                      m9_count_115 fl len X I zx0 zx1
                    else
                      if zx1 = (10 : Int32) then
                        m9_count_115 fl len X I zx0 zx1
                      else
                        if zx1 = (11 : Int32) then
                          m9_count_115 fl len X I zx0 zx1
                        else
                          if zx1 = (12 : Int32) then
                            m9_count_115 fl len X I zx0 zx1
                          else
                            if zx1 = (13 : Int32) then
                              some ((gF I 152 zx0))
                            else
                              if zx1 = (14 : Int32) then
                                some ((gF I 149 zx0))
                              else
                                some ((-2 : Int32))
theorem hy9_count : yX9_count.cls = RX9 ∧ yX9_count.cls ≠ "java/lang/invoke/MethodHandle" ∧ yX9_count.cls ≠ "java/lang/invoke/VarHandle" ∧ (parseMethodDescriptor yX9_count.desc).map (fun d => d.parameters.length) = some 1 := ⟨rfl, by decide +kernel, by decide +kernel, by decide +kernel⟩
set_option maxHeartbeats 4000000 in
set_option maxRecDepth 100000 in
theorem c9_count (l : Launch) (E : EN) (G : GM) (fl : Nat) (X : Xm) (I : Im) (zx0 : Nat) (zx1 : Int32) (zt0 : okA E G 9 zx0) {rr : Int32} (hf : m9_count fl G.2.2 X I zx0 zx1 = some rr) : MT l yX9_count cX9_count 2 (some .int) ({ frames := 2, cells := 0, slots := 0, locals := 45 } : Room) E G I X [.ref zx0, .int zx1] (QI E G rr I X) 0 0 := by
  refine Met.ofW (cc := cX9_count) (maxL := 2) (ret := (some .int)) (by decide +kernel) rfl ?_
  intro p e s m args below meth c s₁ B hml hv
  obtain ⟨rfl, hw0, hSE⟩ := hv
  have C0 : CX p s m ([.ref zx0, .int zx1] : List Value).toArray meth c E cX9_count RX9 2 := ⟨B.exec, B.bytes, hml, findClass_of_methodNamed B.named, fun w hw => atoms_spec (ws := WS yX9_count cX9_count 2 (some .int)) B.pre w (List.mem_cons_of_mem _ hw), B.notSynchronized, hSE⟩
  have hz : s.heap.size + 0 ≤ eB E + G.1 := Nat.le_of_eq hw0.2.1
  have hw : WD E G I X s.heap s.heap [] := ⟨hw0, va_S.rf⟩
  have hr := B.returns
  have hx := C0.1; have hb := C0.2.1; have hml := C0.2.2.1; have hown := C0.2.2.2.1; have hts := C0.2.2.2.2.1
  have hl := lv_entry ([.ref zx0, .int zx1]) (n := 2) (Nat.le_of_ble_eq_true rfl)
  rw [lg_entry_eq]
  generalize (lg_sl ([.ref zx0, .int zx1]) ++ List.replicate (2 - (lg_sl ([.ref zx0, .int zx1])).length) Slot.unset).toArray = ls at hl ⊢
  have hl : lv_has ls 2 [(0, .ref zx0), (1, .int zx1)] := hl
  unfold m9_count at hf
  refine lv_iload_n hx hb dX9_count_0 rfl (lv_at hl 1 rfl) ?_
  by_cases zc1 : zx1 = (0 : Int32)
  · have hf := ite_t hf zc1
    refine lv_tableIn (off := 75) (tgt := 76) hx hb dX9_count_1 (by rw [zc1]; decide) (by rw [zc1]; decide) (by rw [zc1]; rfl) (by decide) ?_
    refine lv_aload_n hx hb dX9_count_76 rfl (lv_at hl 0 rfl) ?_
    obtain ⟨zv2, ezv2, hf⟩ := nn_some hf
    have tzv2 : okA E G 11 zv2 := wt_r hw ezv2
    refine xg_9_0 C0 hw zt0 wd601 ezv2 dX9_count_77 ?_
    refine lv_iconst (v := (4 : Int32)) hx hb dX9_count_80 (by decide) ?_
    obtain ⟨zhb3, hf⟩ := ck_some hf
    refine x_iald C0 hw tzv2 zhb3 dX9_count_81 ?_
    obtain rfl := Option.some.inj hf
    exact x_iret C0 hr hw dX9_count_82
  · have hf := ite_f hf zc1
    by_cases zc4 : zx1 = (1 : Int32)
    · have hf := ite_t hf zc4
      refine lv_tableIn (off := 82) (tgt := 83) hx hb dX9_count_1 (by rw [zc4]; decide) (by rw [zc4]; decide) (by rw [zc4]; rfl) (by decide) ?_
      refine lv_aload_n hx hb dX9_count_83 rfl (lv_at hl 0 rfl) ?_
      obtain ⟨zv5, ezv5, hf⟩ := nn_some hf
      have tzv5 : okA E G 11 zv5 := wt_r hw ezv5
      refine xg_9_0 C0 hw zt0 wd601 ezv5 dX9_count_84 ?_
      refine lv_iconst (v := (5 : Int32)) hx hb dX9_count_87 (by decide) ?_
      obtain ⟨zhb6, hf⟩ := ck_some hf
      refine x_iald C0 hw tzv5 zhb6 dX9_count_88 ?_
      obtain rfl := Option.some.inj hf
      exact x_iret C0 hr hw dX9_count_89
    · have hf := ite_f hf zc4
      by_cases zc7 : zx1 = (2 : Int32)
      · have hf := ite_t hf zc7
        refine lv_tableIn (off := 89) (tgt := 90) hx hb dX9_count_1 (by rw [zc7]; decide) (by rw [zc7]; decide) (by rw [zc7]; rfl) (by decide) ?_
        exact w9_count_90 C0 hr hz fl _ _ _ zx0 zx1 zt0 hw (lv_sub hl [0, 1] rfl) hf
      · have hf := ite_f hf zc7
        by_cases zc8 : zx1 = (3 : Int32)
        · have hf := ite_t hf zc8
          refine lv_tableIn (off := 89) (tgt := 90) hx hb dX9_count_1 (by rw [zc8]; decide) (by rw [zc8]; decide) (by rw [zc8]; rfl) (by decide) ?_
          exact w9_count_90 C0 hr hz fl _ _ _ zx0 zx1 zt0 hw (lv_sub hl [0, 1] rfl) hf
        · have hf := ite_f hf zc8
          by_cases zc9 : zx1 = (4 : Int32)
          · have hf := ite_t hf zc9
            refine lv_tableIn (off := 89) (tgt := 90) hx hb dX9_count_1 (by rw [zc9]; decide) (by rw [zc9]; decide) (by rw [zc9]; rfl) (by decide) ?_
            exact w9_count_90 C0 hr hz fl _ _ _ zx0 zx1 zt0 hw (lv_sub hl [0, 1] rfl) hf
          · have hf := ite_f hf zc9
            by_cases zc10 : zx1 = (5 : Int32)
            · have hf := ite_t hf zc10
              refine lv_tableIn (off := 89) (tgt := 90) hx hb dX9_count_1 (by rw [zc10]; decide) (by rw [zc10]; decide) (by rw [zc10]; rfl) (by decide) ?_
              exact w9_count_90 C0 hr hz fl _ _ _ zx0 zx1 zt0 hw (lv_sub hl [0, 1] rfl) hf
            · have hf := ite_f hf zc10
              by_cases zc11 : zx1 = (6 : Int32)
              · have hf := ite_t hf zc11
                refine lv_tableIn (off := 97) (tgt := 98) hx hb dX9_count_1 (by rw [zc11]; decide) (by rw [zc11]; decide) (by rw [zc11]; rfl) (by decide) ?_
                refine lv_aload_n hx hb dX9_count_98 rfl (lv_at hl 0 rfl) ?_
                refine lv_iconst (v := (0 : Int32)) hx hb dX9_count_99 (by decide) ?_
                obtain ⟨zv12, ze13, hf⟩ := nn_some hf
                refine x_ci (r := zv12) (I1 := I) (X1 := X) (x_runV (As := [.int (0 : Int32)]) (rest := []) C0 (c9_loudest l E G fl X I zx0 (0 : Int32) zt0 ze13) hw 9 zt0 (by decide) rfl wd158 wd693 wd694 wd695 wd612 ⟨rfl, rfl⟩ hy9_loudest ⟨Nat.le_of_ble_eq_true rfl, Nat.le_of_ble_eq_true rfl⟩ rfl hl.1 (Nat.le_of_ble_eq_true rfl) ⟨Nat.zero_le _, Nat.zero_le _⟩ dX9_count_100) hw (fun H locs hw => ?_)
                obtain rfl := Option.some.inj hf
                exact x_iret C0 hr hw dX9_count_103
              · have hf := ite_f hf zc11
                by_cases zc14 : zx1 = (7 : Int32)
                · have hf := ite_t hf zc14
                  refine lv_tableIn (off := 103) (tgt := 104) hx hb dX9_count_1 (by rw [zc14]; decide) (by rw [zc14]; decide) (by rw [zc14]; rfl) (by decide) ?_
                  refine lv_aload_n hx hb dX9_count_104 rfl (lv_at hl 0 rfl) ?_
                  refine lv_iconst (v := (0 : Int32)) hx hb dX9_count_105 (by decide) ?_
                  obtain ⟨zv15, ze16, hf⟩ := nn_some hf
                  refine x_ci (r := zv15) (I1 := I) (X1 := X) (x_runV (As := [.int (0 : Int32)]) (rest := []) C0 (c9_tooLoud l E G fl X I zx0 (0 : Int32) zt0 ze16) hw 9 zt0 (by decide) rfl wd159 wd696 wd697 wd698 wd612 ⟨rfl, rfl⟩ hy9_tooLoud ⟨Nat.le_of_ble_eq_true rfl, Nat.le_of_ble_eq_true rfl⟩ rfl hl.1 (Nat.le_of_ble_eq_true rfl) ⟨Nat.zero_le _, Nat.zero_le _⟩ dX9_count_106) hw (fun H locs hw => ?_)
                  obtain rfl := Option.some.inj hf
                  exact x_iret C0 hr hw dX9_count_109
                · have hf := ite_f hf zc14
                  by_cases zc17 : zx1 = (8 : Int32)
                  · have hf := ite_t hf zc17
                    refine lv_tableIn (off := 109) (tgt := 110) hx hb dX9_count_1 (by rw [zc17]; decide) (by rw [zc17]; decide) (by rw [zc17]; rfl) (by decide) ?_
                    refine lv_aload_n hx hb dX9_count_110 rfl (lv_at hl 0 rfl) ?_
                    obtain ⟨zv18, ze19, hf⟩ := nn_some hf
                    refine x_ci (r := zv18) (I1 := I) (X1 := X) (x_runV (As := []) (rest := []) C0 (c9_playing l E G fl X I zx0 zt0 ze19) hw 9 zt0 (by decide) rfl wd160 wd699 wd700 wd701 wd612 ⟨rfl, rfl⟩ hy9_playing ⟨Nat.le_of_ble_eq_true rfl, Nat.le_of_ble_eq_true rfl⟩ rfl hl.1 (Nat.le_of_ble_eq_true rfl) ⟨Nat.zero_le _, Nat.zero_le _⟩ dX9_count_111) hw (fun H locs hw => ?_)
                    obtain rfl := Option.some.inj hf
                    exact x_iret C0 hr hw dX9_count_114
                  · have hf := ite_f hf zc17
                    by_cases zc20 : zx1 = (9 : Int32)
                    · have hf := ite_t hf zc20
                      refine lv_tableIn (off := 114) (tgt := 115) hx hb dX9_count_1 (by rw [zc20]; decide) (by rw [zc20]; decide) (by rw [zc20]; rfl) (by decide) ?_
                      exact w9_count_115 C0 hr hz fl _ _ _ zx0 zx1 zt0 hw (lv_sub hl [0, 1] rfl) hf
                    · have hf := ite_f hf zc20
                      by_cases zc21 : zx1 = (10 : Int32)
                      · have hf := ite_t hf zc21
                        refine lv_tableIn (off := 114) (tgt := 115) hx hb dX9_count_1 (by rw [zc21]; decide) (by rw [zc21]; decide) (by rw [zc21]; rfl) (by decide) ?_
                        exact w9_count_115 C0 hr hz fl _ _ _ zx0 zx1 zt0 hw (lv_sub hl [0, 1] rfl) hf
                      · have hf := ite_f hf zc21
                        by_cases zc22 : zx1 = (11 : Int32)
                        · have hf := ite_t hf zc22
                          refine lv_tableIn (off := 114) (tgt := 115) hx hb dX9_count_1 (by rw [zc22]; decide) (by rw [zc22]; decide) (by rw [zc22]; rfl) (by decide) ?_
                          exact w9_count_115 C0 hr hz fl _ _ _ zx0 zx1 zt0 hw (lv_sub hl [0, 1] rfl) hf
                        · have hf := ite_f hf zc22
                          by_cases zc23 : zx1 = (12 : Int32)
                          · have hf := ite_t hf zc23
                            refine lv_tableIn (off := 114) (tgt := 115) hx hb dX9_count_1 (by rw [zc23]; decide) (by rw [zc23]; decide) (by rw [zc23]; rfl) (by decide) ?_
                            exact w9_count_115 C0 hr hz fl _ _ _ zx0 zx1 zt0 hw (lv_sub hl [0, 1] rfl) hf
                          · have hf := ite_f hf zc23
                            by_cases zc24 : zx1 = (13 : Int32)
                            · have hf := ite_t hf zc24
                              refine lv_tableIn (off := 124) (tgt := 125) hx hb dX9_count_1 (by rw [zc24]; decide) (by rw [zc24]; decide) (by rw [zc24]; rfl) (by decide) ?_
                              refine lv_aload_n hx hb dX9_count_125 rfl (lv_at hl 0 rfl) ?_
                              refine xg_9_8 C0 hw zt0 wd689 dX9_count_126 ?_
                              obtain rfl := Option.some.inj hf
                              exact x_iret C0 hr hw dX9_count_129
                            · have hf := ite_f hf zc24
                              by_cases zc25 : zx1 = (14 : Int32)
                              · have hf := ite_t hf zc25
                                refine lv_tableIn (off := 129) (tgt := 130) hx hb dX9_count_1 (by rw [zc25]; decide) (by rw [zc25]; decide) (by rw [zc25]; rfl) (by decide) ?_
                                refine lv_aload_n hx hb dX9_count_130 rfl (lv_at hl 0 rfl) ?_
                                refine xg_9_5 C0 hw zt0 wd609 dX9_count_131 ?_
                                obtain rfl := Option.some.inj hf
                                exact x_iret C0 hr hw dX9_count_134
                              · have hf := ite_f hf zc25
                                have zq0 := tsw_ne _ zc1 (show ((0 : Int32)).toInt = 0 by decide)
                                have zq1 := tsw_ne _ zc4 (show ((1 : Int32)).toInt = 1 by decide)
                                have zq2 := tsw_ne _ zc7 (show ((2 : Int32)).toInt = 2 by decide)
                                have zq3 := tsw_ne _ zc8 (show ((3 : Int32)).toInt = 3 by decide)
                                have zq4 := tsw_ne _ zc9 (show ((4 : Int32)).toInt = 4 by decide)
                                have zq5 := tsw_ne _ zc10 (show ((5 : Int32)).toInt = 5 by decide)
                                have zq6 := tsw_ne _ zc11 (show ((6 : Int32)).toInt = 6 by decide)
                                have zq7 := tsw_ne _ zc14 (show ((7 : Int32)).toInt = 7 by decide)
                                have zq8 := tsw_ne _ zc17 (show ((8 : Int32)).toInt = 8 by decide)
                                have zq9 := tsw_ne _ zc20 (show ((9 : Int32)).toInt = 9 by decide)
                                have zq10 := tsw_ne _ zc21 (show ((10 : Int32)).toInt = 10 by decide)
                                have zq11 := tsw_ne _ zc22 (show ((11 : Int32)).toInt = 11 by decide)
                                have zq12 := tsw_ne _ zc23 (show ((12 : Int32)).toInt = 12 by decide)
                                have zq13 := tsw_ne _ zc24 (show ((13 : Int32)).toInt = 13 by decide)
                                have zq14 := tsw_ne _ zc25 (show ((14 : Int32)).toInt = 14 by decide)
                                refine lv_tableOut (tgt := 135) hx hb dX9_count_1 (by omega) (by decide) ?_
                                refine lv_bipush (v := (-2 : Int32)) hx hb dX9_count_135 (by decide) ?_
                                obtain rfl := Option.some.inj hf
                                exact x_iret C0 hr hw dX9_count_137
noncomputable def m9_playsRest_27 (fl : Nat) (len : Nat → Nat) (X : Xm) (zr2 : Im → Nat → Int32 → Option (Int32 × Im)) (I : Im) (zx0 : Nat) (zx1 : Int32) : Option (Int32 × Im) :=
  nn (m9_passes fl len X I zx0) fun ⟨zv1, zI2⟩ =>
  lt ((zx1 + zv1)) fun zv4 =>
  zr2 zI2 zx0 zv4
set_option maxHeartbeats 4000000 in
set_option maxRecDepth 100000 in
theorem w9_playsRest_27 {p : Program} {l : Launch} {e : Env} {s : State} {m : MethodId} {args : Array Value} {below : List Frame} {meth : Method} {c : Code} {E : EN} {G : GM} {X : Xm} (C0 : CX p s m args meth c E cX9_playsRest RX9 2) (hr : meth.sig.returnType = (some .int)) (hz : s.heap.size + 0 ≤ eB E + G.1) {rr : Int32 × Im} (fl : Nat) (zr2 : Im → Nat → Int32 → Option (Int32 × Im)) (zhr2 : ∀ (I : Im) (H : Heap) (locs : List Loc) (ls : Array Slot) (zx0 : Nat) (zx1 : Int32) (zt0 : okA E G 9 zx0), WD E G I X s.heap H locs → lv_has ls 2 [(0, .ref zx0), (1, .int zx1)] → zr2 I zx0 zx1 = some rr → W p l e ({ frames := 4, cells := 0, slots := 0, locals := 93 } : Room) s m args below meth c H locs 0 0 (MQ below (QI E G rr.1 rr.2 X) args s 0 0 (eA E)) (F0 m 2 ls [])) : ∀ (I : Im) (H : Heap) (locs : List Loc) (ls : Array Slot) (zx0 : Nat) (zx1 : Int32) (zt0 : okA E G 9 zx0), WD E G I X s.heap H locs → lv_has ls 2 [(0, .ref zx0), (1, .int zx1)] → m9_playsRest_27 fl G.2.2 X zr2 I zx0 zx1 = some rr → W p l e ({ frames := 4, cells := 0, slots := 0, locals := 93 } : Room) s m args below meth c H locs 0 0 (MQ below (QI E G rr.1 rr.2 X) args s 0 0 (eA E)) (F0 m 27 ls []) := by
  intro I H locs ls zx0 zx1 zt0 hw hl hf
  unfold m9_playsRest_27 at hf
  have hx := C0.1; have hb := C0.2.1; have hml := C0.2.2.1; have hown := C0.2.2.2.1; have hts := C0.2.2.2.2.1
  refine lv_iload_n hx hb dX9_playsRest_27 rfl (lv_at hl 1 rfl) ?_
  refine lv_aload_n hx hb dX9_playsRest_28 rfl (lv_at hl 0 rfl) ?_
  obtain ⟨⟨zv1, zI2⟩, ze3, hf⟩ := nn_some hf
  refine x_ci (r := zv1) (I1 := zI2) (X1 := X) (x_runV (As := []) (rest := [.int zx1]) C0 (c9_passes l E G fl X I zx0 zt0 ze3) hw 9 zt0 (by decide) rfl wd135 wd683 wd684 wd685 wd612 ⟨rfl, rfl⟩ hy9_passes ⟨Nat.le_of_ble_eq_true rfl, Nat.le_of_ble_eq_true rfl⟩ rfl hl.1 (Nat.le_of_ble_eq_true rfl) ⟨Nat.zero_le _, Nat.zero_le _⟩ dX9_playsRest_29) hw (fun H locs hw => ?_)
  refine lv_iadd hx hb dX9_playsRest_32 ?_
  refine lv_topi (fun zv4 ezv4 => ?_)
  have hf := lt_at hf ezv4
  refine lv_istore_n (lv' := [(1, .int zv4), (0, .ref zx0)]) hx hb dX9_playsRest_33 rfl hl (by decide) rfl (fun ls hl => ?_)
  refine lv_goto (tgt := 2) hx hb dX9_playsRest_34 (by decide) ?_
  exact zhr2 zI2 _ _ _ zx0 zv4 zt0 hw (lv_sub hl [1, 0] rfl) hf
noncomputable def m9_playsRest_2b (fl : Nat) (len : Nat → Nat) (X : Xm) (zr2 : Im → Nat → Int32 → Option (Int32 × Im)) (I : Im) (zx0 : Nat) (zx1 : Int32) : Option (Int32 × Im) :=
  nn (m9_cuesThat fl len X I zx0 (0 : Int32)) fun zv1 =>
  if 0 < zv1 then
    m9_playsRest_27 fl len X zr2 I zx0 zx1
  else
    nn (m9_playing fl len X I zx0) fun zv4 =>
    if 0 < zv4 then
      m9_playsRest_27 fl len X zr2 I zx0 zx1
    else
      nn (gR X 144 zx0) fun zv7 =>
      ck (inb (6 : Int32) (len zv7) = true) <|
      if (gA I zv7 ((6 : Int32)).toNatClampNeg) ≤ 0 then
        some (zx1, I)
      else
        m9_playsRest_27 fl len X zr2 I zx0 zx1
noncomputable def m9_playsRest_2 (fl : Nat) (len : Nat → Nat) (X : Xm) (n : Nat) : Im → Nat → Int32 → Option (Int32 × Im) :=
  Nat.rec (fun _ _ _ => none) (fun _ r => m9_playsRest_2b fl len X r) n
set_option maxHeartbeats 4000000 in
set_option maxRecDepth 100000 in
theorem w9_playsRest_2b {p : Program} {l : Launch} {e : Env} {s : State} {m : MethodId} {args : Array Value} {below : List Frame} {meth : Method} {c : Code} {E : EN} {G : GM} {X : Xm} (C0 : CX p s m args meth c E cX9_playsRest RX9 2) (hr : meth.sig.returnType = (some .int)) (hz : s.heap.size + 0 ≤ eB E + G.1) {rr : Int32 × Im} (fl : Nat) (zr2 : Im → Nat → Int32 → Option (Int32 × Im)) (zhr2 : ∀ (I : Im) (H : Heap) (locs : List Loc) (ls : Array Slot) (zx0 : Nat) (zx1 : Int32) (zt0 : okA E G 9 zx0), WD E G I X s.heap H locs → lv_has ls 2 [(0, .ref zx0), (1, .int zx1)] → zr2 I zx0 zx1 = some rr → W p l e ({ frames := 4, cells := 0, slots := 0, locals := 93 } : Room) s m args below meth c H locs 0 0 (MQ below (QI E G rr.1 rr.2 X) args s 0 0 (eA E)) (F0 m 2 ls [])) : ∀ (I : Im) (H : Heap) (locs : List Loc) (ls : Array Slot) (zx0 : Nat) (zx1 : Int32) (zt0 : okA E G 9 zx0), WD E G I X s.heap H locs → lv_has ls 2 [(0, .ref zx0), (1, .int zx1)] → m9_playsRest_2b fl G.2.2 X zr2 I zx0 zx1 = some rr → W p l e ({ frames := 4, cells := 0, slots := 0, locals := 93 } : Room) s m args below meth c H locs 0 0 (MQ below (QI E G rr.1 rr.2 X) args s 0 0 (eA E)) (F0 m 2 ls []) := by
  intro I H locs ls zx0 zx1 zt0 hw hl hf
  unfold m9_playsRest_2b at hf
  have hx := C0.1; have hb := C0.2.1; have hml := C0.2.2.1; have hown := C0.2.2.2.1; have hts := C0.2.2.2.2.1
  refine lv_aload_n hx hb dX9_playsRest_2 rfl (lv_at hl 0 rfl) ?_
  refine lv_iconst (v := (0 : Int32)) hx hb dX9_playsRest_3 (by decide) ?_
  obtain ⟨zv1, ze2, hf⟩ := nn_some hf
  refine x_ci (r := zv1) (I1 := I) (X1 := X) (x_runV (As := [.int (0 : Int32)]) (rest := []) C0 (c9_cuesThat l E G fl X I zx0 (0 : Int32) zt0 ze2) hw 9 zt0 (by decide) rfl wd157 wd690 wd691 wd692 wd612 ⟨rfl, rfl⟩ hy9_cuesThat ⟨Nat.le_of_ble_eq_true rfl, Nat.le_of_ble_eq_true rfl⟩ rfl hl.1 (Nat.le_of_ble_eq_true rfl) ⟨Nat.zero_le _, Nat.zero_le _⟩ dX9_playsRest_4) hw (fun H locs hw => ?_)
  refine lv_if_gt (tgt := 27) hx hb dX9_playsRest_7 (by decide) (fun zc3 => ?_) (fun zc3 => ?_)
  · have hf := ite_t hf zc3
    exact w9_playsRest_27 C0 hr hz fl zr2 zhr2 I _ _ _ zx0 zx1 zt0 hw (lv_sub hl [0, 1] rfl) hf
  · have hf := ite_f hf zc3
    refine lv_aload_n hx hb dX9_playsRest_10 rfl (lv_at hl 0 rfl) ?_
    obtain ⟨zv4, ze5, hf⟩ := nn_some hf
    refine x_ci (r := zv4) (I1 := I) (X1 := X) (x_runV (As := []) (rest := []) C0 (c9_playing l E G fl X I zx0 zt0 ze5) hw 9 zt0 (by decide) rfl wd160 wd699 wd700 wd701 wd612 ⟨rfl, rfl⟩ hy9_playing ⟨Nat.le_of_ble_eq_true rfl, Nat.le_of_ble_eq_true rfl⟩ rfl hl.1 (Nat.le_of_ble_eq_true rfl) ⟨Nat.zero_le _, Nat.zero_le _⟩ dX9_playsRest_11) hw (fun H locs hw => ?_)
    refine lv_if_gt (tgt := 27) hx hb dX9_playsRest_14 (by decide) (fun zc6 => ?_) (fun zc6 => ?_)
    · have hf := ite_t hf zc6
      exact w9_playsRest_27 C0 hr hz fl zr2 zhr2 I _ _ _ zx0 zx1 zt0 hw (lv_sub hl [0, 1] rfl) hf
    · have hf := ite_f hf zc6
      refine lv_aload_n hx hb dX9_playsRest_17 rfl (lv_at hl 0 rfl) ?_
      obtain ⟨zv7, ezv7, hf⟩ := nn_some hf
      have tzv7 : okA E G 11 zv7 := wt_r hw ezv7
      refine xg_9_0 C0 hw zt0 wd601 ezv7 dX9_playsRest_18 ?_
      refine lv_bipush (v := (6 : Int32)) hx hb dX9_playsRest_21 (by decide) ?_
      obtain ⟨zhb8, hf⟩ := ck_some hf
      refine x_iald C0 hw tzv7 zhb8 dX9_playsRest_23 ?_
      refine lv_if_le (tgt := 37) hx hb dX9_playsRest_24 (by decide) (fun zc9 => ?_) (fun zc9 => ?_)
      · have hf := ite_t hf zc9
        refine lv_iload_n hx hb dX9_playsRest_37 rfl (lv_at hl 1 rfl) ?_
        obtain rfl := Option.some.inj hf
        exact x_iret C0 hr hw dX9_playsRest_38
      · have hf := ite_f hf zc9
        exact w9_playsRest_27 C0 hr hz fl zr2 zhr2 I _ _ _ zx0 zx1 zt0 hw (lv_sub hl [0, 1] rfl) hf
theorem w9_playsRest_2 {p : Program} {l : Launch} {e : Env} {s : State} {m : MethodId} {args : Array Value} {below : List Frame} {meth : Method} {c : Code} {E : EN} {G : GM} {X : Xm} (C0 : CX p s m args meth c E cX9_playsRest RX9 2) (hr : meth.sig.returnType = (some .int)) (hz : s.heap.size + 0 ≤ eB E + G.1) {rr : Int32 × Im} (fl : Nat) : ∀ (n : Nat) (I : Im) (H : Heap) (locs : List Loc) (ls : Array Slot) (zx0 : Nat) (zx1 : Int32) (zt0 : okA E G 9 zx0), WD E G I X s.heap H locs → lv_has ls 2 [(0, .ref zx0), (1, .int zx1)] → m9_playsRest_2 fl G.2.2 X n I zx0 zx1 = some rr → W p l e ({ frames := 4, cells := 0, slots := 0, locals := 93 } : Room) s m args below meth c H locs 0 0 (MQ below (QI E G rr.1 rr.2 X) args s 0 0 (eA E)) (F0 m 2 ls []) := by
  intro n
  induction n with
  | zero => intro I H locs ls zx0 zx1 zt0 hw hl hf; exact absurd (show (none : Option (Int32 × Im)) = some rr from hf) (by simp)
  | succ n ih => intro I H locs ls zx0 zx1 zt0 hw hl hf; exact w9_playsRest_2b C0 hr hz fl _ ih I H locs ls zx0 zx1 zt0 hw hl hf
noncomputable def m9_playsRest (fl : Nat) (len : Nat → Nat) (X : Xm) (I : Im) (zx0 : Nat) : Option (Int32 × Im) :=
  m9_playsRest_2 fl len X fl I zx0 (0 : Int32)
theorem hy9_playsRest : yX9_playsRest.cls = RX9 ∧ yX9_playsRest.cls ≠ "java/lang/invoke/MethodHandle" ∧ yX9_playsRest.cls ≠ "java/lang/invoke/VarHandle" ∧ (parseMethodDescriptor yX9_playsRest.desc).map (fun d => d.parameters.length) = some 0 := ⟨rfl, by decide +kernel, by decide +kernel, by decide +kernel⟩
set_option maxHeartbeats 4000000 in
set_option maxRecDepth 100000 in
theorem c9_playsRest (l : Launch) (E : EN) (G : GM) (fl : Nat) (X : Xm) (I : Im) (zx0 : Nat) (zt0 : okA E G 9 zx0) {rr : Int32 × Im} (hf : m9_playsRest fl G.2.2 X I zx0 = some rr) : MT l yX9_playsRest cX9_playsRest 2 (some .int) ({ frames := 4, cells := 0, slots := 0, locals := 93 } : Room) E G I X [.ref zx0] (QI E G rr.1 rr.2 X) 0 0 := by
  refine Met.ofW (cc := cX9_playsRest) (maxL := 2) (ret := (some .int)) (by decide +kernel) rfl ?_
  intro p e s m args below meth c s₁ B hml hv
  obtain ⟨rfl, hw0, hSE⟩ := hv
  have C0 : CX p s m ([.ref zx0] : List Value).toArray meth c E cX9_playsRest RX9 2 := ⟨B.exec, B.bytes, hml, findClass_of_methodNamed B.named, fun w hw => atoms_spec (ws := WS yX9_playsRest cX9_playsRest 2 (some .int)) B.pre w (List.mem_cons_of_mem _ hw), B.notSynchronized, hSE⟩
  have hz : s.heap.size + 0 ≤ eB E + G.1 := Nat.le_of_eq hw0.2.1
  have hw : WD E G I X s.heap s.heap [] := ⟨hw0, va_S.rf⟩
  have hr := B.returns
  have hx := C0.1; have hb := C0.2.1; have hml := C0.2.2.1; have hown := C0.2.2.2.1; have hts := C0.2.2.2.2.1
  have hl := lv_entry ([.ref zx0]) (n := 2) (Nat.le_of_ble_eq_true rfl)
  rw [lg_entry_eq]
  generalize (lg_sl ([.ref zx0]) ++ List.replicate (2 - (lg_sl ([.ref zx0])).length) Slot.unset).toArray = ls at hl ⊢
  have hl : lv_has ls 2 [(0, .ref zx0)] := hl
  unfold m9_playsRest at hf
  refine lv_iconst (v := (0 : Int32)) hx hb dX9_playsRest_0 (by decide) ?_
  refine lv_istore_n (lv' := [(1, .int (0 : Int32)), (0, .ref zx0)]) hx hb dX9_playsRest_1 rfl hl (by decide) rfl (fun ls hl => ?_)
  exact w9_playsRest_2 C0 hr hz fl fl I _ _ _ zx0 (0 : Int32) zt0 hw (lv_sub hl [1, 0] rfl) hf
noncomputable def m9_rest_118 (fl : Nat) (len : Nat → Nat) (X : Xm) (I : Im) (zs0 : Int32) : Option (Int32 × Im) :=
  some (zs0, I)
set_option maxHeartbeats 4000000 in
set_option maxRecDepth 100000 in
theorem w9_rest_118 {p : Program} {l : Launch} {e : Env} {s : State} {m : MethodId} {args : Array Value} {below : List Frame} {meth : Method} {c : Code} {E : EN} {G : GM} {X : Xm} (C0 : CX p s m args meth c E cX9_rest RX9 8) (hr : meth.sig.returnType = (some .int)) (hz : s.heap.size + 0 ≤ eB E + G.1) {rr : Int32 × Im} (fl : Nat) : ∀ (I : Im) (H : Heap) (locs : List Loc) (ls : Array Slot) (zs0 : Int32) , WD E G I X s.heap H locs → lv_has ls 8 [] → m9_rest_118 fl G.2.2 X I zs0 = some rr → W p l e ({ frames := 5, cells := 0, slots := 0, locals := 114 } : Room) s m args below meth c H locs 0 0 (MQ below (QI E G rr.1 rr.2 X) args s 0 0 (eA E)) (F0 m 118 ls [.int zs0]) := by
  intro I H locs ls zs0 hw hl hf
  unfold m9_rest_118 at hf
  have hx := C0.1; have hb := C0.2.1; have hml := C0.2.2.1; have hown := C0.2.2.2.1; have hts := C0.2.2.2.2.1
  obtain rfl := Option.some.inj hf
  exact x_iret C0 hr hw dX9_rest_118
noncomputable def m9_rest_55 (fl : Nat) (len : Nat → Nat) (X : Xm) (I : Im) (zx0 : Nat) (zx1 : Int32) (zx2 : Int32) (zx3 : Int32) (zx4 : Int32) (zs0 : Int32) (p_144 : Nat) : Option (Int32 × Im) :=
  nn (m9_tooLoud fl len X I zx0 zx2) fun zv1 =>
  ck (inb (4 : Int32) (len p_144) = true) <|
  lt (((gA I p_144 ((4 : Int32)).toNatClampNeg) - zx2)) fun zv4 =>
  nn (m9_putsBack fl len X I zx0) fun zI5 =>
  if zx1 = 0 then
    m9_rest_118 fl len X zI5 zv4
  else
    if zx1 = (1 : Int32) then
      m9_rest_118 fl len X zI5 zx3
    else
      if zx1 = (2 : Int32) then
        m9_rest_118 fl len X zI5 zx4
      else
        if zx1 = (3 : Int32) then
          m9_rest_118 fl len X zI5 zs0
        else
          m9_rest_118 fl len X zI5 zv1
set_option maxHeartbeats 4000000 in
set_option maxRecDepth 100000 in
theorem w9_rest_55 {p : Program} {l : Launch} {e : Env} {s : State} {m : MethodId} {args : Array Value} {below : List Frame} {meth : Method} {c : Code} {E : EN} {G : GM} {X : Xm} (C0 : CX p s m args meth c E cX9_rest RX9 8) (hr : meth.sig.returnType = (some .int)) (hz : s.heap.size + 0 ≤ eB E + G.1) {rr : Int32 × Im} (fl : Nat) : ∀ (I : Im) (H : Heap) (locs : List Loc) (ls : Array Slot) (zx0 : Nat) (zx1 : Int32) (zx2 : Int32) (zx3 : Int32) (zx4 : Int32) (zs0 : Int32) (p_144 : Nat) (zt0 : okA E G 9 zx0) (ep_144 : gR X 144 zx0 = some p_144) (tp_144 : okA E G 11 p_144), WD E G I X s.heap H locs → lv_has ls 8 [(0, .ref zx0), (1, .int zx1), (2, .int zx2), (3, .int zx3), (4, .int zx4)] → m9_rest_55 fl G.2.2 X I zx0 zx1 zx2 zx3 zx4 zs0 p_144 = some rr → W p l e ({ frames := 5, cells := 0, slots := 0, locals := 114 } : Room) s m args below meth c H locs 0 0 (MQ below (QI E G rr.1 rr.2 X) args s 0 0 (eA E)) (F0 m 55 ls [.int zs0]) := by
  intro I H locs ls zx0 zx1 zx2 zx3 zx4 zs0 p_144 zt0 ep_144 tp_144 hw hl hf
  unfold m9_rest_55 at hf
  have hx := C0.1; have hb := C0.2.1; have hml := C0.2.2.1; have hown := C0.2.2.2.1; have hts := C0.2.2.2.2.1
  refine lv_istore (lv' := [(5, .int zs0), (0, .ref zx0), (1, .int zx1), (2, .int zx2), (3, .int zx3), (4, .int zx4)]) hx hb dX9_rest_55 hl (by decide) rfl (fun ls hl => ?_)
  refine lv_aload_n hx hb dX9_rest_57 rfl (lv_at hl 1 rfl) ?_
  refine lv_iload_n hx hb dX9_rest_58 rfl (lv_at hl 3 rfl) ?_
  obtain ⟨zv1, ze2, hf⟩ := nn_some hf
  refine x_ci (r := zv1) (I1 := I) (X1 := X) (x_runV (As := [.int zx2]) (rest := []) C0 (c9_tooLoud l E G fl X I zx0 zx2 zt0 ze2) hw 9 zt0 (by decide) rfl wd159 wd696 wd697 wd698 wd612 ⟨rfl, rfl⟩ hy9_tooLoud ⟨Nat.le_of_ble_eq_true rfl, Nat.le_of_ble_eq_true rfl⟩ rfl hl.1 (Nat.le_of_ble_eq_true rfl) ⟨Nat.zero_le _, Nat.zero_le _⟩ dX9_rest_59) hw (fun H locs hw => ?_)
  refine lv_istore (lv' := [(6, .int zv1), (5, .int zs0), (0, .ref zx0), (1, .int zx1), (2, .int zx2), (3, .int zx3), (4, .int zx4)]) hx hb dX9_rest_62 hl (by decide) rfl (fun ls hl => ?_)
  refine lv_aload_n hx hb dX9_rest_64 rfl (lv_at hl 2 rfl) ?_
  refine xg_9_0 C0 hw zt0 wd601 ep_144 dX9_rest_65 ?_
  refine lv_iconst (v := (4 : Int32)) hx hb dX9_rest_68 (by decide) ?_
  obtain ⟨zhb3, hf⟩ := ck_some hf
  refine x_iald C0 hw tp_144 zhb3 dX9_rest_69 ?_
  refine lv_iload_n hx hb dX9_rest_70 rfl (lv_at hl 4 rfl) ?_
  refine lv_isub hx hb dX9_rest_71 ?_
  refine lv_topi (fun zv4 ezv4 => ?_)
  have hf := lt_at hf ezv4
  refine lv_istore (lv' := [(7, .int zv4), (6, .int zv1), (5, .int zs0), (0, .ref zx0), (1, .int zx1), (2, .int zx2), (3, .int zx3), (4, .int zx4)]) hx hb dX9_rest_72 hl (by decide) rfl (fun ls hl => ?_)
  refine lv_aload_n hx hb dX9_rest_74 rfl (lv_at hl 3 rfl) ?_
  obtain ⟨zI5, ze6, hf⟩ := nn_some hf
  refine x_cv (I1 := zI5) (X1 := X) (x_runV (As := []) (rest := []) C0 (c9_putsBack l E G fl X I zx0 zt0 ze6) hw 9 zt0 (by decide) rfl wd116 wd708 wd709 wd710 wd612 ⟨rfl, rfl⟩ hy9_putsBack ⟨Nat.le_of_ble_eq_true rfl, Nat.le_of_ble_eq_true rfl⟩ rfl hl.1 (Nat.le_of_ble_eq_true rfl) ⟨Nat.zero_le _, Nat.zero_le _⟩ dX9_rest_75) hw (fun H locs hw => ?_)
  refine lv_iload_n hx hb dX9_rest_78 rfl (lv_at hl 4 rfl) ?_
  refine lv_if_ne (tgt := 87) hx hb dX9_rest_79 (by decide) (fun zc7 => ?_) (fun zc7 => ?_)
  · have hf := ite_f hf zc7
    refine lv_iload_n hx hb dX9_rest_87 rfl (lv_at hl 4 rfl) ?_
    refine lv_iconst (v := (1 : Int32)) hx hb dX9_rest_88 (by decide) ?_
    refine lv_icmp_ne (tgt := 96) hx hb dX9_rest_89 (by decide) (fun zc8 => ?_) (fun zc8 => ?_)
    · have hf := ite_f hf zc8
      refine lv_iload_n hx hb dX9_rest_96 rfl (lv_at hl 4 rfl) ?_
      refine lv_iconst (v := (2 : Int32)) hx hb dX9_rest_97 (by decide) ?_
      refine lv_icmp_ne (tgt := 106) hx hb dX9_rest_98 (by decide) (fun zc9 => ?_) (fun zc9 => ?_)
      · have hf := ite_f hf zc9
        refine lv_iload_n hx hb dX9_rest_106 rfl (lv_at hl 4 rfl) ?_
        refine lv_iconst (v := (3 : Int32)) hx hb dX9_rest_107 (by decide) ?_
        refine lv_icmp_ne (tgt := 116) hx hb dX9_rest_108 (by decide) (fun zc10 => ?_) (fun zc10 => ?_)
        · have hf := ite_f hf zc10
          refine lv_iload hx hb dX9_rest_116 (lv_at hl 1 rfl) ?_
          exact w9_rest_118 C0 hr hz fl zI5 _ _ _ zv1 hw (lv_sub hl [] rfl) hf
        · have hf := ite_t hf zc10
          refine lv_iload hx hb dX9_rest_111 (lv_at hl 2 rfl) ?_
          refine lv_goto (tgt := 118) hx hb dX9_rest_113 (by decide) ?_
          exact w9_rest_118 C0 hr hz fl zI5 _ _ _ zs0 hw (lv_sub hl [] rfl) hf
      · have hf := ite_t hf zc9
        refine lv_iload hx hb dX9_rest_101 (lv_at hl 7 rfl) ?_
        refine lv_goto (tgt := 118) hx hb dX9_rest_103 (by decide) ?_
        exact w9_rest_118 C0 hr hz fl zI5 _ _ _ zx4 hw (lv_sub hl [] rfl) hf
    · have hf := ite_t hf zc8
      refine lv_iload_n hx hb dX9_rest_92 rfl (lv_at hl 6 rfl) ?_
      refine lv_goto (tgt := 118) hx hb dX9_rest_93 (by decide) ?_
      exact w9_rest_118 C0 hr hz fl zI5 _ _ _ zx3 hw (lv_sub hl [] rfl) hf
  · have hf := ite_t hf zc7
    refine lv_iload hx hb dX9_rest_82 (lv_at hl 0 rfl) ?_
    refine lv_goto (tgt := 118) hx hb dX9_rest_84 (by decide) ?_
    exact w9_rest_118 C0 hr hz fl zI5 _ _ _ zv4 hw (lv_sub hl [] rfl) hf
noncomputable def m9_rest (fl : Nat) (len : Nat → Nat) (X : Xm) (I : Im) (zx0 : Nat) (zx1 : Int32) : Option (Int32 × Im) :=
  nn (m9_in fl len X I zx1 (0 : Int32) (4 : Int32)) fun zv1 =>
  if zv1 = 0 then
    some ((-2 : Int32), I)
  else
    nn (m9_putsAside fl len X I zx0) fun zI4 =>
    nn (gR X 144 zx0) fun zv6 =>
    ck (inb (4 : Int32) (len zv6) = true) <|
    lt ((gA zI4 zv6 ((4 : Int32)).toNatClampNeg)) fun zv8 =>
    nn (m9_playsRest fl len X zI4 zx0) fun ⟨zv9, zI10⟩ =>
    nn (m9_loudest fl len X zI10 zx0 zv8) fun zv12 =>
    if 0 ≤ zv12 then
      ck (inb ((320 : Int32) + zv12) (len zv6) = true) <|
      m9_rest_55 fl len X zI10 zx0 zx1 zv8 zv9 zv12 (gA zI10 zv6 (((320 : Int32) + zv12)).toNatClampNeg) zv6
    else
      m9_rest_55 fl len X zI10 zx0 zx1 zv8 zv9 zv12 (0 : Int32) zv6
theorem hy9_rest : yX9_rest.cls = RX9 ∧ yX9_rest.cls ≠ "java/lang/invoke/MethodHandle" ∧ yX9_rest.cls ≠ "java/lang/invoke/VarHandle" ∧ (parseMethodDescriptor yX9_rest.desc).map (fun d => d.parameters.length) = some 1 := ⟨rfl, by decide +kernel, by decide +kernel, by decide +kernel⟩
set_option maxHeartbeats 4000000 in
set_option maxRecDepth 100000 in
theorem c9_rest (l : Launch) (E : EN) (G : GM) (fl : Nat) (X : Xm) (I : Im) (zx0 : Nat) (zx1 : Int32) (zt0 : okA E G 9 zx0) {rr : Int32 × Im} (hf : m9_rest fl G.2.2 X I zx0 zx1 = some rr) : MT l yX9_rest cX9_rest 8 (some .int) ({ frames := 5, cells := 0, slots := 0, locals := 114 } : Room) E G I X [.ref zx0, .int zx1] (QI E G rr.1 rr.2 X) 0 0 := by
  refine Met.ofW (cc := cX9_rest) (maxL := 8) (ret := (some .int)) (by decide +kernel) rfl ?_
  intro p e s m args below meth c s₁ B hml hv
  obtain ⟨rfl, hw0, hSE⟩ := hv
  have C0 : CX p s m ([.ref zx0, .int zx1] : List Value).toArray meth c E cX9_rest RX9 8 := ⟨B.exec, B.bytes, hml, findClass_of_methodNamed B.named, fun w hw => atoms_spec (ws := WS yX9_rest cX9_rest 8 (some .int)) B.pre w (List.mem_cons_of_mem _ hw), B.notSynchronized, hSE⟩
  have hz : s.heap.size + 0 ≤ eB E + G.1 := Nat.le_of_eq hw0.2.1
  have hw : WD E G I X s.heap s.heap [] := ⟨hw0, va_S.rf⟩
  have hr := B.returns
  have hx := C0.1; have hb := C0.2.1; have hml := C0.2.2.1; have hown := C0.2.2.2.1; have hts := C0.2.2.2.2.1
  have hl := lv_entry ([.ref zx0, .int zx1]) (n := 8) (Nat.le_of_ble_eq_true rfl)
  rw [lg_entry_eq]
  generalize (lg_sl ([.ref zx0, .int zx1]) ++ List.replicate (8 - (lg_sl ([.ref zx0, .int zx1])).length) Slot.unset).toArray = ls at hl ⊢
  have hl : lv_has ls 8 [(0, .ref zx0), (1, .int zx1)] := hl
  unfold m9_rest at hf
  refine lv_iload_n hx hb dX9_rest_0 rfl (lv_at hl 1 rfl) ?_
  refine lv_iconst (v := (0 : Int32)) hx hb dX9_rest_1 (by decide) ?_
  refine lv_iconst (v := (4 : Int32)) hx hb dX9_rest_2 (by decide) ?_
  obtain ⟨zv1, ze2, hf⟩ := nn_some hf
  refine x_ci (r := zv1) (I1 := I) (X1 := X) (x_runS (As := [.int zx1, .int (0 : Int32), .int (4 : Int32)]) (rest := []) C0 (c9_in l E G fl X I zx1 (0 : Int32) (4 : Int32) ze2) hw wd113 wd610 wd611 wd612 ⟨rfl, rfl⟩ hy9_in ⟨Nat.le_of_ble_eq_true rfl, Nat.le_of_ble_eq_true rfl⟩ rfl hl.1 (Nat.le_of_ble_eq_true rfl) ⟨Nat.zero_le _, Nat.zero_le _⟩ dX9_rest_3) hw (fun H locs hw => ?_)
  refine lv_if_ne (tgt := 12) hx hb dX9_rest_6 (by decide) (fun zc3 => ?_) (fun zc3 => ?_)
  · have hf := ite_f hf zc3
    refine lv_aload_n hx hb dX9_rest_12 rfl (lv_at hl 0 rfl) ?_
    obtain ⟨zI4, ze5, hf⟩ := nn_some hf
    refine x_cv (I1 := zI4) (X1 := X) (x_runV (As := []) (rest := []) C0 (c9_putsAside l E G fl X I zx0 zt0 ze5) hw 9 zt0 (by decide) rfl wd115 wd702 wd703 wd704 wd612 ⟨rfl, rfl⟩ hy9_putsAside ⟨Nat.le_of_ble_eq_true rfl, Nat.le_of_ble_eq_true rfl⟩ rfl hl.1 (Nat.le_of_ble_eq_true rfl) ⟨Nat.zero_le _, Nat.zero_le _⟩ dX9_rest_13) hw (fun H locs hw => ?_)
    refine lv_aload_n hx hb dX9_rest_16 rfl (lv_at hl 0 rfl) ?_
    obtain ⟨zv6, ezv6, hf⟩ := nn_some hf
    have tzv6 : okA E G 11 zv6 := wt_r hw ezv6
    refine xg_9_0 C0 hw zt0 wd601 ezv6 dX9_rest_17 ?_
    refine lv_iconst (v := (4 : Int32)) hx hb dX9_rest_20 (by decide) ?_
    obtain ⟨zhb7, hf⟩ := ck_some hf
    refine x_iald C0 hw tzv6 zhb7 dX9_rest_21 ?_
    refine lv_topi (fun zv8 ezv8 => ?_)
    have hf := lt_at hf ezv8
    refine lv_istore_n (lv' := [(2, .int zv8), (0, .ref zx0), (1, .int zx1)]) hx hb dX9_rest_22 rfl hl (by decide) rfl (fun ls hl => ?_)
    refine lv_aload_n hx hb dX9_rest_23 rfl (lv_at hl 1 rfl) ?_
    obtain ⟨⟨zv9, zI10⟩, ze11, hf⟩ := nn_some hf
    refine x_ci (r := zv9) (I1 := zI10) (X1 := X) (x_runV (As := []) (rest := []) C0 (c9_playsRest l E G fl X zI4 zx0 zt0 ze11) hw 9 zt0 (by decide) rfl wd162 wd705 wd706 wd707 wd612 ⟨rfl, rfl⟩ hy9_playsRest ⟨Nat.le_of_ble_eq_true rfl, Nat.le_of_ble_eq_true rfl⟩ rfl hl.1 (Nat.le_of_ble_eq_true rfl) ⟨Nat.zero_le _, Nat.zero_le _⟩ dX9_rest_24) hw (fun H locs hw => ?_)
    refine lv_istore_n (lv' := [(3, .int zv9), (2, .int zv8), (0, .ref zx0), (1, .int zx1)]) hx hb dX9_rest_27 rfl hl (by decide) rfl (fun ls hl => ?_)
    refine lv_aload_n hx hb dX9_rest_28 rfl (lv_at hl 2 rfl) ?_
    refine lv_iload_n hx hb dX9_rest_29 rfl (lv_at hl 1 rfl) ?_
    obtain ⟨zv12, ze13, hf⟩ := nn_some hf
    refine x_ci (r := zv12) (I1 := zI10) (X1 := X) (x_runV (As := [.int zv8]) (rest := []) C0 (c9_loudest l E G fl X zI10 zx0 zv8 zt0 ze13) hw 9 zt0 (by decide) rfl wd158 wd693 wd694 wd695 wd612 ⟨rfl, rfl⟩ hy9_loudest ⟨Nat.le_of_ble_eq_true rfl, Nat.le_of_ble_eq_true rfl⟩ rfl hl.1 (Nat.le_of_ble_eq_true rfl) ⟨Nat.zero_le _, Nat.zero_le _⟩ dX9_rest_30) hw (fun H locs hw => ?_)
    refine lv_istore (lv' := [(4, .int zv12), (3, .int zv9), (2, .int zv8), (0, .ref zx0), (1, .int zx1)]) hx hb dX9_rest_33 hl (by decide) rfl (fun ls hl => ?_)
    refine lv_iload hx hb dX9_rest_35 (lv_at hl 0 rfl) ?_
    refine lv_if_ge (tgt := 44) hx hb dX9_rest_37 (by decide) (fun zc14 => ?_) (fun zc14 => ?_)
    · have hf := ite_t hf zc14
      refine lv_aload_n hx hb dX9_rest_44 rfl (lv_at hl 3 rfl) ?_
      refine xg_9_0 C0 hw zt0 wd601 ezv6 dX9_rest_45 ?_
      refine lv_sipush (v := (320 : Int32)) hx hb dX9_rest_48 (by decide) ?_
      refine lv_iload hx hb dX9_rest_51 (lv_at hl 0 rfl) ?_
      refine lv_iadd hx hb dX9_rest_53 ?_
      obtain ⟨zhb15, hf⟩ := ck_some hf
      refine x_iald C0 hw tzv6 zhb15 dX9_rest_54 ?_
      exact w9_rest_55 C0 hr hz fl zI10 _ _ _ zx0 zx1 zv8 zv9 zv12 (gA zI10 zv6 (((320 : Int32) + zv12)).toNatClampNeg) zv6 zt0 ezv6 tzv6 hw (lv_sub hl [3, 4, 2, 1, 0] rfl) hf
    · have hf := ite_f hf zc14
      refine lv_iconst (v := (0 : Int32)) hx hb dX9_rest_40 (by decide) ?_
      refine lv_goto (tgt := 55) hx hb dX9_rest_41 (by decide) ?_
      exact w9_rest_55 C0 hr hz fl zI10 _ _ _ zx0 zx1 zv8 zv9 zv12 (0 : Int32) zv6 zt0 ezv6 tzv6 hw (lv_sub hl [3, 4, 2, 1, 0] rfl) hf
  · have hf := ite_t hf zc3
    refine lv_bipush (v := (-2 : Int32)) hx hb dX9_rest_9 (by decide) ?_
    obtain rfl := Option.some.inj hf
    exact x_iret C0 hr hw dX9_rest_11
noncomputable def m9_becomes_50 (fl : Nat) (len : Nat → Nat) (X : Xm) (I : Im) (zx0 : Nat) (zs0 : Int32) : Option (Int32 × Im) :=
  nn (m9_putsBack fl len X I zx0) fun zI1 =>
  some (zs0, zI1)
set_option maxHeartbeats 4000000 in
set_option maxRecDepth 100000 in
theorem w9_becomes_50 {p : Program} {l : Launch} {e : Env} {s : State} {m : MethodId} {args : Array Value} {below : List Frame} {meth : Method} {c : Code} {E : EN} {G : GM} {X : Xm} (C0 : CX p s m args meth c E cX9_becomes RX9 4) (hr : meth.sig.returnType = (some .int)) (hz : s.heap.size + 0 ≤ eB E + G.1) {rr : Int32 × Im} (fl : Nat) : ∀ (I : Im) (H : Heap) (locs : List Loc) (ls : Array Slot) (zx0 : Nat) (zs0 : Int32) (zt0 : okA E G 9 zx0), WD E G I X s.heap H locs → lv_has ls 4 [(0, .ref zx0)] → m9_becomes_50 fl G.2.2 X I zx0 zs0 = some rr → W p l e ({ frames := 4, cells := 0, slots := 0, locals := 93 } : Room) s m args below meth c H locs 0 0 (MQ below (QI E G rr.1 rr.2 X) args s 0 0 (eA E)) (F0 m 50 ls [.int zs0]) := by
  intro I H locs ls zx0 zs0 zt0 hw hl hf
  unfold m9_becomes_50 at hf
  have hx := C0.1; have hb := C0.2.1; have hml := C0.2.2.1; have hown := C0.2.2.2.1; have hts := C0.2.2.2.2.1
  refine lv_istore_n (lv' := [(3, .int zs0), (0, .ref zx0)]) hx hb dX9_becomes_50 rfl hl (by decide) rfl (fun ls hl => ?_)
  refine lv_aload_n hx hb dX9_becomes_51 rfl (lv_at hl 1 rfl) ?_
  obtain ⟨zI1, ze2, hf⟩ := nn_some hf
  refine x_cv (I1 := zI1) (X1 := X) (x_runV (As := []) (rest := []) C0 (c9_putsBack l E G fl X I zx0 zt0 ze2) hw 9 zt0 (by decide) rfl wd116 wd708 wd709 wd710 wd612 ⟨rfl, rfl⟩ hy9_putsBack ⟨Nat.le_of_ble_eq_true rfl, Nat.le_of_ble_eq_true rfl⟩ rfl hl.1 (Nat.le_of_ble_eq_true rfl) ⟨Nat.zero_le _, Nat.zero_le _⟩ dX9_becomes_52) hw (fun H locs hw => ?_)
  refine lv_iload_n hx hb dX9_becomes_55 rfl (lv_at hl 0 rfl) ?_
  obtain rfl := Option.some.inj hf
  exact x_iret C0 hr hw dX9_becomes_56
noncomputable def m9_becomes_16b (fl : Nat) (len : Nat → Nat) (X : Xm) (zr16 : Im → Nat → Int32 → Int32 → Option (Int32 × Im)) (I : Im) (zx0 : Nat) (zx1 : Int32) (zx2 : Int32) : Option (Int32 × Im) :=
  nn (m9_of fl len X I zx0 zx1 (4 : Int32)) fun zv1 =>
  if zv1 = 0 then
    nn (m9_passes fl len X I zx0) fun ⟨zv7, zI8⟩ =>
    lt ((zx2 + zv7)) fun zv10 =>
    zr16 zI8 zx0 zx1 zv10
  else
    if 0 ≤ zx2 then
      nn (m9_of fl len X I zx0 zx1 (4 : Int32)) fun zv5 =>
      m9_becomes_50 fl len X I zx0 zv5
    else
      m9_becomes_50 fl len X I zx0 (-6 : Int32)
noncomputable def m9_becomes_16 (fl : Nat) (len : Nat → Nat) (X : Xm) (n : Nat) : Im → Nat → Int32 → Int32 → Option (Int32 × Im) :=
  Nat.rec (fun _ _ _ _ => none) (fun _ r => m9_becomes_16b fl len X r) n
set_option maxHeartbeats 4000000 in
set_option maxRecDepth 100000 in
theorem w9_becomes_16b {p : Program} {l : Launch} {e : Env} {s : State} {m : MethodId} {args : Array Value} {below : List Frame} {meth : Method} {c : Code} {E : EN} {G : GM} {X : Xm} (C0 : CX p s m args meth c E cX9_becomes RX9 4) (hr : meth.sig.returnType = (some .int)) (hz : s.heap.size + 0 ≤ eB E + G.1) {rr : Int32 × Im} (fl : Nat) (zr16 : Im → Nat → Int32 → Int32 → Option (Int32 × Im)) (zhr16 : ∀ (I : Im) (H : Heap) (locs : List Loc) (ls : Array Slot) (zx0 : Nat) (zx1 : Int32) (zx2 : Int32) (zt0 : okA E G 9 zx0), WD E G I X s.heap H locs → lv_has ls 4 [(0, .ref zx0), (1, .int zx1), (2, .int zx2)] → zr16 I zx0 zx1 zx2 = some rr → W p l e ({ frames := 4, cells := 0, slots := 0, locals := 93 } : Room) s m args below meth c H locs 0 0 (MQ below (QI E G rr.1 rr.2 X) args s 0 0 (eA E)) (F0 m 16 ls [])) : ∀ (I : Im) (H : Heap) (locs : List Loc) (ls : Array Slot) (zx0 : Nat) (zx1 : Int32) (zx2 : Int32) (zt0 : okA E G 9 zx0), WD E G I X s.heap H locs → lv_has ls 4 [(0, .ref zx0), (1, .int zx1), (2, .int zx2)] → m9_becomes_16b fl G.2.2 X zr16 I zx0 zx1 zx2 = some rr → W p l e ({ frames := 4, cells := 0, slots := 0, locals := 93 } : Room) s m args below meth c H locs 0 0 (MQ below (QI E G rr.1 rr.2 X) args s 0 0 (eA E)) (F0 m 16 ls []) := by
  intro I H locs ls zx0 zx1 zx2 zt0 hw hl hf
  unfold m9_becomes_16b at hf
  have hx := C0.1; have hb := C0.2.1; have hml := C0.2.2.1; have hown := C0.2.2.2.1; have hts := C0.2.2.2.2.1
  refine lv_aload_n hx hb dX9_becomes_16 rfl (lv_at hl 0 rfl) ?_
  refine lv_iload_n hx hb dX9_becomes_17 rfl (lv_at hl 1 rfl) ?_
  refine lv_iconst (v := (4 : Int32)) hx hb dX9_becomes_18 (by decide) ?_
  obtain ⟨zv1, ze2, hf⟩ := nn_some hf
  refine x_ci (r := zv1) (I1 := I) (X1 := X) (x_runV (As := [.int zx1, .int (4 : Int32)]) (rest := []) C0 (c9_of l E G fl X I zx0 zx1 (4 : Int32) zt0 ze2) hw 9 zt0 (by decide) rfl wd117 wd623 wd624 wd625 wd612 ⟨rfl, rfl⟩ hy9_of ⟨Nat.le_of_ble_eq_true rfl, Nat.le_of_ble_eq_true rfl⟩ rfl hl.1 (Nat.le_of_ble_eq_true rfl) ⟨Nat.zero_le _, Nat.zero_le _⟩ dX9_becomes_19) hw (fun H locs hw => ?_)
  refine lv_if_ne (tgt := 35) hx hb dX9_becomes_22 (by decide) (fun zc3 => ?_) (fun zc3 => ?_)
  · have hf := ite_f hf zc3
    refine lv_iload_n hx hb dX9_becomes_35 rfl (lv_at hl 2 rfl) ?_
    refine lv_if_ge (tgt := 44) hx hb dX9_becomes_36 (by decide) (fun zc4 => ?_) (fun zc4 => ?_)
    · have hf := ite_t hf zc4
      refine lv_aload_n hx hb dX9_becomes_44 rfl (lv_at hl 0 rfl) ?_
      refine lv_iload_n hx hb dX9_becomes_45 rfl (lv_at hl 1 rfl) ?_
      refine lv_iconst (v := (4 : Int32)) hx hb dX9_becomes_46 (by decide) ?_
      obtain ⟨zv5, ze6, hf⟩ := nn_some hf
      refine x_ci (r := zv5) (I1 := I) (X1 := X) (x_runV (As := [.int zx1, .int (4 : Int32)]) (rest := []) C0 (c9_of l E G fl X I zx0 zx1 (4 : Int32) zt0 ze6) hw 9 zt0 (by decide) rfl wd117 wd623 wd624 wd625 wd612 ⟨rfl, rfl⟩ hy9_of ⟨Nat.le_of_ble_eq_true rfl, Nat.le_of_ble_eq_true rfl⟩ rfl hl.1 (Nat.le_of_ble_eq_true rfl) ⟨Nat.zero_le _, Nat.zero_le _⟩ dX9_becomes_47) hw (fun H locs hw => ?_)
      exact w9_becomes_50 C0 hr hz fl I _ _ _ zx0 zv5 zt0 hw (lv_sub hl [0] rfl) hf
    · have hf := ite_f hf zc4
      refine lv_bipush (v := (-6 : Int32)) hx hb dX9_becomes_39 (by decide) ?_
      refine lv_goto (tgt := 50) hx hb dX9_becomes_41 (by decide) ?_
      exact w9_becomes_50 C0 hr hz fl I _ _ _ zx0 (-6 : Int32) zt0 hw (lv_sub hl [0] rfl) hf
  · have hf := ite_t hf zc3
    refine lv_iload_n hx hb dX9_becomes_25 rfl (lv_at hl 2 rfl) ?_
    refine lv_aload_n hx hb dX9_becomes_26 rfl (lv_at hl 0 rfl) ?_
    obtain ⟨⟨zv7, zI8⟩, ze9, hf⟩ := nn_some hf
    refine x_ci (r := zv7) (I1 := zI8) (X1 := X) (x_runV (As := []) (rest := [.int zx2]) C0 (c9_passes l E G fl X I zx0 zt0 ze9) hw 9 zt0 (by decide) rfl wd135 wd683 wd684 wd685 wd612 ⟨rfl, rfl⟩ hy9_passes ⟨Nat.le_of_ble_eq_true rfl, Nat.le_of_ble_eq_true rfl⟩ rfl hl.1 (Nat.le_of_ble_eq_true rfl) ⟨Nat.zero_le _, Nat.zero_le _⟩ dX9_becomes_27) hw (fun H locs hw => ?_)
    refine lv_iadd hx hb dX9_becomes_30 ?_
    refine lv_topi (fun zv10 ezv10 => ?_)
    have hf := lt_at hf ezv10
    refine lv_istore_n (lv' := [(2, .int zv10), (0, .ref zx0), (1, .int zx1)]) hx hb dX9_becomes_31 rfl hl (by decide) rfl (fun ls hl => ?_)
    refine lv_goto (tgt := 16) hx hb dX9_becomes_32 (by decide) ?_
    exact zhr16 zI8 _ _ _ zx0 zx1 zv10 zt0 hw (lv_sub hl [1, 2, 0] rfl) hf
theorem w9_becomes_16 {p : Program} {l : Launch} {e : Env} {s : State} {m : MethodId} {args : Array Value} {below : List Frame} {meth : Method} {c : Code} {E : EN} {G : GM} {X : Xm} (C0 : CX p s m args meth c E cX9_becomes RX9 4) (hr : meth.sig.returnType = (some .int)) (hz : s.heap.size + 0 ≤ eB E + G.1) {rr : Int32 × Im} (fl : Nat) : ∀ (n : Nat) (I : Im) (H : Heap) (locs : List Loc) (ls : Array Slot) (zx0 : Nat) (zx1 : Int32) (zx2 : Int32) (zt0 : okA E G 9 zx0), WD E G I X s.heap H locs → lv_has ls 4 [(0, .ref zx0), (1, .int zx1), (2, .int zx2)] → m9_becomes_16 fl G.2.2 X n I zx0 zx1 zx2 = some rr → W p l e ({ frames := 4, cells := 0, slots := 0, locals := 93 } : Room) s m args below meth c H locs 0 0 (MQ below (QI E G rr.1 rr.2 X) args s 0 0 (eA E)) (F0 m 16 ls []) := by
  intro n
  induction n with
  | zero => intro I H locs ls zx0 zx1 zx2 zt0 hw hl hf; exact absurd (show (none : Option (Int32 × Im)) = some rr from hf) (by simp)
  | succ n ih => intro I H locs ls zx0 zx1 zx2 zt0 hw hl hf; exact w9_becomes_16b C0 hr hz fl _ ih I H locs ls zx0 zx1 zx2 zt0 hw hl hf
noncomputable def m9_becomes (fl : Nat) (len : Nat → Nat) (X : Xm) (I : Im) (zx0 : Nat) (zx1 : Int32) : Option (Int32 × Im) :=
  nn (m9_isCue fl len X I zx0 zx1) fun zv1 =>
  if zv1 = 0 then
    some ((-1 : Int32), I)
  else
    nn (m9_putsAside fl len X I zx0) fun zI4 =>
    m9_becomes_16 fl len X fl zI4 zx0 zx1 (0 : Int32)
theorem hy9_becomes : yX9_becomes.cls = RX9 ∧ yX9_becomes.cls ≠ "java/lang/invoke/MethodHandle" ∧ yX9_becomes.cls ≠ "java/lang/invoke/VarHandle" ∧ (parseMethodDescriptor yX9_becomes.desc).map (fun d => d.parameters.length) = some 1 := ⟨rfl, by decide +kernel, by decide +kernel, by decide +kernel⟩
set_option maxHeartbeats 4000000 in
set_option maxRecDepth 100000 in
theorem c9_becomes (l : Launch) (E : EN) (G : GM) (fl : Nat) (X : Xm) (I : Im) (zx0 : Nat) (zx1 : Int32) (zt0 : okA E G 9 zx0) {rr : Int32 × Im} (hf : m9_becomes fl G.2.2 X I zx0 zx1 = some rr) : MT l yX9_becomes cX9_becomes 4 (some .int) ({ frames := 4, cells := 0, slots := 0, locals := 93 } : Room) E G I X [.ref zx0, .int zx1] (QI E G rr.1 rr.2 X) 0 0 := by
  refine Met.ofW (cc := cX9_becomes) (maxL := 4) (ret := (some .int)) (by decide +kernel) rfl ?_
  intro p e s m args below meth c s₁ B hml hv
  obtain ⟨rfl, hw0, hSE⟩ := hv
  have C0 : CX p s m ([.ref zx0, .int zx1] : List Value).toArray meth c E cX9_becomes RX9 4 := ⟨B.exec, B.bytes, hml, findClass_of_methodNamed B.named, fun w hw => atoms_spec (ws := WS yX9_becomes cX9_becomes 4 (some .int)) B.pre w (List.mem_cons_of_mem _ hw), B.notSynchronized, hSE⟩
  have hz : s.heap.size + 0 ≤ eB E + G.1 := Nat.le_of_eq hw0.2.1
  have hw : WD E G I X s.heap s.heap [] := ⟨hw0, va_S.rf⟩
  have hr := B.returns
  have hx := C0.1; have hb := C0.2.1; have hml := C0.2.2.1; have hown := C0.2.2.2.1; have hts := C0.2.2.2.2.1
  have hl := lv_entry ([.ref zx0, .int zx1]) (n := 4) (Nat.le_of_ble_eq_true rfl)
  rw [lg_entry_eq]
  generalize (lg_sl ([.ref zx0, .int zx1]) ++ List.replicate (4 - (lg_sl ([.ref zx0, .int zx1])).length) Slot.unset).toArray = ls at hl ⊢
  have hl : lv_has ls 4 [(0, .ref zx0), (1, .int zx1)] := hl
  unfold m9_becomes at hf
  refine lv_aload_n hx hb dX9_becomes_0 rfl (lv_at hl 0 rfl) ?_
  refine lv_iload_n hx hb dX9_becomes_1 rfl (lv_at hl 1 rfl) ?_
  obtain ⟨zv1, ze2, hf⟩ := nn_some hf
  refine x_ci (r := zv1) (I1 := I) (X1 := X) (x_runV (As := [.int zx1]) (rest := []) C0 (c9_isCue l E G fl X I zx0 zx1 zt0 ze2) hw 9 zt0 (by decide) rfl wd122 wd671 wd672 wd673 wd612 ⟨rfl, rfl⟩ hy9_isCue ⟨Nat.le_of_ble_eq_true rfl, Nat.le_of_ble_eq_true rfl⟩ rfl hl.1 (Nat.le_of_ble_eq_true rfl) ⟨Nat.zero_le _, Nat.zero_le _⟩ dX9_becomes_2) hw (fun H locs hw => ?_)
  refine lv_if_ne (tgt := 10) hx hb dX9_becomes_5 (by decide) (fun zc3 => ?_) (fun zc3 => ?_)
  · have hf := ite_f hf zc3
    refine lv_aload_n hx hb dX9_becomes_10 rfl (lv_at hl 0 rfl) ?_
    obtain ⟨zI4, ze5, hf⟩ := nn_some hf
    refine x_cv (I1 := zI4) (X1 := X) (x_runV (As := []) (rest := []) C0 (c9_putsAside l E G fl X I zx0 zt0 ze5) hw 9 zt0 (by decide) rfl wd115 wd702 wd703 wd704 wd612 ⟨rfl, rfl⟩ hy9_putsAside ⟨Nat.le_of_ble_eq_true rfl, Nat.le_of_ble_eq_true rfl⟩ rfl hl.1 (Nat.le_of_ble_eq_true rfl) ⟨Nat.zero_le _, Nat.zero_le _⟩ dX9_becomes_11) hw (fun H locs hw => ?_)
    refine lv_iconst (v := (0 : Int32)) hx hb dX9_becomes_14 (by decide) ?_
    refine lv_istore_n (lv' := [(2, .int (0 : Int32)), (0, .ref zx0), (1, .int zx1)]) hx hb dX9_becomes_15 rfl hl (by decide) rfl (fun ls hl => ?_)
    exact w9_becomes_16 C0 hr hz fl fl zI4 _ _ _ zx0 zx1 (0 : Int32) zt0 hw (lv_sub hl [1, 2, 0] rfl) hf
  · have hf := ite_t hf zc3
    refine lv_iconst (v := (-1 : Int32)) hx hb dX9_becomes_8 (by decide) ?_
    obtain rfl := Option.some.inj hf
    exact x_iret C0 hr hw dX9_becomes_9
noncomputable def m9_leastWind_2b (fl : Nat) (len : Nat → Nat) (X : Xm) (zr2 : Im → Nat → Int32 → Option (Int32 × Im)) (I : Im) (zx0 : Nat) (zx1 : Int32) : Option (Int32 × Im) :=
  nn (m9_most fl len X I (0 : Int32)) fun zv1 =>
  if zv1 < zx1 then
    some ((-6 : Int32), I)
  else
    nn (m9_putsAside fl len X I zx0) fun zI4 =>
    nn (gR X 144 zx0) fun zv6 =>
    ck (inb (0 : Int32) (len zv6) = true) <|
    lt (pA zI4 zv6 ((0 : Int32)).toNatClampNeg zx1) fun zI8 =>
    nn (m9_playsRest fl len X zI8 zx0) fun ⟨zv9, zI10⟩ =>
    nn (m9_putsBack fl len X zI10 zx0) fun zI12 =>
    if zv9 = 0 then
      some (zx1, zI12)
    else
      lt (zx1 + 1) fun zv15 =>
      zr2 zI12 zx0 zv15
noncomputable def m9_leastWind_2 (fl : Nat) (len : Nat → Nat) (X : Xm) (n : Nat) : Im → Nat → Int32 → Option (Int32 × Im) :=
  Nat.rec (fun _ _ _ => none) (fun _ r => m9_leastWind_2b fl len X r) n
set_option maxHeartbeats 4000000 in
set_option maxRecDepth 100000 in
theorem w9_leastWind_2b {p : Program} {l : Launch} {e : Env} {s : State} {m : MethodId} {args : Array Value} {below : List Frame} {meth : Method} {c : Code} {E : EN} {G : GM} {X : Xm} (C0 : CX p s m args meth c E cX9_leastWind RX9 3) (hr : meth.sig.returnType = (some .int)) (hz : s.heap.size + 0 ≤ eB E + G.1) {rr : Int32 × Im} (fl : Nat) (zr2 : Im → Nat → Int32 → Option (Int32 × Im)) (zhr2 : ∀ (I : Im) (H : Heap) (locs : List Loc) (ls : Array Slot) (zx0 : Nat) (zx1 : Int32) (zt0 : okA E G 9 zx0), WD E G I X s.heap H locs → lv_has ls 3 [(0, .ref zx0), (1, .int zx1)] → zr2 I zx0 zx1 = some rr → W p l e ({ frames := 5, cells := 0, slots := 0, locals := 114 } : Room) s m args below meth c H locs 0 0 (MQ below (QI E G rr.1 rr.2 X) args s 0 0 (eA E)) (F0 m 2 ls [])) : ∀ (I : Im) (H : Heap) (locs : List Loc) (ls : Array Slot) (zx0 : Nat) (zx1 : Int32) (zt0 : okA E G 9 zx0), WD E G I X s.heap H locs → lv_has ls 3 [(0, .ref zx0), (1, .int zx1)] → m9_leastWind_2b fl G.2.2 X zr2 I zx0 zx1 = some rr → W p l e ({ frames := 5, cells := 0, slots := 0, locals := 114 } : Room) s m args below meth c H locs 0 0 (MQ below (QI E G rr.1 rr.2 X) args s 0 0 (eA E)) (F0 m 2 ls []) := by
  intro I H locs ls zx0 zx1 zt0 hw hl hf
  unfold m9_leastWind_2b at hf
  have hx := C0.1; have hb := C0.2.1; have hml := C0.2.2.1; have hown := C0.2.2.2.1; have hts := C0.2.2.2.2.1
  refine lv_iload_n hx hb dX9_leastWind_2 rfl (lv_at hl 1 rfl) ?_
  refine lv_iconst (v := (0 : Int32)) hx hb dX9_leastWind_3 (by decide) ?_
  obtain ⟨zv1, ze2, hf⟩ := nn_some hf
  refine x_ci (r := zv1) (I1 := I) (X1 := X) (x_runS (As := [.int (0 : Int32)]) (rest := [.int zx1]) C0 (c9_most l E G fl X I (0 : Int32) ze2) hw wd137 wd660 wd661 wd612 ⟨rfl, rfl⟩ hy9_most ⟨Nat.le_of_ble_eq_true rfl, Nat.le_of_ble_eq_true rfl⟩ rfl hl.1 (Nat.le_of_ble_eq_true rfl) ⟨Nat.zero_le _, Nat.zero_le _⟩ dX9_leastWind_4) hw (fun H locs hw => ?_)
  refine lv_icmp_gt (tgt := 42) hx hb dX9_leastWind_7 (by decide) (fun zc3 => ?_) (fun zc3 => ?_)
  · have hf := ite_t hf zc3
    refine lv_bipush (v := (-6 : Int32)) hx hb dX9_leastWind_42 (by decide) ?_
    obtain rfl := Option.some.inj hf
    exact x_iret C0 hr hw dX9_leastWind_44
  · have hf := ite_f hf zc3
    refine lv_aload_n hx hb dX9_leastWind_10 rfl (lv_at hl 0 rfl) ?_
    obtain ⟨zI4, ze5, hf⟩ := nn_some hf
    refine x_cv (I1 := zI4) (X1 := X) (x_runV (As := []) (rest := []) C0 (c9_putsAside l E G fl X I zx0 zt0 ze5) hw 9 zt0 (by decide) rfl wd115 wd702 wd703 wd704 wd612 ⟨rfl, rfl⟩ hy9_putsAside ⟨Nat.le_of_ble_eq_true rfl, Nat.le_of_ble_eq_true rfl⟩ rfl hl.1 (Nat.le_of_ble_eq_true rfl) ⟨Nat.zero_le _, Nat.zero_le _⟩ dX9_leastWind_11) hw (fun H locs hw => ?_)
    refine lv_aload_n hx hb dX9_leastWind_14 rfl (lv_at hl 0 rfl) ?_
    obtain ⟨zv6, ezv6, hf⟩ := nn_some hf
    have tzv6 : okA E G 11 zv6 := wt_r hw ezv6
    refine xg_9_0 C0 hw zt0 wd601 ezv6 dX9_leastWind_15 ?_
    refine lv_iconst (v := (0 : Int32)) hx hb dX9_leastWind_18 (by decide) ?_
    refine lv_iload_n hx hb dX9_leastWind_19 rfl (lv_at hl 1 rfl) ?_
    obtain ⟨zhb7, hf⟩ := ck_some hf
    obtain ⟨zI8, ezI8⟩ : ∃ y : Im, y = pA zI4 zv6 ((0 : Int32)).toNatClampNeg zx1 := ⟨_, rfl⟩
    have hf := lt_at hf ezI8
    refine x_iast C0 hz hw tzv6 zhb7 dX9_leastWind_20 ezI8 (fun H locs hw => ?_)
    refine lv_aload_n hx hb dX9_leastWind_21 rfl (lv_at hl 0 rfl) ?_
    obtain ⟨⟨zv9, zI10⟩, ze11, hf⟩ := nn_some hf
    refine x_ci (r := zv9) (I1 := zI10) (X1 := X) (x_runV (As := []) (rest := []) C0 (c9_playsRest l E G fl X zI8 zx0 zt0 ze11) hw 9 zt0 (by decide) rfl wd162 wd705 wd706 wd707 wd612 ⟨rfl, rfl⟩ hy9_playsRest ⟨Nat.le_of_ble_eq_true rfl, Nat.le_of_ble_eq_true rfl⟩ rfl hl.1 (Nat.le_of_ble_eq_true rfl) ⟨Nat.zero_le _, Nat.zero_le _⟩ dX9_leastWind_22) hw (fun H locs hw => ?_)
    refine lv_istore_n (lv' := [(2, .int zv9), (0, .ref zx0), (1, .int zx1)]) hx hb dX9_leastWind_25 rfl hl (by decide) rfl (fun ls hl => ?_)
    refine lv_aload_n hx hb dX9_leastWind_26 rfl (lv_at hl 1 rfl) ?_
    obtain ⟨zI12, ze13, hf⟩ := nn_some hf
    refine x_cv (I1 := zI12) (X1 := X) (x_runV (As := []) (rest := []) C0 (c9_putsBack l E G fl X zI10 zx0 zt0 ze13) hw 9 zt0 (by decide) rfl wd116 wd708 wd709 wd710 wd612 ⟨rfl, rfl⟩ hy9_putsBack ⟨Nat.le_of_ble_eq_true rfl, Nat.le_of_ble_eq_true rfl⟩ rfl hl.1 (Nat.le_of_ble_eq_true rfl) ⟨Nat.zero_le _, Nat.zero_le _⟩ dX9_leastWind_27) hw (fun H locs hw => ?_)
    refine lv_iload_n hx hb dX9_leastWind_30 rfl (lv_at hl 0 rfl) ?_
    refine lv_if_ne (tgt := 36) hx hb dX9_leastWind_31 (by decide) (fun zc14 => ?_) (fun zc14 => ?_)
    · have hf := ite_f hf zc14
      obtain ⟨zv15, ezv15⟩ : ∃ y : Int32, y = zx1 + 1 := ⟨_, rfl⟩
      have hf := lt_at hf ezv15
      refine lv_iinc (v := zv15) (lv' := [(1, .int zv15), (2, .int zv9), (0, .ref zx0)]) hx hb dX9_leastWind_36 hl (k := 2) rfl (by rw [ezv15]; rfl) (by decide) rfl (fun ls hl => ?_)
      refine lv_goto (tgt := 2) hx hb dX9_leastWind_39 (by decide) ?_
      exact zhr2 zI12 _ _ _ zx0 zv15 zt0 hw (lv_sub hl [2, 0] rfl) hf
    · have hf := ite_t hf zc14
      refine lv_iload_n hx hb dX9_leastWind_34 rfl (lv_at hl 2 rfl) ?_
      obtain rfl := Option.some.inj hf
      exact x_iret C0 hr hw dX9_leastWind_35
theorem w9_leastWind_2 {p : Program} {l : Launch} {e : Env} {s : State} {m : MethodId} {args : Array Value} {below : List Frame} {meth : Method} {c : Code} {E : EN} {G : GM} {X : Xm} (C0 : CX p s m args meth c E cX9_leastWind RX9 3) (hr : meth.sig.returnType = (some .int)) (hz : s.heap.size + 0 ≤ eB E + G.1) {rr : Int32 × Im} (fl : Nat) : ∀ (n : Nat) (I : Im) (H : Heap) (locs : List Loc) (ls : Array Slot) (zx0 : Nat) (zx1 : Int32) (zt0 : okA E G 9 zx0), WD E G I X s.heap H locs → lv_has ls 3 [(0, .ref zx0), (1, .int zx1)] → m9_leastWind_2 fl G.2.2 X n I zx0 zx1 = some rr → W p l e ({ frames := 5, cells := 0, slots := 0, locals := 114 } : Room) s m args below meth c H locs 0 0 (MQ below (QI E G rr.1 rr.2 X) args s 0 0 (eA E)) (F0 m 2 ls []) := by
  intro n
  induction n with
  | zero => intro I H locs ls zx0 zx1 zt0 hw hl hf; exact absurd (show (none : Option (Int32 × Im)) = some rr from hf) (by simp)
  | succ n ih => intro I H locs ls zx0 zx1 zt0 hw hl hf; exact w9_leastWind_2b C0 hr hz fl _ ih I H locs ls zx0 zx1 zt0 hw hl hf
noncomputable def m9_leastWind (fl : Nat) (len : Nat → Nat) (X : Xm) (I : Im) (zx0 : Nat) : Option (Int32 × Im) :=
  m9_leastWind_2 fl len X fl I zx0 (1 : Int32)
theorem hy9_leastWind : yX9_leastWind.cls = RX9 ∧ yX9_leastWind.cls ≠ "java/lang/invoke/MethodHandle" ∧ yX9_leastWind.cls ≠ "java/lang/invoke/VarHandle" ∧ (parseMethodDescriptor yX9_leastWind.desc).map (fun d => d.parameters.length) = some 0 := ⟨rfl, by decide +kernel, by decide +kernel, by decide +kernel⟩
set_option maxHeartbeats 4000000 in
set_option maxRecDepth 100000 in
theorem c9_leastWind (l : Launch) (E : EN) (G : GM) (fl : Nat) (X : Xm) (I : Im) (zx0 : Nat) (zt0 : okA E G 9 zx0) {rr : Int32 × Im} (hf : m9_leastWind fl G.2.2 X I zx0 = some rr) : MT l yX9_leastWind cX9_leastWind 3 (some .int) ({ frames := 5, cells := 0, slots := 0, locals := 114 } : Room) E G I X [.ref zx0] (QI E G rr.1 rr.2 X) 0 0 := by
  refine Met.ofW (cc := cX9_leastWind) (maxL := 3) (ret := (some .int)) (by decide +kernel) rfl ?_
  intro p e s m args below meth c s₁ B hml hv
  obtain ⟨rfl, hw0, hSE⟩ := hv
  have C0 : CX p s m ([.ref zx0] : List Value).toArray meth c E cX9_leastWind RX9 3 := ⟨B.exec, B.bytes, hml, findClass_of_methodNamed B.named, fun w hw => atoms_spec (ws := WS yX9_leastWind cX9_leastWind 3 (some .int)) B.pre w (List.mem_cons_of_mem _ hw), B.notSynchronized, hSE⟩
  have hz : s.heap.size + 0 ≤ eB E + G.1 := Nat.le_of_eq hw0.2.1
  have hw : WD E G I X s.heap s.heap [] := ⟨hw0, va_S.rf⟩
  have hr := B.returns
  have hx := C0.1; have hb := C0.2.1; have hml := C0.2.2.1; have hown := C0.2.2.2.1; have hts := C0.2.2.2.2.1
  have hl := lv_entry ([.ref zx0]) (n := 3) (Nat.le_of_ble_eq_true rfl)
  rw [lg_entry_eq]
  generalize (lg_sl ([.ref zx0]) ++ List.replicate (3 - (lg_sl ([.ref zx0])).length) Slot.unset).toArray = ls at hl ⊢
  have hl : lv_has ls 3 [(0, .ref zx0)] := hl
  unfold m9_leastWind at hf
  refine lv_iconst (v := (1 : Int32)) hx hb dX9_leastWind_0 (by decide) ?_
  refine lv_istore_n (lv' := [(1, .int (1 : Int32)), (0, .ref zx0)]) hx hb dX9_leastWind_1 rfl hl (by decide) rfl (fun ls hl => ?_)
  exact w9_leastWind_2 C0 hr hz fl fl I _ _ _ zx0 (1 : Int32) zt0 hw (lv_sub hl [1, 0] rfl) hf
noncomputable def m9_ifMoved_39 (fl : Nat) (len : Nat → Nat) (X : Xm) (I : Im) (zx0 : Nat) (zs0 : Int32) : Option (Int32 × Im) :=
  nn (m9_putsBack fl len X I zx0) fun zI1 =>
  some (zs0, zI1)
set_option maxHeartbeats 4000000 in
set_option maxRecDepth 100000 in
theorem w9_ifMoved_39 {p : Program} {l : Launch} {e : Env} {s : State} {m : MethodId} {args : Array Value} {below : List Frame} {meth : Method} {c : Code} {E : EN} {G : GM} {X : Xm} (C0 : CX p s m args meth c E cX9_ifMoved RX9 6) (hr : meth.sig.returnType = (some .int)) (hz : s.heap.size + 0 ≤ eB E + G.1) {rr : Int32 × Im} (fl : Nat) : ∀ (I : Im) (H : Heap) (locs : List Loc) (ls : Array Slot) (zx0 : Nat) (zs0 : Int32) (zt0 : okA E G 9 zx0), WD E G I X s.heap H locs → lv_has ls 6 [(0, .ref zx0)] → m9_ifMoved_39 fl G.2.2 X I zx0 zs0 = some rr → W p l e ({ frames := 5, cells := 0, slots := 0, locals := 114 } : Room) s m args below meth c H locs 0 0 (MQ below (QI E G rr.1 rr.2 X) args s 0 0 (eA E)) (F0 m 39 ls [.int zs0]) := by
  intro I H locs ls zx0 zs0 zt0 hw hl hf
  unfold m9_ifMoved_39 at hf
  have hx := C0.1; have hb := C0.2.1; have hml := C0.2.2.1; have hown := C0.2.2.2.1; have hts := C0.2.2.2.2.1
  refine lv_istore (lv' := [(5, .int zs0), (0, .ref zx0)]) hx hb dX9_ifMoved_39 hl (by decide) rfl (fun ls hl => ?_)
  refine lv_aload_n hx hb dX9_ifMoved_41 rfl (lv_at hl 1 rfl) ?_
  obtain ⟨zI1, ze2, hf⟩ := nn_some hf
  refine x_cv (I1 := zI1) (X1 := X) (x_runV (As := []) (rest := []) C0 (c9_putsBack l E G fl X I zx0 zt0 ze2) hw 9 zt0 (by decide) rfl wd116 wd708 wd709 wd710 wd612 ⟨rfl, rfl⟩ hy9_putsBack ⟨Nat.le_of_ble_eq_true rfl, Nat.le_of_ble_eq_true rfl⟩ rfl hl.1 (Nat.le_of_ble_eq_true rfl) ⟨Nat.zero_le _, Nat.zero_le _⟩ dX9_ifMoved_42) hw (fun H locs hw => ?_)
  refine lv_iload hx hb dX9_ifMoved_45 (lv_at hl 0 rfl) ?_
  obtain rfl := Option.some.inj hf
  exact x_iret C0 hr hw dX9_ifMoved_47
noncomputable def m9_ifMoved (fl : Nat) (len : Nat → Nat) (X : Xm) (I : Im) (zx0 : Nat) (zx1 : Int32) (zx2 : Int32) : Option (Int32 × Im) :=
  nn (m9_whyNotMoved fl len X I zx0 zx1 zx2) fun zv1 =>
  if 0 ≤ zv1 then
    nn (m9_putsAside fl len X I zx0) fun zI4 =>
    nn (m9_moves fl len X zI4 zx0 zx1 zx2) fun ⟨zv6, zI7⟩ =>
    if 0 ≤ zv6 then
      nn (m9_playsRest fl len X zI7 zx0) fun ⟨zv10, zI11⟩ =>
      m9_ifMoved_39 fl len X zI11 zx0 zv10
    else
      m9_ifMoved_39 fl len X zI7 zx0 zv6
  else
    some (zv1, I)
theorem hy9_ifMoved : yX9_ifMoved.cls = RX9 ∧ yX9_ifMoved.cls ≠ "java/lang/invoke/MethodHandle" ∧ yX9_ifMoved.cls ≠ "java/lang/invoke/VarHandle" ∧ (parseMethodDescriptor yX9_ifMoved.desc).map (fun d => d.parameters.length) = some 2 := ⟨rfl, by decide +kernel, by decide +kernel, by decide +kernel⟩
set_option maxHeartbeats 4000000 in
set_option maxRecDepth 100000 in
theorem c9_ifMoved (l : Launch) (E : EN) (G : GM) (fl : Nat) (X : Xm) (I : Im) (zx0 : Nat) (zx1 : Int32) (zx2 : Int32) (zt0 : okA E G 9 zx0) {rr : Int32 × Im} (hf : m9_ifMoved fl G.2.2 X I zx0 zx1 zx2 = some rr) : MT l yX9_ifMoved cX9_ifMoved 6 (some .int) ({ frames := 5, cells := 0, slots := 0, locals := 114 } : Room) E G I X [.ref zx0, .int zx1, .int zx2] (QI E G rr.1 rr.2 X) 0 0 := by
  refine Met.ofW (cc := cX9_ifMoved) (maxL := 6) (ret := (some .int)) (by decide +kernel) rfl ?_
  intro p e s m args below meth c s₁ B hml hv
  obtain ⟨rfl, hw0, hSE⟩ := hv
  have C0 : CX p s m ([.ref zx0, .int zx1, .int zx2] : List Value).toArray meth c E cX9_ifMoved RX9 6 := ⟨B.exec, B.bytes, hml, findClass_of_methodNamed B.named, fun w hw => atoms_spec (ws := WS yX9_ifMoved cX9_ifMoved 6 (some .int)) B.pre w (List.mem_cons_of_mem _ hw), B.notSynchronized, hSE⟩
  have hz : s.heap.size + 0 ≤ eB E + G.1 := Nat.le_of_eq hw0.2.1
  have hw : WD E G I X s.heap s.heap [] := ⟨hw0, va_S.rf⟩
  have hr := B.returns
  have hx := C0.1; have hb := C0.2.1; have hml := C0.2.2.1; have hown := C0.2.2.2.1; have hts := C0.2.2.2.2.1
  have hl := lv_entry ([.ref zx0, .int zx1, .int zx2]) (n := 6) (Nat.le_of_ble_eq_true rfl)
  rw [lg_entry_eq]
  generalize (lg_sl ([.ref zx0, .int zx1, .int zx2]) ++ List.replicate (6 - (lg_sl ([.ref zx0, .int zx1, .int zx2])).length) Slot.unset).toArray = ls at hl ⊢
  have hl : lv_has ls 6 [(0, .ref zx0), (1, .int zx1), (2, .int zx2)] := hl
  unfold m9_ifMoved at hf
  refine lv_aload_n hx hb dX9_ifMoved_0 rfl (lv_at hl 0 rfl) ?_
  refine lv_iload_n hx hb dX9_ifMoved_1 rfl (lv_at hl 1 rfl) ?_
  refine lv_iload_n hx hb dX9_ifMoved_2 rfl (lv_at hl 2 rfl) ?_
  obtain ⟨zv1, ze2, hf⟩ := nn_some hf
  refine x_ci (r := zv1) (I1 := I) (X1 := X) (x_runV (As := [.int zx1, .int zx2]) (rest := []) C0 (c9_whyNotMoved l E G fl X I zx0 zx1 zx2 zt0 ze2) hw 9 zt0 (by decide) rfl wd144 wd677 wd678 wd679 wd612 ⟨rfl, rfl⟩ hy9_whyNotMoved ⟨Nat.le_of_ble_eq_true rfl, Nat.le_of_ble_eq_true rfl⟩ rfl hl.1 (Nat.le_of_ble_eq_true rfl) ⟨Nat.zero_le _, Nat.zero_le _⟩ dX9_ifMoved_3) hw (fun H locs hw => ?_)
  refine lv_istore_n (lv' := [(3, .int zv1), (0, .ref zx0), (1, .int zx1), (2, .int zx2)]) hx hb dX9_ifMoved_6 rfl hl (by decide) rfl (fun ls hl => ?_)
  refine lv_iload_n hx hb dX9_ifMoved_7 rfl (lv_at hl 0 rfl) ?_
  refine lv_if_ge (tgt := 13) hx hb dX9_ifMoved_8 (by decide) (fun zc3 => ?_) (fun zc3 => ?_)
  · have hf := ite_t hf zc3
    refine lv_aload_n hx hb dX9_ifMoved_13 rfl (lv_at hl 1 rfl) ?_
    obtain ⟨zI4, ze5, hf⟩ := nn_some hf
    refine x_cv (I1 := zI4) (X1 := X) (x_runV (As := []) (rest := []) C0 (c9_putsAside l E G fl X I zx0 zt0 ze5) hw 9 zt0 (by decide) rfl wd115 wd702 wd703 wd704 wd612 ⟨rfl, rfl⟩ hy9_putsAside ⟨Nat.le_of_ble_eq_true rfl, Nat.le_of_ble_eq_true rfl⟩ rfl hl.1 (Nat.le_of_ble_eq_true rfl) ⟨Nat.zero_le _, Nat.zero_le _⟩ dX9_ifMoved_14) hw (fun H locs hw => ?_)
    refine lv_aload_n hx hb dX9_ifMoved_17 rfl (lv_at hl 1 rfl) ?_
    refine lv_iload_n hx hb dX9_ifMoved_18 rfl (lv_at hl 2 rfl) ?_
    refine lv_iload_n hx hb dX9_ifMoved_19 rfl (lv_at hl 3 rfl) ?_
    obtain ⟨⟨zv6, zI7⟩, ze8, hf⟩ := nn_some hf
    refine x_ci (r := zv6) (I1 := zI7) (X1 := X) (x_runV (As := [.int zx1, .int zx2]) (rest := []) C0 (c9_moves l E G fl X zI4 zx0 zx1 zx2 zt0 ze8) hw 9 zt0 (by decide) rfl wd145 wd680 wd681 wd682 wd612 ⟨rfl, rfl⟩ hy9_moves ⟨Nat.le_of_ble_eq_true rfl, Nat.le_of_ble_eq_true rfl⟩ rfl hl.1 (Nat.le_of_ble_eq_true rfl) ⟨Nat.zero_le _, Nat.zero_le _⟩ dX9_ifMoved_20) hw (fun H locs hw => ?_)
    refine lv_istore (lv' := [(4, .int zv6), (3, .int zv1), (0, .ref zx0), (1, .int zx1), (2, .int zx2)]) hx hb dX9_ifMoved_23 hl (by decide) rfl (fun ls hl => ?_)
    refine lv_iload hx hb dX9_ifMoved_25 (lv_at hl 0 rfl) ?_
    refine lv_if_ge (tgt := 35) hx hb dX9_ifMoved_27 (by decide) (fun zc9 => ?_) (fun zc9 => ?_)
    · have hf := ite_t hf zc9
      refine lv_aload_n hx hb dX9_ifMoved_35 rfl (lv_at hl 2 rfl) ?_
      obtain ⟨⟨zv10, zI11⟩, ze12, hf⟩ := nn_some hf
      refine x_ci (r := zv10) (I1 := zI11) (X1 := X) (x_runV (As := []) (rest := []) C0 (c9_playsRest l E G fl X zI7 zx0 zt0 ze12) hw 9 zt0 (by decide) rfl wd162 wd705 wd706 wd707 wd612 ⟨rfl, rfl⟩ hy9_playsRest ⟨Nat.le_of_ble_eq_true rfl, Nat.le_of_ble_eq_true rfl⟩ rfl hl.1 (Nat.le_of_ble_eq_true rfl) ⟨Nat.zero_le _, Nat.zero_le _⟩ dX9_ifMoved_36) hw (fun H locs hw => ?_)
      exact w9_ifMoved_39 C0 hr hz fl zI11 _ _ _ zx0 zv10 zt0 hw (lv_sub hl [2] rfl) hf
    · have hf := ite_f hf zc9
      refine lv_iload hx hb dX9_ifMoved_30 (lv_at hl 0 rfl) ?_
      refine lv_goto (tgt := 39) hx hb dX9_ifMoved_32 (by decide) ?_
      exact w9_ifMoved_39 C0 hr hz fl zI7 _ _ _ zx0 zv6 zt0 hw (lv_sub hl [2] rfl) hf
  · have hf := ite_f hf zc3
    refine lv_iload_n hx hb dX9_ifMoved_11 rfl (lv_at hl 0 rfl) ?_
    obtain rfl := Option.some.inj hf
    exact x_iret C0 hr hw dX9_ifMoved_12
noncomputable def m9_readyIn_44 (fl : Nat) (len : Nat → Nat) (X : Xm) (zr25 : Im → Nat → Int32 → Int32 → Int32 → Option (Int32 × Im)) (I : Im) (zx0 : Nat) (zx1 : Int32) (zx3 : Int32) (zx4 : Int32) : Option (Int32 × Im) :=
  nn (m9_goesOn fl len X I zx0 zx1) fun zI1 =>
  nn (m9_winds fl len X zI1 zx0 zx1 zx3) fun zI3 =>
  lt (zx4 + 1) fun zv5 =>
  zr25 zI3 zx0 zx1 zx3 zv5
set_option maxHeartbeats 4000000 in
set_option maxRecDepth 100000 in
theorem w9_readyIn_44 {p : Program} {l : Launch} {e : Env} {s : State} {m : MethodId} {args : Array Value} {below : List Frame} {meth : Method} {c : Code} {E : EN} {G : GM} {X : Xm} (C0 : CX p s m args meth c E cX9_readyIn RX9 5) (hr : meth.sig.returnType = (some .int)) (hz : s.heap.size + 0 ≤ eB E + G.1) {rr : Int32 × Im} (fl : Nat) (zr25 : Im → Nat → Int32 → Int32 → Int32 → Option (Int32 × Im)) (zhr25 : ∀ (I : Im) (H : Heap) (locs : List Loc) (ls : Array Slot) (zx0 : Nat) (zx1 : Int32) (zx3 : Int32) (zx4 : Int32) (zt0 : okA E G 9 zx0), WD E G I X s.heap H locs → lv_has ls 5 [(0, .ref zx0), (1, .int zx1), (3, .int zx3), (4, .int zx4)] → zr25 I zx0 zx1 zx3 zx4 = some rr → W p l e ({ frames := 3, cells := 0, slots := 0, locals := 64 } : Room) s m args below meth c H locs 0 0 (MQ below (QI E G rr.1 rr.2 X) args s 0 0 (eA E)) (F0 m 25 ls [])) : ∀ (I : Im) (H : Heap) (locs : List Loc) (ls : Array Slot) (zx0 : Nat) (zx1 : Int32) (zx3 : Int32) (zx4 : Int32) (zt0 : okA E G 9 zx0), WD E G I X s.heap H locs → lv_has ls 5 [(0, .ref zx0), (1, .int zx1), (3, .int zx3), (4, .int zx4)] → m9_readyIn_44 fl G.2.2 X zr25 I zx0 zx1 zx3 zx4 = some rr → W p l e ({ frames := 3, cells := 0, slots := 0, locals := 64 } : Room) s m args below meth c H locs 0 0 (MQ below (QI E G rr.1 rr.2 X) args s 0 0 (eA E)) (F0 m 44 ls []) := by
  intro I H locs ls zx0 zx1 zx3 zx4 zt0 hw hl hf
  unfold m9_readyIn_44 at hf
  have hx := C0.1; have hb := C0.2.1; have hml := C0.2.2.1; have hown := C0.2.2.2.1; have hts := C0.2.2.2.2.1
  refine lv_aload_n hx hb dX9_readyIn_44 rfl (lv_at hl 0 rfl) ?_
  refine lv_iload_n hx hb dX9_readyIn_45 rfl (lv_at hl 1 rfl) ?_
  obtain ⟨zI1, ze2, hf⟩ := nn_some hf
  refine x_cv (I1 := zI1) (X1 := X) (x_runV (As := [.int zx1]) (rest := []) C0 (c9_goesOn l E G fl X I zx0 zx1 zt0 ze2) hw 9 zt0 (by decide) rfl wd131 wd646 wd647 wd648 wd612 ⟨rfl, rfl⟩ hy9_goesOn ⟨Nat.le_of_ble_eq_true rfl, Nat.le_of_ble_eq_true rfl⟩ rfl hl.1 (Nat.le_of_ble_eq_true rfl) ⟨Nat.zero_le _, Nat.zero_le _⟩ dX9_readyIn_46) hw (fun H locs hw => ?_)
  refine lv_aload_n hx hb dX9_readyIn_49 rfl (lv_at hl 0 rfl) ?_
  refine lv_iload_n hx hb dX9_readyIn_50 rfl (lv_at hl 1 rfl) ?_
  refine lv_iload_n hx hb dX9_readyIn_51 rfl (lv_at hl 2 rfl) ?_
  obtain ⟨zI3, ze4, hf⟩ := nn_some hf
  refine x_cv (I1 := zI3) (X1 := X) (x_runV (As := [.int zx1, .int zx3]) (rest := []) C0 (c9_winds l E G fl X zI1 zx0 zx1 zx3 zt0 ze4) hw 9 zt0 (by decide) rfl wd134 wd652 wd653 wd654 wd612 ⟨rfl, rfl⟩ hy9_winds ⟨Nat.le_of_ble_eq_true rfl, Nat.le_of_ble_eq_true rfl⟩ rfl hl.1 (Nat.le_of_ble_eq_true rfl) ⟨Nat.zero_le _, Nat.zero_le _⟩ dX9_readyIn_52) hw (fun H locs hw => ?_)
  obtain ⟨zv5, ezv5⟩ : ∃ y : Int32, y = zx4 + 1 := ⟨_, rfl⟩
  have hf := lt_at hf ezv5
  refine lv_iinc (v := zv5) (lv' := [(4, .int zv5), (0, .ref zx0), (1, .int zx1), (3, .int zx3)]) hx hb dX9_readyIn_55 hl (k := 3) rfl (by rw [ezv5]; rfl) (by decide) rfl (fun ls hl => ?_)
  refine lv_goto (tgt := 25) hx hb dX9_readyIn_58 (by decide) ?_
  exact zhr25 zI3 _ _ _ zx0 zx1 zx3 zv5 zt0 hw (lv_sub hl [1, 2, 3, 0] rfl) hf
noncomputable def m9_readyIn_25b (fl : Nat) (len : Nat → Nat) (X : Xm) (zr25 : Im → Nat → Int32 → Int32 → Int32 → Option (Int32 × Im)) (I : Im) (zx0 : Nat) (zx1 : Int32) (zx3 : Int32) (zx4 : Int32) : Option (Int32 × Im) :=
  nn (m9_reel fl len X I zx0 zx1 (1 : Int32)) fun zv1 =>
  if 0 < zv1 then
    m9_readyIn_44 fl len X zr25 I zx0 zx1 zx3 zx4
  else
    nn (m9_reel fl len X I zx0 zx1 (0 : Int32)) fun zv4 =>
    if zv4 = zx3 then
      nn (m9_putsBack fl len X I zx0) fun zI7 =>
      some (zx4, zI7)
    else
      m9_readyIn_44 fl len X zr25 I zx0 zx1 zx3 zx4
noncomputable def m9_readyIn_25 (fl : Nat) (len : Nat → Nat) (X : Xm) (n : Nat) : Im → Nat → Int32 → Int32 → Int32 → Option (Int32 × Im) :=
  Nat.rec (fun _ _ _ _ _ => none) (fun _ r => m9_readyIn_25b fl len X r) n
set_option maxHeartbeats 4000000 in
set_option maxRecDepth 100000 in
theorem w9_readyIn_25b {p : Program} {l : Launch} {e : Env} {s : State} {m : MethodId} {args : Array Value} {below : List Frame} {meth : Method} {c : Code} {E : EN} {G : GM} {X : Xm} (C0 : CX p s m args meth c E cX9_readyIn RX9 5) (hr : meth.sig.returnType = (some .int)) (hz : s.heap.size + 0 ≤ eB E + G.1) {rr : Int32 × Im} (fl : Nat) (zr25 : Im → Nat → Int32 → Int32 → Int32 → Option (Int32 × Im)) (zhr25 : ∀ (I : Im) (H : Heap) (locs : List Loc) (ls : Array Slot) (zx0 : Nat) (zx1 : Int32) (zx3 : Int32) (zx4 : Int32) (zt0 : okA E G 9 zx0), WD E G I X s.heap H locs → lv_has ls 5 [(0, .ref zx0), (1, .int zx1), (3, .int zx3), (4, .int zx4)] → zr25 I zx0 zx1 zx3 zx4 = some rr → W p l e ({ frames := 3, cells := 0, slots := 0, locals := 64 } : Room) s m args below meth c H locs 0 0 (MQ below (QI E G rr.1 rr.2 X) args s 0 0 (eA E)) (F0 m 25 ls [])) : ∀ (I : Im) (H : Heap) (locs : List Loc) (ls : Array Slot) (zx0 : Nat) (zx1 : Int32) (zx3 : Int32) (zx4 : Int32) (zt0 : okA E G 9 zx0), WD E G I X s.heap H locs → lv_has ls 5 [(0, .ref zx0), (1, .int zx1), (3, .int zx3), (4, .int zx4)] → m9_readyIn_25b fl G.2.2 X zr25 I zx0 zx1 zx3 zx4 = some rr → W p l e ({ frames := 3, cells := 0, slots := 0, locals := 64 } : Room) s m args below meth c H locs 0 0 (MQ below (QI E G rr.1 rr.2 X) args s 0 0 (eA E)) (F0 m 25 ls []) := by
  intro I H locs ls zx0 zx1 zx3 zx4 zt0 hw hl hf
  unfold m9_readyIn_25b at hf
  have hx := C0.1; have hb := C0.2.1; have hml := C0.2.2.1; have hown := C0.2.2.2.1; have hts := C0.2.2.2.2.1
  refine lv_aload_n hx hb dX9_readyIn_25 rfl (lv_at hl 0 rfl) ?_
  refine lv_iload_n hx hb dX9_readyIn_26 rfl (lv_at hl 1 rfl) ?_
  refine lv_iconst (v := (1 : Int32)) hx hb dX9_readyIn_27 (by decide) ?_
  obtain ⟨zv1, ze2, hf⟩ := nn_some hf
  refine x_ci (r := zv1) (I1 := I) (X1 := X) (x_runV (As := [.int zx1, .int (1 : Int32)]) (rest := []) C0 (c9_reel l E G fl X I zx0 zx1 (1 : Int32) zt0 ze2) hw 9 zt0 (by decide) rfl wd119 wd615 wd616 wd617 wd612 ⟨rfl, rfl⟩ hy9_reel ⟨Nat.le_of_ble_eq_true rfl, Nat.le_of_ble_eq_true rfl⟩ rfl hl.1 (Nat.le_of_ble_eq_true rfl) ⟨Nat.zero_le _, Nat.zero_le _⟩ dX9_readyIn_28) hw (fun H locs hw => ?_)
  refine lv_if_gt (tgt := 44) hx hb dX9_readyIn_31 (by decide) (fun zc3 => ?_) (fun zc3 => ?_)
  · have hf := ite_t hf zc3
    exact w9_readyIn_44 C0 hr hz fl zr25 zhr25 I _ _ _ zx0 zx1 zx3 zx4 zt0 hw (lv_sub hl [0, 1, 2, 3] rfl) hf
  · have hf := ite_f hf zc3
    refine lv_aload_n hx hb dX9_readyIn_34 rfl (lv_at hl 0 rfl) ?_
    refine lv_iload_n hx hb dX9_readyIn_35 rfl (lv_at hl 1 rfl) ?_
    refine lv_iconst (v := (0 : Int32)) hx hb dX9_readyIn_36 (by decide) ?_
    obtain ⟨zv4, ze5, hf⟩ := nn_some hf
    refine x_ci (r := zv4) (I1 := I) (X1 := X) (x_runV (As := [.int zx1, .int (0 : Int32)]) (rest := []) C0 (c9_reel l E G fl X I zx0 zx1 (0 : Int32) zt0 ze5) hw 9 zt0 (by decide) rfl wd119 wd615 wd616 wd617 wd612 ⟨rfl, rfl⟩ hy9_reel ⟨Nat.le_of_ble_eq_true rfl, Nat.le_of_ble_eq_true rfl⟩ rfl hl.1 (Nat.le_of_ble_eq_true rfl) ⟨Nat.zero_le _, Nat.zero_le _⟩ dX9_readyIn_37) hw (fun H locs hw => ?_)
    refine lv_iload_n hx hb dX9_readyIn_40 rfl (lv_at hl 2 rfl) ?_
    refine lv_icmp_eq (tgt := 61) hx hb dX9_readyIn_41 (by decide) (fun zc6 => ?_) (fun zc6 => ?_)
    · have hf := ite_t hf zc6
      refine lv_aload_n hx hb dX9_readyIn_61 rfl (lv_at hl 0 rfl) ?_
      obtain ⟨zI7, ze8, hf⟩ := nn_some hf
      refine x_cv (I1 := zI7) (X1 := X) (x_runV (As := []) (rest := []) C0 (c9_putsBack l E G fl X I zx0 zt0 ze8) hw 9 zt0 (by decide) rfl wd116 wd708 wd709 wd710 wd612 ⟨rfl, rfl⟩ hy9_putsBack ⟨Nat.le_of_ble_eq_true rfl, Nat.le_of_ble_eq_true rfl⟩ rfl hl.1 (Nat.le_of_ble_eq_true rfl) ⟨Nat.zero_le _, Nat.zero_le _⟩ dX9_readyIn_62) hw (fun H locs hw => ?_)
      refine lv_iload hx hb dX9_readyIn_65 (lv_at hl 3 rfl) ?_
      obtain rfl := Option.some.inj hf
      exact x_iret C0 hr hw dX9_readyIn_67
    · have hf := ite_f hf zc6
      exact w9_readyIn_44 C0 hr hz fl zr25 zhr25 I _ _ _ zx0 zx1 zx3 zx4 zt0 hw (lv_sub hl [0, 1, 2, 3] rfl) hf
theorem w9_readyIn_25 {p : Program} {l : Launch} {e : Env} {s : State} {m : MethodId} {args : Array Value} {below : List Frame} {meth : Method} {c : Code} {E : EN} {G : GM} {X : Xm} (C0 : CX p s m args meth c E cX9_readyIn RX9 5) (hr : meth.sig.returnType = (some .int)) (hz : s.heap.size + 0 ≤ eB E + G.1) {rr : Int32 × Im} (fl : Nat) : ∀ (n : Nat) (I : Im) (H : Heap) (locs : List Loc) (ls : Array Slot) (zx0 : Nat) (zx1 : Int32) (zx3 : Int32) (zx4 : Int32) (zt0 : okA E G 9 zx0), WD E G I X s.heap H locs → lv_has ls 5 [(0, .ref zx0), (1, .int zx1), (3, .int zx3), (4, .int zx4)] → m9_readyIn_25 fl G.2.2 X n I zx0 zx1 zx3 zx4 = some rr → W p l e ({ frames := 3, cells := 0, slots := 0, locals := 64 } : Room) s m args below meth c H locs 0 0 (MQ below (QI E G rr.1 rr.2 X) args s 0 0 (eA E)) (F0 m 25 ls []) := by
  intro n
  induction n with
  | zero => intro I H locs ls zx0 zx1 zx3 zx4 zt0 hw hl hf; exact absurd (show (none : Option (Int32 × Im)) = some rr from hf) (by simp)
  | succ n ih => intro I H locs ls zx0 zx1 zx3 zx4 zt0 hw hl hf; exact w9_readyIn_25b C0 hr hz fl _ ih I H locs ls zx0 zx1 zx3 zx4 zt0 hw hl hf
noncomputable def m9_readyIn (fl : Nat) (len : Nat → Nat) (X : Xm) (I : Im) (zx0 : Nat) (zx1 : Int32) (zx2 : Int32) : Option (Int32 × Im) :=
  nn (m9_isSound fl len X I zx0 zx1 zx2) fun zv1 =>
  if zv1 = 0 then
    some ((-1 : Int32), I)
  else
    nn (m9_putsAside fl len X I zx0) fun zI4 =>
    nn (m9_beginning fl len X zI4 zx0 zx1 zx2) fun zv6 =>
    m9_readyIn_25 fl len X fl zI4 zx0 zx1 zv6 (0 : Int32)
theorem hy9_readyIn : yX9_readyIn.cls = RX9 ∧ yX9_readyIn.cls ≠ "java/lang/invoke/MethodHandle" ∧ yX9_readyIn.cls ≠ "java/lang/invoke/VarHandle" ∧ (parseMethodDescriptor yX9_readyIn.desc).map (fun d => d.parameters.length) = some 2 := ⟨rfl, by decide +kernel, by decide +kernel, by decide +kernel⟩
set_option maxHeartbeats 4000000 in
set_option maxRecDepth 100000 in
theorem c9_readyIn (l : Launch) (E : EN) (G : GM) (fl : Nat) (X : Xm) (I : Im) (zx0 : Nat) (zx1 : Int32) (zx2 : Int32) (zt0 : okA E G 9 zx0) {rr : Int32 × Im} (hf : m9_readyIn fl G.2.2 X I zx0 zx1 zx2 = some rr) : MT l yX9_readyIn cX9_readyIn 5 (some .int) ({ frames := 3, cells := 0, slots := 0, locals := 64 } : Room) E G I X [.ref zx0, .int zx1, .int zx2] (QI E G rr.1 rr.2 X) 0 0 := by
  refine Met.ofW (cc := cX9_readyIn) (maxL := 5) (ret := (some .int)) (by decide +kernel) rfl ?_
  intro p e s m args below meth c s₁ B hml hv
  obtain ⟨rfl, hw0, hSE⟩ := hv
  have C0 : CX p s m ([.ref zx0, .int zx1, .int zx2] : List Value).toArray meth c E cX9_readyIn RX9 5 := ⟨B.exec, B.bytes, hml, findClass_of_methodNamed B.named, fun w hw => atoms_spec (ws := WS yX9_readyIn cX9_readyIn 5 (some .int)) B.pre w (List.mem_cons_of_mem _ hw), B.notSynchronized, hSE⟩
  have hz : s.heap.size + 0 ≤ eB E + G.1 := Nat.le_of_eq hw0.2.1
  have hw : WD E G I X s.heap s.heap [] := ⟨hw0, va_S.rf⟩
  have hr := B.returns
  have hx := C0.1; have hb := C0.2.1; have hml := C0.2.2.1; have hown := C0.2.2.2.1; have hts := C0.2.2.2.2.1
  have hl := lv_entry ([.ref zx0, .int zx1, .int zx2]) (n := 5) (Nat.le_of_ble_eq_true rfl)
  rw [lg_entry_eq]
  generalize (lg_sl ([.ref zx0, .int zx1, .int zx2]) ++ List.replicate (5 - (lg_sl ([.ref zx0, .int zx1, .int zx2])).length) Slot.unset).toArray = ls at hl ⊢
  have hl : lv_has ls 5 [(0, .ref zx0), (1, .int zx1), (2, .int zx2)] := hl
  unfold m9_readyIn at hf
  refine lv_aload_n hx hb dX9_readyIn_0 rfl (lv_at hl 0 rfl) ?_
  refine lv_iload_n hx hb dX9_readyIn_1 rfl (lv_at hl 1 rfl) ?_
  refine lv_iload_n hx hb dX9_readyIn_2 rfl (lv_at hl 2 rfl) ?_
  obtain ⟨zv1, ze2, hf⟩ := nn_some hf
  refine x_ci (r := zv1) (I1 := I) (X1 := X) (x_runV (As := [.int zx1, .int zx2]) (rest := []) C0 (c9_isSound l E G fl X I zx0 zx1 zx2 zt0 ze2) hw 9 zt0 (by decide) rfl wd124 wd665 wd666 wd667 wd612 ⟨rfl, rfl⟩ hy9_isSound ⟨Nat.le_of_ble_eq_true rfl, Nat.le_of_ble_eq_true rfl⟩ rfl hl.1 (Nat.le_of_ble_eq_true rfl) ⟨Nat.zero_le _, Nat.zero_le _⟩ dX9_readyIn_3) hw (fun H locs hw => ?_)
  refine lv_if_ne (tgt := 11) hx hb dX9_readyIn_6 (by decide) (fun zc3 => ?_) (fun zc3 => ?_)
  · have hf := ite_f hf zc3
    refine lv_aload_n hx hb dX9_readyIn_11 rfl (lv_at hl 0 rfl) ?_
    obtain ⟨zI4, ze5, hf⟩ := nn_some hf
    refine x_cv (I1 := zI4) (X1 := X) (x_runV (As := []) (rest := []) C0 (c9_putsAside l E G fl X I zx0 zt0 ze5) hw 9 zt0 (by decide) rfl wd115 wd702 wd703 wd704 wd612 ⟨rfl, rfl⟩ hy9_putsAside ⟨Nat.le_of_ble_eq_true rfl, Nat.le_of_ble_eq_true rfl⟩ rfl hl.1 (Nat.le_of_ble_eq_true rfl) ⟨Nat.zero_le _, Nat.zero_le _⟩ dX9_readyIn_12) hw (fun H locs hw => ?_)
    refine lv_aload_n hx hb dX9_readyIn_15 rfl (lv_at hl 0 rfl) ?_
    refine lv_iload_n hx hb dX9_readyIn_16 rfl (lv_at hl 1 rfl) ?_
    refine lv_iload_n hx hb dX9_readyIn_17 rfl (lv_at hl 2 rfl) ?_
    obtain ⟨zv6, ze7, hf⟩ := nn_some hf
    refine x_ci (r := zv6) (I1 := zI4) (X1 := X) (x_runV (As := [.int zx1, .int zx2]) (rest := []) C0 (c9_beginning l E G fl X zI4 zx0 zx1 zx2 zt0 ze7) hw 9 zt0 (by decide) rfl wd125 wd626 wd627 wd628 wd612 ⟨rfl, rfl⟩ hy9_beginning ⟨Nat.le_of_ble_eq_true rfl, Nat.le_of_ble_eq_true rfl⟩ rfl hl.1 (Nat.le_of_ble_eq_true rfl) ⟨Nat.zero_le _, Nat.zero_le _⟩ dX9_readyIn_18) hw (fun H locs hw => ?_)
    refine lv_istore_n (lv' := [(3, .int zv6), (0, .ref zx0), (1, .int zx1), (2, .int zx2)]) hx hb dX9_readyIn_21 rfl hl (by decide) rfl (fun ls hl => ?_)
    refine lv_iconst (v := (0 : Int32)) hx hb dX9_readyIn_22 (by decide) ?_
    refine lv_istore (lv' := [(4, .int (0 : Int32)), (3, .int zv6), (0, .ref zx0), (1, .int zx1), (2, .int zx2)]) hx hb dX9_readyIn_23 hl (by decide) rfl (fun ls hl => ?_)
    exact w9_readyIn_25 C0 hr hz fl fl zI4 _ _ _ zx0 zx1 zv6 (0 : Int32) zt0 hw (lv_sub hl [2, 3, 1, 0] rfl) hf
  · have hf := ite_t hf zc3
    refine lv_iconst (v := (-1 : Int32)) hx hb dX9_readyIn_9 (by decide) ?_
    obtain rfl := Option.some.inj hf
    exact x_iret C0 hr hw dX9_readyIn_10
noncomputable def m9_put_75b (fl : Nat) (len : Nat → Nat) (X : Xm) (zr75 : Im → Nat → Int64 → Int32 → Option (Int32 × Im)) (I : Im) (zx0 : Nat) (zx1 : Int64) (zx6 : Int32) : Option (Int32 × Im) :=
  if zx6 < 0 then
    some ((gF I 152 zx0), I)
  else
    nn (gR X 151 zx0) fun zv2 =>
    ck (inb (gF I 152 zx0) (len zv2) = true) <|
    lt (pA I zv2 ((gF I 152 zx0)).toNatClampNeg ((((((zx1).toUInt64 >>> ((((8 : Int32) * zx6)).toInt64.toUInt64 &&& Int64.toUInt64 63)).toInt64) &&& (255 : Int64))).toInt32)) fun zI4 =>
    lt (pF zI4 152 zx0 ((gF zI4 152 zx0) + (1 : Int32))) fun zI5 =>
    lt (zx6 + (-1)) fun zv6 =>
    zr75 zI5 zx0 zx1 zv6
noncomputable def m9_put_75 (fl : Nat) (len : Nat → Nat) (X : Xm) (n : Nat) : Im → Nat → Int64 → Int32 → Option (Int32 × Im) :=
  Nat.rec (fun _ _ _ _ => none) (fun _ r => m9_put_75b fl len X r) n
set_option maxHeartbeats 4000000 in
set_option maxRecDepth 100000 in
theorem w9_put_75b {p : Program} {l : Launch} {e : Env} {s : State} {m : MethodId} {args : Array Value} {below : List Frame} {meth : Method} {c : Code} {E : EN} {G : GM} {X : Xm} (C0 : CX p s m args meth c E cX9_put RX9 7) (hr : meth.sig.returnType = (some .int)) (hz : s.heap.size + 0 ≤ eB E + G.1) {rr : Int32 × Im} (fl : Nat) (zr75 : Im → Nat → Int64 → Int32 → Option (Int32 × Im)) (zhr75 : ∀ (I : Im) (H : Heap) (locs : List Loc) (ls : Array Slot) (zx0 : Nat) (zx1 : Int64) (zx6 : Int32) (zt0 : okA E G 9 zx0), WD E G I X s.heap H locs → lv_has ls 7 [(0, .ref zx0), (1, .long zx1), (6, .int zx6)] → zr75 I zx0 zx1 zx6 = some rr → W p l e ({ frames := 1, cells := 0, slots := 0, locals := 22 } : Room) s m args below meth c H locs 0 0 (MQ below (QI E G rr.1 rr.2 X) args s 0 0 (eA E)) (F0 m 75 ls [])) : ∀ (I : Im) (H : Heap) (locs : List Loc) (ls : Array Slot) (zx0 : Nat) (zx1 : Int64) (zx6 : Int32) (zt0 : okA E G 9 zx0), WD E G I X s.heap H locs → lv_has ls 7 [(0, .ref zx0), (1, .long zx1), (6, .int zx6)] → m9_put_75b fl G.2.2 X zr75 I zx0 zx1 zx6 = some rr → W p l e ({ frames := 1, cells := 0, slots := 0, locals := 22 } : Room) s m args below meth c H locs 0 0 (MQ below (QI E G rr.1 rr.2 X) args s 0 0 (eA E)) (F0 m 75 ls []) := by
  intro I H locs ls zx0 zx1 zx6 zt0 hw hl hf
  unfold m9_put_75b at hf
  have hx := C0.1; have hb := C0.2.1; have hml := C0.2.2.1; have hown := C0.2.2.2.1; have hts := C0.2.2.2.2.1
  refine lv_iload hx hb dX9_put_75 (lv_at hl 2 rfl) ?_
  refine lv_if_lt (tgt := 117) hx hb dX9_put_77 (by decide) (fun zc1 => ?_) (fun zc1 => ?_)
  · have hf := ite_t hf zc1
    refine lv_aload_n hx hb dX9_put_117 rfl (lv_at hl 0 rfl) ?_
    refine xg_9_8 C0 hw zt0 wd689 dX9_put_118 ?_
    obtain rfl := Option.some.inj hf
    exact x_iret C0 hr hw dX9_put_121
  · have hf := ite_f hf zc1
    refine lv_aload_n hx hb dX9_put_80 rfl (lv_at hl 0 rfl) ?_
    obtain ⟨zv2, ezv2, hf⟩ := nn_some hf
    have tzv2 : okA E G 11 zv2 := wt_r hw ezv2
    refine xg_9_7 C0 hw zt0 wd606 ezv2 dX9_put_81 ?_
    refine lv_aload_n hx hb dX9_put_84 rfl (lv_at hl 0 rfl) ?_
    refine xg_9_8 C0 hw zt0 wd689 dX9_put_85 ?_
    refine lv_lload_n hx hb dX9_put_88 rfl (lv_at hl 1 rfl) ?_
    refine lv_bipush (v := (8 : Int32)) hx hb dX9_put_89 (by decide) ?_
    refine lv_iload hx hb dX9_put_91 (lv_at hl 2 rfl) ?_
    refine lv_imul hx hb dX9_put_93 ?_
    refine lv_lushr hx hb dX9_put_94 rfl ?_
    refine lv_ldc2 (v := (255 : Int64)) hx hb hown (hts _ wd711) dX9_put_95 ?_
    refine lv_land hx hb dX9_put_98 ?_
    refine lv_l2i hx hb dX9_put_99 rfl ?_
    obtain ⟨zhb3, hf⟩ := ck_some hf
    obtain ⟨zI4, ezI4⟩ : ∃ y : Im, y = pA I zv2 ((gF I 152 zx0)).toNatClampNeg ((((((zx1).toUInt64 >>> ((((8 : Int32) * zx6)).toInt64.toUInt64 &&& Int64.toUInt64 63)).toInt64) &&& (255 : Int64))).toInt32) := ⟨_, rfl⟩
    have hf := lt_at hf ezI4
    refine x_iast C0 hz hw tzv2 zhb3 dX9_put_100 ezI4 (fun H locs hw => ?_)
    refine lv_aload_n hx hb dX9_put_101 rfl (lv_at hl 0 rfl) ?_
    refine lv_dup hx hb dX9_put_102 rfl ?_
    refine xg_9_8 C0 hw zt0 wd689 dX9_put_103 ?_
    refine lv_iconst (v := (1 : Int32)) hx hb dX9_put_106 (by decide) ?_
    refine lv_iadd hx hb dX9_put_107 ?_
    obtain ⟨zI5, ezI5⟩ : ∃ y : Im, y = pF zI4 152 zx0 ((gF zI4 152 zx0) + (1 : Int32)) := ⟨_, rfl⟩
    have hf := lt_at hf ezI5
    refine xp_9_8 C0 hz hw zt0 rfl rfl wd689 dX9_put_108 ezI5 (fun H locs hw => ?_)
    obtain ⟨zv6, ezv6⟩ : ∃ y : Int32, y = zx6 + (-1) := ⟨_, rfl⟩
    have hf := lt_at hf ezv6
    refine lv_iinc (v := zv6) (lv' := [(6, .int zv6), (0, .ref zx0), (1, .long zx1)]) hx hb dX9_put_111 hl (k := 2) rfl (by rw [ezv6]; rfl) (by decide) rfl (fun ls hl => ?_)
    refine lv_goto (tgt := 75) hx hb dX9_put_114 (by decide) ?_
    exact zhr75 zI5 _ _ _ zx0 zx1 zv6 zt0 hw (lv_sub hl [1, 2, 0] rfl) hf
theorem w9_put_75 {p : Program} {l : Launch} {e : Env} {s : State} {m : MethodId} {args : Array Value} {below : List Frame} {meth : Method} {c : Code} {E : EN} {G : GM} {X : Xm} (C0 : CX p s m args meth c E cX9_put RX9 7) (hr : meth.sig.returnType = (some .int)) (hz : s.heap.size + 0 ≤ eB E + G.1) {rr : Int32 × Im} (fl : Nat) : ∀ (n : Nat) (I : Im) (H : Heap) (locs : List Loc) (ls : Array Slot) (zx0 : Nat) (zx1 : Int64) (zx6 : Int32) (zt0 : okA E G 9 zx0), WD E G I X s.heap H locs → lv_has ls 7 [(0, .ref zx0), (1, .long zx1), (6, .int zx6)] → m9_put_75 fl G.2.2 X n I zx0 zx1 zx6 = some rr → W p l e ({ frames := 1, cells := 0, slots := 0, locals := 22 } : Room) s m args below meth c H locs 0 0 (MQ below (QI E G rr.1 rr.2 X) args s 0 0 (eA E)) (F0 m 75 ls []) := by
  intro n
  induction n with
  | zero => intro I H locs ls zx0 zx1 zx6 zt0 hw hl hf; exact absurd (show (none : Option (Int32 × Im)) = some rr from hf) (by simp)
  | succ n ih => intro I H locs ls zx0 zx1 zx6 zt0 hw hl hf; exact w9_put_75b C0 hr hz fl _ ih I H locs ls zx0 zx1 zx6 zt0 hw hl hf
noncomputable def m9_put_53 (fl : Nat) (len : Nat → Nat) (X : Xm) (I : Im) : Option (Int32 × Im) :=
  some ((-2 : Int32), I)
set_option maxHeartbeats 4000000 in
set_option maxRecDepth 100000 in
theorem w9_put_53 {p : Program} {l : Launch} {e : Env} {s : State} {m : MethodId} {args : Array Value} {below : List Frame} {meth : Method} {c : Code} {E : EN} {G : GM} {X : Xm} (C0 : CX p s m args meth c E cX9_put RX9 7) (hr : meth.sig.returnType = (some .int)) (hz : s.heap.size + 0 ≤ eB E + G.1) {rr : Int32 × Im} (fl : Nat) : ∀ (I : Im) (H : Heap) (locs : List Loc) (ls : Array Slot) , WD E G I X s.heap H locs → lv_has ls 7 [] → m9_put_53 fl G.2.2 X I = some rr → W p l e ({ frames := 1, cells := 0, slots := 0, locals := 22 } : Room) s m args below meth c H locs 0 0 (MQ below (QI E G rr.1 rr.2 X) args s 0 0 (eA E)) (F0 m 53 ls []) := by
  intro I H locs ls hw hl hf
  unfold m9_put_53 at hf
  have hx := C0.1; have hb := C0.2.1; have hml := C0.2.2.1; have hown := C0.2.2.2.1; have hts := C0.2.2.2.2.1
  refine lv_bipush (v := (-2 : Int32)) hx hb dX9_put_53 (by decide) ?_
  obtain rfl := Option.some.inj hf
  exact x_iret C0 hr hw dX9_put_55
noncomputable def m9_put_42 (fl : Nat) (len : Nat → Nat) (X : Xm) (I : Im) (zx0 : Nat) (zx1 : Int64) (zx3 : Int32) (zx4 : Int64) : Option (Int32 × Im) :=
  if zx3 = 0 then
    m9_put_53 fl len X I
  else
    if (lg_cmp zx4 (0 : Int64)) = 0 then
      if ((gF I 152 zx0) + zx3) ≤ (80 : Int32) then
        lt ((zx3 - (1 : Int32))) fun zv4 =>
        m9_put_75 fl len X fl I zx0 zx1 zv4
      else
        some ((-4 : Int32), I)
    else
      m9_put_53 fl len X I
set_option maxHeartbeats 4000000 in
set_option maxRecDepth 100000 in
theorem w9_put_42 {p : Program} {l : Launch} {e : Env} {s : State} {m : MethodId} {args : Array Value} {below : List Frame} {meth : Method} {c : Code} {E : EN} {G : GM} {X : Xm} (C0 : CX p s m args meth c E cX9_put RX9 7) (hr : meth.sig.returnType = (some .int)) (hz : s.heap.size + 0 ≤ eB E + G.1) {rr : Int32 × Im} (fl : Nat) : ∀ (I : Im) (H : Heap) (locs : List Loc) (ls : Array Slot) (zx0 : Nat) (zx1 : Int64) (zx3 : Int32) (zx4 : Int64) (zt0 : okA E G 9 zx0), WD E G I X s.heap H locs → lv_has ls 7 [(0, .ref zx0), (1, .long zx1), (3, .int zx3), (4, .long zx4)] → m9_put_42 fl G.2.2 X I zx0 zx1 zx3 zx4 = some rr → W p l e ({ frames := 1, cells := 0, slots := 0, locals := 22 } : Room) s m args below meth c H locs 0 0 (MQ below (QI E G rr.1 rr.2 X) args s 0 0 (eA E)) (F0 m 42 ls []) := by
  intro I H locs ls zx0 zx1 zx3 zx4 zt0 hw hl hf
  unfold m9_put_42 at hf
  have hx := C0.1; have hb := C0.2.1; have hml := C0.2.2.1; have hown := C0.2.2.2.1; have hts := C0.2.2.2.2.1
  refine lv_iload_n hx hb dX9_put_42 rfl (lv_at hl 2 rfl) ?_
  refine lv_if_eq (tgt := 53) hx hb dX9_put_43 (by decide) (fun zc1 => ?_) (fun zc1 => ?_)
  · have hf := ite_t hf zc1
    exact w9_put_53 C0 hr hz fl I _ _ _ hw (lv_sub hl [] rfl) hf
  · have hf := ite_f hf zc1
    refine lv_lload hx hb dX9_put_46 (lv_at hl 3 rfl) ?_
    refine lv_lconst (v := (0 : Int64)) hx hb dX9_put_48 (by decide) ?_
    refine W.lcmp hx hb dX9_put_49 ?_
    refine lv_if_eq (tgt := 56) hx hb dX9_put_50 (by decide) (fun zc2 => ?_) (fun zc2 => ?_)
    · have hf := ite_t hf zc2
      refine lv_aload_n hx hb dX9_put_56 rfl (lv_at hl 0 rfl) ?_
      refine xg_9_8 C0 hw zt0 wd689 dX9_put_57 ?_
      refine lv_iload_n hx hb dX9_put_60 rfl (lv_at hl 2 rfl) ?_
      refine lv_iadd hx hb dX9_put_61 ?_
      refine lv_bipush (v := (80 : Int32)) hx hb dX9_put_62 (by decide) ?_
      refine lv_icmp_le (tgt := 70) hx hb dX9_put_64 (by decide) (fun zc3 => ?_) (fun zc3 => ?_)
      · have hf := ite_t hf zc3
        refine lv_iload_n hx hb dX9_put_70 rfl (lv_at hl 2 rfl) ?_
        refine lv_iconst (v := (1 : Int32)) hx hb dX9_put_71 (by decide) ?_
        refine lv_isub hx hb dX9_put_72 ?_
        refine lv_topi (fun zv4 ezv4 => ?_)
        have hf := lt_at hf ezv4
        refine lv_istore (lv' := [(6, .int zv4), (0, .ref zx0), (1, .long zx1), (3, .int zx3), (4, .long zx4)]) hx hb dX9_put_73 hl (by decide) rfl (fun ls hl => ?_)
        exact w9_put_75 C0 hr hz fl fl I _ _ _ zx0 zx1 zv4 zt0 hw (lv_sub hl [1, 2, 0] rfl) hf
      · have hf := ite_f hf zc3
        refine lv_bipush (v := (-4 : Int32)) hx hb dX9_put_67 (by decide) ?_
        obtain rfl := Option.some.inj hf
        exact x_iret C0 hr hw dX9_put_69
    · have hf := ite_f hf zc2
      exact w9_put_53 C0 hr hz fl I _ _ _ hw (lv_sub hl [] rfl) hf
noncomputable def m9_put_5b (fl : Nat) (len : Nat → Nat) (X : Xm) (zr5 : Im → Nat → Int64 → Int32 → Int64 → Option (Int32 × Im)) (I : Im) (zx0 : Nat) (zx1 : Int64) (zx3 : Int32) (zx4 : Int64) : Option (Int32 × Im) :=
  if (lg_cmp zx4 (0 : Int64)) = 0 then
    m9_put_42 fl len X I zx0 zx1 zx3 zx4
  else
    nn (m9_in fl len X I (((zx4 &&& (255 : Int64))).toInt32) (33 : Int32) (126 : Int32)) fun zv2 =>
    if zv2 = 0 then
      m9_put_42 fl len X I zx0 zx1 zx3 zx4
    else
      lt ((((zx4).toUInt64 >>> (((8 : Int32)).toInt64.toUInt64 &&& Int64.toUInt64 63)).toInt64)) fun zv5 =>
      lt (zx3 + 1) fun zv6 =>
      zr5 I zx0 zx1 zv6 zv5
noncomputable def m9_put_5 (fl : Nat) (len : Nat → Nat) (X : Xm) (n : Nat) : Im → Nat → Int64 → Int32 → Int64 → Option (Int32 × Im) :=
  Nat.rec (fun _ _ _ _ _ => none) (fun _ r => m9_put_5b fl len X r) n
set_option maxHeartbeats 4000000 in
set_option maxRecDepth 100000 in
theorem w9_put_5b {p : Program} {l : Launch} {e : Env} {s : State} {m : MethodId} {args : Array Value} {below : List Frame} {meth : Method} {c : Code} {E : EN} {G : GM} {X : Xm} (C0 : CX p s m args meth c E cX9_put RX9 7) (hr : meth.sig.returnType = (some .int)) (hz : s.heap.size + 0 ≤ eB E + G.1) {rr : Int32 × Im} (fl : Nat) (zr5 : Im → Nat → Int64 → Int32 → Int64 → Option (Int32 × Im)) (zhr5 : ∀ (I : Im) (H : Heap) (locs : List Loc) (ls : Array Slot) (zx0 : Nat) (zx1 : Int64) (zx3 : Int32) (zx4 : Int64) (zt0 : okA E G 9 zx0), WD E G I X s.heap H locs → lv_has ls 7 [(0, .ref zx0), (1, .long zx1), (3, .int zx3), (4, .long zx4)] → zr5 I zx0 zx1 zx3 zx4 = some rr → W p l e ({ frames := 1, cells := 0, slots := 0, locals := 22 } : Room) s m args below meth c H locs 0 0 (MQ below (QI E G rr.1 rr.2 X) args s 0 0 (eA E)) (F0 m 5 ls [])) : ∀ (I : Im) (H : Heap) (locs : List Loc) (ls : Array Slot) (zx0 : Nat) (zx1 : Int64) (zx3 : Int32) (zx4 : Int64) (zt0 : okA E G 9 zx0), WD E G I X s.heap H locs → lv_has ls 7 [(0, .ref zx0), (1, .long zx1), (3, .int zx3), (4, .long zx4)] → m9_put_5b fl G.2.2 X zr5 I zx0 zx1 zx3 zx4 = some rr → W p l e ({ frames := 1, cells := 0, slots := 0, locals := 22 } : Room) s m args below meth c H locs 0 0 (MQ below (QI E G rr.1 rr.2 X) args s 0 0 (eA E)) (F0 m 5 ls []) := by
  intro I H locs ls zx0 zx1 zx3 zx4 zt0 hw hl hf
  unfold m9_put_5b at hf
  have hx := C0.1; have hb := C0.2.1; have hml := C0.2.2.1; have hown := C0.2.2.2.1; have hts := C0.2.2.2.2.1
  refine lv_lload hx hb dX9_put_5 (lv_at hl 3 rfl) ?_
  refine lv_lconst (v := (0 : Int64)) hx hb dX9_put_7 (by decide) ?_
  refine W.lcmp hx hb dX9_put_8 ?_
  refine lv_if_eq (tgt := 42) hx hb dX9_put_9 (by decide) (fun zc1 => ?_) (fun zc1 => ?_)
  · have hf := ite_t hf zc1
    exact w9_put_42 C0 hr hz fl I _ _ _ zx0 zx1 zx3 zx4 zt0 hw (lv_sub hl [0, 1, 2, 3] rfl) hf
  · have hf := ite_f hf zc1
    refine lv_lload hx hb dX9_put_12 (lv_at hl 3 rfl) ?_
    refine lv_ldc2 (v := (255 : Int64)) hx hb hown (hts _ wd711) dX9_put_14 ?_
    refine lv_land hx hb dX9_put_17 ?_
    refine lv_l2i hx hb dX9_put_18 rfl ?_
    refine lv_bipush (v := (33 : Int32)) hx hb dX9_put_19 (by decide) ?_
    refine lv_bipush (v := (126 : Int32)) hx hb dX9_put_21 (by decide) ?_
    obtain ⟨zv2, ze3, hf⟩ := nn_some hf
    refine x_ci (r := zv2) (I1 := I) (X1 := X) (x_runS (As := [.int (((zx4 &&& (255 : Int64))).toInt32), .int (33 : Int32), .int (126 : Int32)]) (rest := []) C0 (c9_in l E G fl X I (((zx4 &&& (255 : Int64))).toInt32) (33 : Int32) (126 : Int32) ze3) hw wd113 wd610 wd611 wd612 ⟨rfl, rfl⟩ hy9_in ⟨Nat.le_of_ble_eq_true rfl, Nat.le_of_ble_eq_true rfl⟩ rfl hl.1 (Nat.le_of_ble_eq_true rfl) ⟨Nat.zero_le _, Nat.zero_le _⟩ dX9_put_23) hw (fun H locs hw => ?_)
    refine lv_if_eq (tgt := 42) hx hb dX9_put_26 (by decide) (fun zc4 => ?_) (fun zc4 => ?_)
    · have hf := ite_t hf zc4
      exact w9_put_42 C0 hr hz fl I _ _ _ zx0 zx1 zx3 zx4 zt0 hw (lv_sub hl [0, 1, 2, 3] rfl) hf
    · have hf := ite_f hf zc4
      refine lv_lload hx hb dX9_put_29 (lv_at hl 3 rfl) ?_
      refine lv_bipush (v := (8 : Int32)) hx hb dX9_put_31 (by decide) ?_
      refine lv_lushr hx hb dX9_put_33 rfl ?_
      refine lv_topl (fun zv5 ezv5 => ?_)
      have hf := lt_at hf ezv5
      refine lv_lstore (lv' := [(4, .long zv5), (0, .ref zx0), (1, .long zx1), (3, .int zx3)]) hx hb dX9_put_34 hl (by decide) rfl (fun ls hl => ?_)
      obtain ⟨zv6, ezv6⟩ : ∃ y : Int32, y = zx3 + 1 := ⟨_, rfl⟩
      have hf := lt_at hf ezv6
      refine lv_iinc (v := zv6) (lv' := [(3, .int zv6), (4, .long zv5), (0, .ref zx0), (1, .long zx1)]) hx hb dX9_put_36 hl (k := 3) rfl (by rw [ezv6]; rfl) (by decide) rfl (fun ls hl => ?_)
      refine lv_goto (tgt := 5) hx hb dX9_put_39 (by decide) ?_
      exact zhr5 I _ _ _ zx0 zx1 zv6 zv5 zt0 hw (lv_sub hl [2, 3, 0, 1] rfl) hf
theorem w9_put_5 {p : Program} {l : Launch} {e : Env} {s : State} {m : MethodId} {args : Array Value} {below : List Frame} {meth : Method} {c : Code} {E : EN} {G : GM} {X : Xm} (C0 : CX p s m args meth c E cX9_put RX9 7) (hr : meth.sig.returnType = (some .int)) (hz : s.heap.size + 0 ≤ eB E + G.1) {rr : Int32 × Im} (fl : Nat) : ∀ (n : Nat) (I : Im) (H : Heap) (locs : List Loc) (ls : Array Slot) (zx0 : Nat) (zx1 : Int64) (zx3 : Int32) (zx4 : Int64) (zt0 : okA E G 9 zx0), WD E G I X s.heap H locs → lv_has ls 7 [(0, .ref zx0), (1, .long zx1), (3, .int zx3), (4, .long zx4)] → m9_put_5 fl G.2.2 X n I zx0 zx1 zx3 zx4 = some rr → W p l e ({ frames := 1, cells := 0, slots := 0, locals := 22 } : Room) s m args below meth c H locs 0 0 (MQ below (QI E G rr.1 rr.2 X) args s 0 0 (eA E)) (F0 m 5 ls []) := by
  intro n
  induction n with
  | zero => intro I H locs ls zx0 zx1 zx3 zx4 zt0 hw hl hf; exact absurd (show (none : Option (Int32 × Im)) = some rr from hf) (by simp)
  | succ n ih => intro I H locs ls zx0 zx1 zx3 zx4 zt0 hw hl hf; exact w9_put_5b C0 hr hz fl _ ih I H locs ls zx0 zx1 zx3 zx4 zt0 hw hl hf
noncomputable def m9_put (fl : Nat) (len : Nat → Nat) (X : Xm) (I : Im) (zx0 : Nat) (zx1 : Int64) : Option (Int32 × Im) :=
  m9_put_5 fl len X fl I zx0 zx1 (0 : Int32) zx1
theorem hy9_put : yX9_put.cls = RX9 ∧ yX9_put.cls ≠ "java/lang/invoke/MethodHandle" ∧ yX9_put.cls ≠ "java/lang/invoke/VarHandle" ∧ (parseMethodDescriptor yX9_put.desc).map (fun d => d.parameters.length) = some 1 := ⟨rfl, by decide +kernel, by decide +kernel, by decide +kernel⟩
set_option maxHeartbeats 4000000 in
set_option maxRecDepth 100000 in
theorem c9_put (l : Launch) (E : EN) (G : GM) (fl : Nat) (X : Xm) (I : Im) (zx0 : Nat) (zx1 : Int64) (zt0 : okA E G 9 zx0) {rr : Int32 × Im} (hf : m9_put fl G.2.2 X I zx0 zx1 = some rr) : MT l yX9_put cX9_put 7 (some .int) ({ frames := 1, cells := 0, slots := 0, locals := 22 } : Room) E G I X [.ref zx0, .long zx1] (QI E G rr.1 rr.2 X) 0 0 := by
  refine Met.ofW (cc := cX9_put) (maxL := 7) (ret := (some .int)) (by decide +kernel) rfl ?_
  intro p e s m args below meth c s₁ B hml hv
  obtain ⟨rfl, hw0, hSE⟩ := hv
  have C0 : CX p s m ([.ref zx0, .long zx1] : List Value).toArray meth c E cX9_put RX9 7 := ⟨B.exec, B.bytes, hml, findClass_of_methodNamed B.named, fun w hw => atoms_spec (ws := WS yX9_put cX9_put 7 (some .int)) B.pre w (List.mem_cons_of_mem _ hw), B.notSynchronized, hSE⟩
  have hz : s.heap.size + 0 ≤ eB E + G.1 := Nat.le_of_eq hw0.2.1
  have hw : WD E G I X s.heap s.heap [] := ⟨hw0, va_S.rf⟩
  have hr := B.returns
  have hx := C0.1; have hb := C0.2.1; have hml := C0.2.2.1; have hown := C0.2.2.2.1; have hts := C0.2.2.2.2.1
  have hl := lv_entry ([.ref zx0, .long zx1]) (n := 7) (Nat.le_of_ble_eq_true rfl)
  rw [lg_entry_eq]
  generalize (lg_sl ([.ref zx0, .long zx1]) ++ List.replicate (7 - (lg_sl ([.ref zx0, .long zx1])).length) Slot.unset).toArray = ls at hl ⊢
  have hl : lv_has ls 7 [(0, .ref zx0), (1, .long zx1)] := hl
  unfold m9_put at hf
  refine lv_iconst (v := (0 : Int32)) hx hb dX9_put_0 (by decide) ?_
  refine lv_istore_n (lv' := [(3, .int (0 : Int32)), (0, .ref zx0), (1, .long zx1)]) hx hb dX9_put_1 rfl hl (by decide) rfl (fun ls hl => ?_)
  refine lv_lload_n hx hb dX9_put_2 rfl (lv_at hl 2 rfl) ?_
  refine lv_lstore (lv' := [(4, .long zx1), (3, .int (0 : Int32)), (0, .ref zx0), (1, .long zx1)]) hx hb dX9_put_3 hl (by decide) rfl (fun ls hl => ?_)
  exact w9_put_5 C0 hr hz fl fl I _ _ _ zx0 zx1 (0 : Int32) zx1 zt0 hw (lv_sub hl [2, 3, 1, 0] rfl) hf
noncomputable def m9_wipe (fl : Nat) (len : Nat → Nat) (X : Xm) (I : Im) (zx0 : Nat) : Option (Int32 × Im) :=
  lt ((gF I 152 zx0)) fun zv1 =>
  lt (pF I 152 zx0 (0 : Int32)) fun zI2 =>
  some (zv1, zI2)
theorem hy9_wipe : yX9_wipe.cls = RX9 ∧ yX9_wipe.cls ≠ "java/lang/invoke/MethodHandle" ∧ yX9_wipe.cls ≠ "java/lang/invoke/VarHandle" ∧ (parseMethodDescriptor yX9_wipe.desc).map (fun d => d.parameters.length) = some 0 := ⟨rfl, by decide +kernel, by decide +kernel, by decide +kernel⟩
set_option maxHeartbeats 4000000 in
set_option maxRecDepth 100000 in
theorem c9_wipe (l : Launch) (E : EN) (G : GM) (fl : Nat) (X : Xm) (I : Im) (zx0 : Nat) (zt0 : okA E G 9 zx0) {rr : Int32 × Im} (hf : m9_wipe fl G.2.2 X I zx0 = some rr) : MT l yX9_wipe cX9_wipe 2 (some .int) ({ frames := 0, cells := 0, slots := 0, locals := 0 } : Room) E G I X [.ref zx0] (QI E G rr.1 rr.2 X) 0 0 := by
  refine Met.ofW (cc := cX9_wipe) (maxL := 2) (ret := (some .int)) (by decide +kernel) rfl ?_
  intro p e s m args below meth c s₁ B hml hv
  obtain ⟨rfl, hw0, hSE⟩ := hv
  have C0 : CX p s m ([.ref zx0] : List Value).toArray meth c E cX9_wipe RX9 2 := ⟨B.exec, B.bytes, hml, findClass_of_methodNamed B.named, fun w hw => atoms_spec (ws := WS yX9_wipe cX9_wipe 2 (some .int)) B.pre w (List.mem_cons_of_mem _ hw), B.notSynchronized, hSE⟩
  have hz : s.heap.size + 0 ≤ eB E + G.1 := Nat.le_of_eq hw0.2.1
  have hw : WD E G I X s.heap s.heap [] := ⟨hw0, va_S.rf⟩
  have hr := B.returns
  have hx := C0.1; have hb := C0.2.1; have hml := C0.2.2.1; have hown := C0.2.2.2.1; have hts := C0.2.2.2.2.1
  have hl := lv_entry ([.ref zx0]) (n := 2) (Nat.le_of_ble_eq_true rfl)
  rw [lg_entry_eq]
  generalize (lg_sl ([.ref zx0]) ++ List.replicate (2 - (lg_sl ([.ref zx0])).length) Slot.unset).toArray = ls at hl ⊢
  have hl : lv_has ls 2 [(0, .ref zx0)] := hl
  unfold m9_wipe at hf
  refine lv_aload_n hx hb dX9_wipe_0 rfl (lv_at hl 0 rfl) ?_
  refine xg_9_8 C0 hw zt0 wd689 dX9_wipe_1 ?_
  refine lv_topi (fun zv1 ezv1 => ?_)
  have hf := lt_at hf ezv1
  refine lv_istore_n (lv' := [(1, .int zv1), (0, .ref zx0)]) hx hb dX9_wipe_4 rfl hl (by decide) rfl (fun ls hl => ?_)
  refine lv_aload_n hx hb dX9_wipe_5 rfl (lv_at hl 1 rfl) ?_
  refine lv_iconst (v := (0 : Int32)) hx hb dX9_wipe_6 (by decide) ?_
  obtain ⟨zI2, ezI2⟩ : ∃ y : Im, y = pF I 152 zx0 (0 : Int32) := ⟨_, rfl⟩
  have hf := lt_at hf ezI2
  refine xp_9_8 C0 hz hw zt0 rfl rfl wd689 dX9_wipe_7 ezI2 (fun H locs hw => ?_)
  refine lv_iload_n hx hb dX9_wipe_10 rfl (lv_at hl 0 rfl) ?_
  obtain rfl := Option.some.inj hf
  exact x_iret C0 hr hw dX9_wipe_11
noncomputable def m9_isAt_33 (fl : Nat) (len : Nat → Nat) (X : Xm) (I : Im) (zs0 : Int32) : Option (Int32) :=
  ck (isbl zs0 = true) <|
  some (zs0)
set_option maxHeartbeats 4000000 in
set_option maxRecDepth 100000 in
theorem w9_isAt_33 {p : Program} {l : Launch} {e : Env} {s : State} {m : MethodId} {args : Array Value} {below : List Frame} {meth : Method} {c : Code} {E : EN} {G : GM} {X : Xm} {I : Im} (C0 : CX p s m args meth c E cX9_isAt RX9 3) (hr : meth.sig.returnType = (some .boolean)) (hz : s.heap.size + 0 ≤ eB E + G.1) {rr : Int32} (fl : Nat) : ∀ (H : Heap) (locs : List Loc) (ls : Array Slot) (zs0 : Int32) , WD E G I X s.heap H locs → lv_has ls 3 [] → m9_isAt_33 fl G.2.2 X I zs0 = some rr → W p l e ({ frames := 1, cells := 0, slots := 0, locals := 22 } : Room) s m args below meth c H locs 0 0 (MQ below (QI E G rr I X) args s 0 0 (eA E)) (F0 m 33 ls [.int zs0]) := by
  intro H locs ls zs0 hw hl hf
  unfold m9_isAt_33 at hf
  have hx := C0.1; have hb := C0.2.1; have hml := C0.2.2.1; have hown := C0.2.2.2.1; have hts := C0.2.2.2.2.1
  obtain ⟨zhn1, hf⟩ := ck_some hf
  obtain rfl := Option.some.inj hf
  exact x_zret C0 hr (isbl_nar zhn1) hw dX9_isAt_33
noncomputable def m9_isAt_32 (fl : Nat) (len : Nat → Nat) (X : Xm) (I : Im) : Option (Int32) :=
  m9_isAt_33 fl len X I (0 : Int32)
set_option maxHeartbeats 4000000 in
set_option maxRecDepth 100000 in
theorem w9_isAt_32 {p : Program} {l : Launch} {e : Env} {s : State} {m : MethodId} {args : Array Value} {below : List Frame} {meth : Method} {c : Code} {E : EN} {G : GM} {X : Xm} {I : Im} (C0 : CX p s m args meth c E cX9_isAt RX9 3) (hr : meth.sig.returnType = (some .boolean)) (hz : s.heap.size + 0 ≤ eB E + G.1) {rr : Int32} (fl : Nat) : ∀ (H : Heap) (locs : List Loc) (ls : Array Slot) , WD E G I X s.heap H locs → lv_has ls 3 [] → m9_isAt_32 fl G.2.2 X I = some rr → W p l e ({ frames := 1, cells := 0, slots := 0, locals := 22 } : Room) s m args below meth c H locs 0 0 (MQ below (QI E G rr I X) args s 0 0 (eA E)) (F0 m 32 ls []) := by
  intro H locs ls hw hl hf
  unfold m9_isAt_32 at hf
  have hx := C0.1; have hb := C0.2.1; have hml := C0.2.2.1; have hown := C0.2.2.2.1; have hts := C0.2.2.2.2.1
  refine lv_iconst (v := (0 : Int32)) hx hb dX9_isAt_32 (by decide) ?_
  exact w9_isAt_33 C0 hr hz fl _ _ _ (0 : Int32) hw (lv_sub hl [] rfl) hf
noncomputable def m9_isAt (fl : Nat) (len : Nat → Nat) (X : Xm) (I : Im) (zx0 : Nat) (zx1 : Int32) (zx2 : Int32) : Option (Int32) :=
  if (gF I 152 zx0) ≤ (gF I 153 zx0) then
    m9_isAt_32 fl len X I 
  else
    nn (gR X 151 zx0) fun zv2 =>
    ck (inb (gF I 153 zx0) (len zv2) = true) <|
    nn (m9_in fl len X I (gA I zv2 ((gF I 153 zx0)).toNatClampNeg) zx1 zx2) fun zv4 =>
    if zv4 = 0 then
      m9_isAt_32 fl len X I 
    else
      m9_isAt_33 fl len X I (1 : Int32)
theorem hy9_isAt : yX9_isAt.cls = RX9 ∧ yX9_isAt.cls ≠ "java/lang/invoke/MethodHandle" ∧ yX9_isAt.cls ≠ "java/lang/invoke/VarHandle" ∧ (parseMethodDescriptor yX9_isAt.desc).map (fun d => d.parameters.length) = some 2 := ⟨rfl, by decide +kernel, by decide +kernel, by decide +kernel⟩
set_option maxHeartbeats 4000000 in
set_option maxRecDepth 100000 in
theorem c9_isAt (l : Launch) (E : EN) (G : GM) (fl : Nat) (X : Xm) (I : Im) (zx0 : Nat) (zx1 : Int32) (zx2 : Int32) (zt0 : okA E G 9 zx0) {rr : Int32} (hf : m9_isAt fl G.2.2 X I zx0 zx1 zx2 = some rr) : MT l yX9_isAt cX9_isAt 3 (some .boolean) ({ frames := 1, cells := 0, slots := 0, locals := 22 } : Room) E G I X [.ref zx0, .int zx1, .int zx2] (QI E G rr I X) 0 0 := by
  refine Met.ofW (cc := cX9_isAt) (maxL := 3) (ret := (some .boolean)) (by decide +kernel) rfl ?_
  intro p e s m args below meth c s₁ B hml hv
  obtain ⟨rfl, hw0, hSE⟩ := hv
  have C0 : CX p s m ([.ref zx0, .int zx1, .int zx2] : List Value).toArray meth c E cX9_isAt RX9 3 := ⟨B.exec, B.bytes, hml, findClass_of_methodNamed B.named, fun w hw => atoms_spec (ws := WS yX9_isAt cX9_isAt 3 (some .boolean)) B.pre w (List.mem_cons_of_mem _ hw), B.notSynchronized, hSE⟩
  have hz : s.heap.size + 0 ≤ eB E + G.1 := Nat.le_of_eq hw0.2.1
  have hw : WD E G I X s.heap s.heap [] := ⟨hw0, va_S.rf⟩
  have hr := B.returns
  have hx := C0.1; have hb := C0.2.1; have hml := C0.2.2.1; have hown := C0.2.2.2.1; have hts := C0.2.2.2.2.1
  have hl := lv_entry ([.ref zx0, .int zx1, .int zx2]) (n := 3) (Nat.le_of_ble_eq_true rfl)
  rw [lg_entry_eq]
  generalize (lg_sl ([.ref zx0, .int zx1, .int zx2]) ++ List.replicate (3 - (lg_sl ([.ref zx0, .int zx1, .int zx2])).length) Slot.unset).toArray = ls at hl ⊢
  have hl : lv_has ls 3 [(0, .ref zx0), (1, .int zx1), (2, .int zx2)] := hl
  unfold m9_isAt at hf
  refine lv_aload_n hx hb dX9_isAt_0 rfl (lv_at hl 0 rfl) ?_
  refine xg_9_9 C0 hw zt0 wd712 dX9_isAt_1 ?_
  refine lv_aload_n hx hb dX9_isAt_4 rfl (lv_at hl 0 rfl) ?_
  refine xg_9_8 C0 hw zt0 wd689 dX9_isAt_5 ?_
  refine lv_icmp_ge (tgt := 32) hx hb dX9_isAt_8 (by decide) (fun zc1 => ?_) (fun zc1 => ?_)
  · have hf := ite_t hf zc1
    exact w9_isAt_32 C0 hr hz fl _ _ _ hw (lv_sub hl [] rfl) hf
  · have hf := ite_f hf zc1
    refine lv_aload_n hx hb dX9_isAt_11 rfl (lv_at hl 0 rfl) ?_
    obtain ⟨zv2, ezv2, hf⟩ := nn_some hf
    have tzv2 : okA E G 11 zv2 := wt_r hw ezv2
    refine xg_9_7 C0 hw zt0 wd606 ezv2 dX9_isAt_12 ?_
    refine lv_aload_n hx hb dX9_isAt_15 rfl (lv_at hl 0 rfl) ?_
    refine xg_9_9 C0 hw zt0 wd712 dX9_isAt_16 ?_
    obtain ⟨zhb3, hf⟩ := ck_some hf
    refine x_iald C0 hw tzv2 zhb3 dX9_isAt_19 ?_
    refine lv_iload_n hx hb dX9_isAt_20 rfl (lv_at hl 1 rfl) ?_
    refine lv_iload_n hx hb dX9_isAt_21 rfl (lv_at hl 2 rfl) ?_
    obtain ⟨zv4, ze5, hf⟩ := nn_some hf
    refine x_ci (r := zv4) (I1 := I) (X1 := X) (x_runS (As := [.int (gA I zv2 ((gF I 153 zx0)).toNatClampNeg), .int zx1, .int zx2]) (rest := []) C0 (c9_in l E G fl X I (gA I zv2 ((gF I 153 zx0)).toNatClampNeg) zx1 zx2 ze5) hw wd113 wd610 wd611 wd612 ⟨rfl, rfl⟩ hy9_in ⟨Nat.le_of_ble_eq_true rfl, Nat.le_of_ble_eq_true rfl⟩ rfl hl.1 (Nat.le_of_ble_eq_true rfl) ⟨Nat.zero_le _, Nat.zero_le _⟩ dX9_isAt_22) hw (fun H locs hw => ?_)
    refine lv_if_eq (tgt := 32) hx hb dX9_isAt_25 (by decide) (fun zc6 => ?_) (fun zc6 => ?_)
    · have hf := ite_t hf zc6
      exact w9_isAt_32 C0 hr hz fl _ _ _ hw (lv_sub hl [] rfl) hf
    · have hf := ite_f hf zc6
      refine lv_iconst (v := (1 : Int32)) hx hb dX9_isAt_28 (by decide) ?_
      refine lv_goto (tgt := 33) hx hb dX9_isAt_29 (by decide) ?_
      exact w9_isAt_33 C0 hr hz fl _ _ _ (1 : Int32) hw (lv_sub hl [] rfl) hf
noncomputable def m9_sign_21 (fl : Nat) (len : Nat → Nat) (X : Xm) (I : Im) (zx2 : Int32) (zs0 : Nat) (zs1 : Int32) (zs2 : Int32) : Option (Int32 × Im) :=
  lt (pF I 153 zs0 (zs1 + zs2)) fun zI1 =>
  ck (isbl zx2 = true) <|
  some (zx2, zI1)
set_option maxHeartbeats 4000000 in
set_option maxRecDepth 100000 in
theorem w9_sign_21 {p : Program} {l : Launch} {e : Env} {s : State} {m : MethodId} {args : Array Value} {below : List Frame} {meth : Method} {c : Code} {E : EN} {G : GM} {X : Xm} (C0 : CX p s m args meth c E cX9_sign RX9 3) (hr : meth.sig.returnType = (some .boolean)) (hz : s.heap.size + 0 ≤ eB E + G.1) {rr : Int32 × Im} (fl : Nat) : ∀ (I : Im) (H : Heap) (locs : List Loc) (ls : Array Slot) (zx2 : Int32) (zs0 : Nat) (zs1 : Int32) (zs2 : Int32) (zts0 : okA E G 9 zs0), WD E G I X s.heap H locs → lv_has ls 3 [(2, .int zx2)] → m9_sign_21 fl G.2.2 X I zx2 zs0 zs1 zs2 = some rr → W p l e ({ frames := 2, cells := 0, slots := 0, locals := 44 } : Room) s m args below meth c H locs 0 0 (MQ below (QI E G rr.1 rr.2 X) args s 0 0 (eA E)) (F0 m 21 ls [.int zs2, .int zs1, .ref zs0]) := by
  intro I H locs ls zx2 zs0 zs1 zs2 zts0 hw hl hf
  unfold m9_sign_21 at hf
  have hx := C0.1; have hb := C0.2.1; have hml := C0.2.2.1; have hown := C0.2.2.2.1; have hts := C0.2.2.2.2.1
  refine lv_iadd hx hb dX9_sign_21 ?_
  obtain ⟨zI1, ezI1⟩ : ∃ y : Im, y = pF I 153 zs0 (zs1 + zs2) := ⟨_, rfl⟩
  have hf := lt_at hf ezI1
  refine xp_9_9 C0 hz hw zts0 rfl rfl wd712 dX9_sign_22 ezI1 (fun H locs hw => ?_)
  refine lv_iload_n hx hb dX9_sign_25 rfl (lv_at hl 0 rfl) ?_
  obtain ⟨zhn2, hf⟩ := ck_some hf
  obtain rfl := Option.some.inj hf
  exact x_zret C0 hr (isbl_nar zhn2) hw dX9_sign_26
noncomputable def m9_sign (fl : Nat) (len : Nat → Nat) (X : Xm) (I : Im) (zx0 : Nat) (zx1 : Int32) : Option (Int32 × Im) :=
  nn (m9_isAt fl len X I zx0 zx1 zx1) fun zv1 =>
  if zv1 = 0 then
    m9_sign_21 fl len X I zv1 zx0 (gF I 153 zx0) (0 : Int32)
  else
    m9_sign_21 fl len X I zv1 zx0 (gF I 153 zx0) (1 : Int32)
theorem hy9_sign : yX9_sign.cls = RX9 ∧ yX9_sign.cls ≠ "java/lang/invoke/MethodHandle" ∧ yX9_sign.cls ≠ "java/lang/invoke/VarHandle" ∧ (parseMethodDescriptor yX9_sign.desc).map (fun d => d.parameters.length) = some 1 := ⟨rfl, by decide +kernel, by decide +kernel, by decide +kernel⟩
set_option maxHeartbeats 4000000 in
set_option maxRecDepth 100000 in
theorem c9_sign (l : Launch) (E : EN) (G : GM) (fl : Nat) (X : Xm) (I : Im) (zx0 : Nat) (zx1 : Int32) (zt0 : okA E G 9 zx0) {rr : Int32 × Im} (hf : m9_sign fl G.2.2 X I zx0 zx1 = some rr) : MT l yX9_sign cX9_sign 3 (some .boolean) ({ frames := 2, cells := 0, slots := 0, locals := 44 } : Room) E G I X [.ref zx0, .int zx1] (QI E G rr.1 rr.2 X) 0 0 := by
  refine Met.ofW (cc := cX9_sign) (maxL := 3) (ret := (some .boolean)) (by decide +kernel) rfl ?_
  intro p e s m args below meth c s₁ B hml hv
  obtain ⟨rfl, hw0, hSE⟩ := hv
  have C0 : CX p s m ([.ref zx0, .int zx1] : List Value).toArray meth c E cX9_sign RX9 3 := ⟨B.exec, B.bytes, hml, findClass_of_methodNamed B.named, fun w hw => atoms_spec (ws := WS yX9_sign cX9_sign 3 (some .boolean)) B.pre w (List.mem_cons_of_mem _ hw), B.notSynchronized, hSE⟩
  have hz : s.heap.size + 0 ≤ eB E + G.1 := Nat.le_of_eq hw0.2.1
  have hw : WD E G I X s.heap s.heap [] := ⟨hw0, va_S.rf⟩
  have hr := B.returns
  have hx := C0.1; have hb := C0.2.1; have hml := C0.2.2.1; have hown := C0.2.2.2.1; have hts := C0.2.2.2.2.1
  have hl := lv_entry ([.ref zx0, .int zx1]) (n := 3) (Nat.le_of_ble_eq_true rfl)
  rw [lg_entry_eq]
  generalize (lg_sl ([.ref zx0, .int zx1]) ++ List.replicate (3 - (lg_sl ([.ref zx0, .int zx1])).length) Slot.unset).toArray = ls at hl ⊢
  have hl : lv_has ls 3 [(0, .ref zx0), (1, .int zx1)] := hl
  unfold m9_sign at hf
  refine lv_aload_n hx hb dX9_sign_0 rfl (lv_at hl 0 rfl) ?_
  refine lv_iload_n hx hb dX9_sign_1 rfl (lv_at hl 1 rfl) ?_
  refine lv_iload_n hx hb dX9_sign_2 rfl (lv_at hl 1 rfl) ?_
  obtain ⟨zv1, ze2, hf⟩ := nn_some hf
  refine x_ci (r := zv1) (I1 := I) (X1 := X) (x_runV (As := [.int zx1, .int zx1]) (rest := []) C0 (c9_isAt l E G fl X I zx0 zx1 zx1 zt0 ze2) hw 9 zt0 (by decide) rfl wd170 wd713 wd714 wd715 wd612 ⟨rfl, rfl⟩ hy9_isAt ⟨Nat.le_of_ble_eq_true rfl, Nat.le_of_ble_eq_true rfl⟩ rfl hl.1 (Nat.le_of_ble_eq_true rfl) ⟨Nat.zero_le _, Nat.zero_le _⟩ dX9_sign_3) hw (fun H locs hw => ?_)
  refine lv_istore_n (lv' := [(2, .int zv1), (0, .ref zx0), (1, .int zx1)]) hx hb dX9_sign_6 rfl hl (by decide) rfl (fun ls hl => ?_)
  refine lv_aload_n hx hb dX9_sign_7 rfl (lv_at hl 1 rfl) ?_
  refine lv_dup hx hb dX9_sign_8 rfl ?_
  refine xg_9_9 C0 hw zt0 wd712 dX9_sign_9 ?_
  refine lv_iload_n hx hb dX9_sign_12 rfl (lv_at hl 0 rfl) ?_
  refine lv_if_eq (tgt := 20) hx hb dX9_sign_13 (by decide) (fun zc3 => ?_) (fun zc3 => ?_)
  · have hf := ite_t hf zc3
    refine lv_iconst (v := (0 : Int32)) hx hb dX9_sign_20 (by decide) ?_
    exact w9_sign_21 C0 hr hz fl I _ _ _ zv1 zx0 (gF I 153 zx0) (0 : Int32) zt0 hw (lv_sub hl [0] rfl) hf
  · have hf := ite_f hf zc3
    refine lv_iconst (v := (1 : Int32)) hx hb dX9_sign_16 (by decide) ?_
    refine lv_goto (tgt := 21) hx hb dX9_sign_17 (by decide) ?_
    exact w9_sign_21 C0 hr hz fl I _ _ _ zv1 zx0 (gF I 153 zx0) (1 : Int32) zt0 hw (lv_sub hl [0] rfl) hf
noncomputable def m9_digit (fl : Nat) (len : Nat → Nat) (X : Xm) (I : Im) (zx0 : Nat) (zx1 : Int32) : Option (Int32 × Im) :=
  nn (m9_isAt fl len X I zx0 (48 : Int32) (57 : Int32)) fun zv1 =>
  if zv1 = 0 then
    some ((0 : Int32), I)
  else
    nn (gR X 155 zx0) fun zv4 =>
    nn (gR X 151 zx0) fun zv5 =>
    ck (inb (gF I 153 zx0) (len zv5) = true) <|
    ck (inb (((4 : Int32) * (gF I 154 zx0)) + zx1) (len zv4) = true) <|
    lt (pA I zv4 ((((4 : Int32) * (gF I 154 zx0)) + zx1)).toNatClampNeg ((gA I zv5 ((gF I 153 zx0)).toNatClampNeg) - (48 : Int32))) fun zI8 =>
    lt (pF zI8 153 zx0 ((gF zI8 153 zx0) + (1 : Int32))) fun zI9 =>
    some ((1 : Int32), zI9)
theorem hy9_digit : yX9_digit.cls = RX9 ∧ yX9_digit.cls ≠ "java/lang/invoke/MethodHandle" ∧ yX9_digit.cls ≠ "java/lang/invoke/VarHandle" ∧ (parseMethodDescriptor yX9_digit.desc).map (fun d => d.parameters.length) = some 1 := ⟨rfl, by decide +kernel, by decide +kernel, by decide +kernel⟩
set_option maxHeartbeats 4000000 in
set_option maxRecDepth 100000 in
theorem c9_digit (l : Launch) (E : EN) (G : GM) (fl : Nat) (X : Xm) (I : Im) (zx0 : Nat) (zx1 : Int32) (zt0 : okA E G 9 zx0) {rr : Int32 × Im} (hf : m9_digit fl G.2.2 X I zx0 zx1 = some rr) : MT l yX9_digit cX9_digit 2 (some .boolean) ({ frames := 2, cells := 0, slots := 0, locals := 44 } : Room) E G I X [.ref zx0, .int zx1] (QI E G rr.1 rr.2 X) 0 0 := by
  refine Met.ofW (cc := cX9_digit) (maxL := 2) (ret := (some .boolean)) (by decide +kernel) rfl ?_
  intro p e s m args below meth c s₁ B hml hv
  obtain ⟨rfl, hw0, hSE⟩ := hv
  have C0 : CX p s m ([.ref zx0, .int zx1] : List Value).toArray meth c E cX9_digit RX9 2 := ⟨B.exec, B.bytes, hml, findClass_of_methodNamed B.named, fun w hw => atoms_spec (ws := WS yX9_digit cX9_digit 2 (some .boolean)) B.pre w (List.mem_cons_of_mem _ hw), B.notSynchronized, hSE⟩
  have hz : s.heap.size + 0 ≤ eB E + G.1 := Nat.le_of_eq hw0.2.1
  have hw : WD E G I X s.heap s.heap [] := ⟨hw0, va_S.rf⟩
  have hr := B.returns
  have hx := C0.1; have hb := C0.2.1; have hml := C0.2.2.1; have hown := C0.2.2.2.1; have hts := C0.2.2.2.2.1
  have hl := lv_entry ([.ref zx0, .int zx1]) (n := 2) (Nat.le_of_ble_eq_true rfl)
  rw [lg_entry_eq]
  generalize (lg_sl ([.ref zx0, .int zx1]) ++ List.replicate (2 - (lg_sl ([.ref zx0, .int zx1])).length) Slot.unset).toArray = ls at hl ⊢
  have hl : lv_has ls 2 [(0, .ref zx0), (1, .int zx1)] := hl
  unfold m9_digit at hf
  refine lv_aload_n hx hb dX9_digit_0 rfl (lv_at hl 0 rfl) ?_
  refine lv_bipush (v := (48 : Int32)) hx hb dX9_digit_1 (by decide) ?_
  refine lv_bipush (v := (57 : Int32)) hx hb dX9_digit_3 (by decide) ?_
  obtain ⟨zv1, ze2, hf⟩ := nn_some hf
  refine x_ci (r := zv1) (I1 := I) (X1 := X) (x_runV (As := [.int (48 : Int32), .int (57 : Int32)]) (rest := []) C0 (c9_isAt l E G fl X I zx0 (48 : Int32) (57 : Int32) zt0 ze2) hw 9 zt0 (by decide) rfl wd170 wd713 wd714 wd715 wd612 ⟨rfl, rfl⟩ hy9_isAt ⟨Nat.le_of_ble_eq_true rfl, Nat.le_of_ble_eq_true rfl⟩ rfl hl.1 (Nat.le_of_ble_eq_true rfl) ⟨Nat.zero_le _, Nat.zero_le _⟩ dX9_digit_5) hw (fun H locs hw => ?_)
  refine lv_if_ne (tgt := 13) hx hb dX9_digit_8 (by decide) (fun zc3 => ?_) (fun zc3 => ?_)
  · have hf := ite_f hf zc3
    refine lv_aload_n hx hb dX9_digit_13 rfl (lv_at hl 0 rfl) ?_
    obtain ⟨zv4, ezv4, hf⟩ := nn_some hf
    have tzv4 : okA E G 11 zv4 := wt_r hw ezv4
    refine xg_9_11 C0 hw zt0 wd607 ezv4 dX9_digit_14 ?_
    refine lv_iconst (v := (4 : Int32)) hx hb dX9_digit_17 (by decide) ?_
    refine lv_aload_n hx hb dX9_digit_18 rfl (lv_at hl 0 rfl) ?_
    refine xg_9_10 C0 hw zt0 wd716 dX9_digit_19 ?_
    refine lv_imul hx hb dX9_digit_22 ?_
    refine lv_iload_n hx hb dX9_digit_23 rfl (lv_at hl 1 rfl) ?_
    refine lv_iadd hx hb dX9_digit_24 ?_
    refine lv_aload_n hx hb dX9_digit_25 rfl (lv_at hl 0 rfl) ?_
    obtain ⟨zv5, ezv5, hf⟩ := nn_some hf
    have tzv5 : okA E G 11 zv5 := wt_r hw ezv5
    refine xg_9_7 C0 hw zt0 wd606 ezv5 dX9_digit_26 ?_
    refine lv_aload_n hx hb dX9_digit_29 rfl (lv_at hl 0 rfl) ?_
    refine xg_9_9 C0 hw zt0 wd712 dX9_digit_30 ?_
    obtain ⟨zhb6, hf⟩ := ck_some hf
    refine x_iald C0 hw tzv5 zhb6 dX9_digit_33 ?_
    refine lv_bipush (v := (48 : Int32)) hx hb dX9_digit_34 (by decide) ?_
    refine lv_isub hx hb dX9_digit_36 ?_
    obtain ⟨zhb7, hf⟩ := ck_some hf
    obtain ⟨zI8, ezI8⟩ : ∃ y : Im, y = pA I zv4 ((((4 : Int32) * (gF I 154 zx0)) + zx1)).toNatClampNeg ((gA I zv5 ((gF I 153 zx0)).toNatClampNeg) - (48 : Int32)) := ⟨_, rfl⟩
    have hf := lt_at hf ezI8
    refine x_iast C0 hz hw tzv4 zhb7 dX9_digit_37 ezI8 (fun H locs hw => ?_)
    refine lv_aload_n hx hb dX9_digit_38 rfl (lv_at hl 0 rfl) ?_
    refine lv_dup hx hb dX9_digit_39 rfl ?_
    refine xg_9_9 C0 hw zt0 wd712 dX9_digit_40 ?_
    refine lv_iconst (v := (1 : Int32)) hx hb dX9_digit_43 (by decide) ?_
    refine lv_iadd hx hb dX9_digit_44 ?_
    obtain ⟨zI9, ezI9⟩ : ∃ y : Im, y = pF zI8 153 zx0 ((gF zI8 153 zx0) + (1 : Int32)) := ⟨_, rfl⟩
    have hf := lt_at hf ezI9
    refine xp_9_9 C0 hz hw zt0 rfl rfl wd712 dX9_digit_45 ezI9 (fun H locs hw => ?_)
    refine lv_iconst (v := (1 : Int32)) hx hb dX9_digit_48 (by decide) ?_
    obtain rfl := Option.some.inj hf
    exact x_zret C0 hr (show narrow .boolean (.int (1 : Int32)) = .int (1 : Int32) by decide) hw dX9_digit_49
  · have hf := ite_t hf zc3
    refine lv_iconst (v := (0 : Int32)) hx hb dX9_digit_11 (by decide) ?_
    obtain rfl := Option.some.inj hf
    exact x_zret C0 hr (show narrow .boolean (.int (0 : Int32)) = .int (0 : Int32) by decide) hw dX9_digit_12
noncomputable def m9_number_108 (fl : Nat) (len : Nat → Nat) (X : Xm) (I : Im) : Option (Int32 × Im) :=
  some ((1 : Int32), I)
set_option maxHeartbeats 4000000 in
set_option maxRecDepth 100000 in
theorem w9_number_108 {p : Program} {l : Launch} {e : Env} {s : State} {m : MethodId} {args : Array Value} {below : List Frame} {meth : Method} {c : Code} {E : EN} {G : GM} {X : Xm} (C0 : CX p s m args meth c E cX9_number RX9 3) (hr : meth.sig.returnType = (some .boolean)) (hz : s.heap.size + 0 ≤ eB E + G.1) {rr : Int32 × Im} (fl : Nat) : ∀ (I : Im) (H : Heap) (locs : List Loc) (ls : Array Slot) , WD E G I X s.heap H locs → lv_has ls 3 [] → m9_number_108 fl G.2.2 X I = some rr → W p l e ({ frames := 3, cells := 0, slots := 0, locals := 65 } : Room) s m args below meth c H locs 0 0 (MQ below (QI E G rr.1 rr.2 X) args s 0 0 (eA E)) (F0 m 108 ls []) := by
  intro I H locs ls hw hl hf
  unfold m9_number_108 at hf
  have hx := C0.1; have hb := C0.2.1; have hml := C0.2.2.1; have hown := C0.2.2.2.1; have hts := C0.2.2.2.2.1
  refine lv_iconst (v := (1 : Int32)) hx hb dX9_number_108 (by decide) ?_
  obtain rfl := Option.some.inj hf
  exact x_zret C0 hr (show narrow .boolean (.int (1 : Int32)) = .int (1 : Int32) by decide) hw dX9_number_109
noncomputable def m9_number_19b (fl : Nat) (len : Nat → Nat) (X : Xm) (zr19 : Im → Nat → Int32 → Option (Int32 × Im)) (I : Im) (zx0 : Nat) (zx2 : Int32) : Option (Int32 × Im) :=
  nn (gR X 155 zx0) fun zv1 =>
  ck (inb zx2 (len zv1) = true) <|
  if (gA I zv1 (zx2).toNatClampNeg) ≤ 0 then
    m9_number_108 fl len X I
  else
    nn (m9_isAt fl len X I zx0 (48 : Int32) (57 : Int32)) fun zv4 =>
    if zv4 = 0 then
      m9_number_108 fl len X I
    else
      nn (gR X 151 zx0) fun zv7 =>
      ck (inb (gF I 153 zx0) (len zv7) = true) <|
      if (1000 : Int32) ≤ ((((10 : Int32) * (gA I zv1 (zx2).toNatClampNeg)) + (gA I zv7 ((gF I 153 zx0)).toNatClampNeg)) - (48 : Int32)) then
        m9_number_108 fl len X I
      else
        lt (pA I zv1 (zx2).toNatClampNeg ((((10 : Int32) * (gA I zv1 (zx2).toNatClampNeg)) + (gA I zv7 ((gF I 153 zx0)).toNatClampNeg)) - (48 : Int32))) fun zI10 =>
        lt (pF zI10 153 zx0 ((gF zI10 153 zx0) + (1 : Int32))) fun zI11 =>
        zr19 zI11 zx0 zx2
noncomputable def m9_number_19 (fl : Nat) (len : Nat → Nat) (X : Xm) (n : Nat) : Im → Nat → Int32 → Option (Int32 × Im) :=
  Nat.rec (fun _ _ _ => none) (fun _ r => m9_number_19b fl len X r) n
set_option maxHeartbeats 4000000 in
set_option maxRecDepth 100000 in
theorem w9_number_19b {p : Program} {l : Launch} {e : Env} {s : State} {m : MethodId} {args : Array Value} {below : List Frame} {meth : Method} {c : Code} {E : EN} {G : GM} {X : Xm} (C0 : CX p s m args meth c E cX9_number RX9 3) (hr : meth.sig.returnType = (some .boolean)) (hz : s.heap.size + 0 ≤ eB E + G.1) {rr : Int32 × Im} (fl : Nat) (zr19 : Im → Nat → Int32 → Option (Int32 × Im)) (zhr19 : ∀ (I : Im) (H : Heap) (locs : List Loc) (ls : Array Slot) (zx0 : Nat) (zx2 : Int32) (zt0 : okA E G 9 zx0), WD E G I X s.heap H locs → lv_has ls 3 [(0, .ref zx0), (2, .int zx2)] → zr19 I zx0 zx2 = some rr → W p l e ({ frames := 3, cells := 0, slots := 0, locals := 65 } : Room) s m args below meth c H locs 0 0 (MQ below (QI E G rr.1 rr.2 X) args s 0 0 (eA E)) (F0 m 19 ls [])) : ∀ (I : Im) (H : Heap) (locs : List Loc) (ls : Array Slot) (zx0 : Nat) (zx2 : Int32) (zt0 : okA E G 9 zx0), WD E G I X s.heap H locs → lv_has ls 3 [(0, .ref zx0), (2, .int zx2)] → m9_number_19b fl G.2.2 X zr19 I zx0 zx2 = some rr → W p l e ({ frames := 3, cells := 0, slots := 0, locals := 65 } : Room) s m args below meth c H locs 0 0 (MQ below (QI E G rr.1 rr.2 X) args s 0 0 (eA E)) (F0 m 19 ls []) := by
  intro I H locs ls zx0 zx2 zt0 hw hl hf
  unfold m9_number_19b at hf
  have hx := C0.1; have hb := C0.2.1; have hml := C0.2.2.1; have hown := C0.2.2.2.1; have hts := C0.2.2.2.2.1
  refine lv_aload_n hx hb dX9_number_19 rfl (lv_at hl 0 rfl) ?_
  obtain ⟨zv1, ezv1, hf⟩ := nn_some hf
  have tzv1 : okA E G 11 zv1 := wt_r hw ezv1
  refine xg_9_11 C0 hw zt0 wd607 ezv1 dX9_number_20 ?_
  refine lv_iload_n hx hb dX9_number_23 rfl (lv_at hl 1 rfl) ?_
  obtain ⟨zhb2, hf⟩ := ck_some hf
  refine x_iald C0 hw tzv1 zhb2 dX9_number_24 ?_
  refine lv_if_le (tgt := 108) hx hb dX9_number_25 (by decide) (fun zc3 => ?_) (fun zc3 => ?_)
  · have hf := ite_t hf zc3
    exact w9_number_108 C0 hr hz fl I _ _ _ hw (lv_sub hl [] rfl) hf
  · have hf := ite_f hf zc3
    refine lv_aload_n hx hb dX9_number_28 rfl (lv_at hl 0 rfl) ?_
    refine lv_bipush (v := (48 : Int32)) hx hb dX9_number_29 (by decide) ?_
    refine lv_bipush (v := (57 : Int32)) hx hb dX9_number_31 (by decide) ?_
    obtain ⟨zv4, ze5, hf⟩ := nn_some hf
    refine x_ci (r := zv4) (I1 := I) (X1 := X) (x_runV (As := [.int (48 : Int32), .int (57 : Int32)]) (rest := []) C0 (c9_isAt l E G fl X I zx0 (48 : Int32) (57 : Int32) zt0 ze5) hw 9 zt0 (by decide) rfl wd170 wd713 wd714 wd715 wd612 ⟨rfl, rfl⟩ hy9_isAt ⟨Nat.le_of_ble_eq_true rfl, Nat.le_of_ble_eq_true rfl⟩ rfl hl.1 (Nat.le_of_ble_eq_true rfl) ⟨Nat.zero_le _, Nat.zero_le _⟩ dX9_number_33) hw (fun H locs hw => ?_)
    refine lv_if_eq (tgt := 108) hx hb dX9_number_36 (by decide) (fun zc6 => ?_) (fun zc6 => ?_)
    · have hf := ite_t hf zc6
      exact w9_number_108 C0 hr hz fl I _ _ _ hw (lv_sub hl [] rfl) hf
    · have hf := ite_f hf zc6
      refine lv_bipush (v := (10 : Int32)) hx hb dX9_number_39 (by decide) ?_
      refine lv_aload_n hx hb dX9_number_41 rfl (lv_at hl 0 rfl) ?_
      refine xg_9_11 C0 hw zt0 wd607 ezv1 dX9_number_42 ?_
      refine lv_iload_n hx hb dX9_number_45 rfl (lv_at hl 1 rfl) ?_
      refine x_iald C0 hw tzv1 zhb2 dX9_number_46 ?_
      refine lv_imul hx hb dX9_number_47 ?_
      refine lv_aload_n hx hb dX9_number_48 rfl (lv_at hl 0 rfl) ?_
      obtain ⟨zv7, ezv7, hf⟩ := nn_some hf
      have tzv7 : okA E G 11 zv7 := wt_r hw ezv7
      refine xg_9_7 C0 hw zt0 wd606 ezv7 dX9_number_49 ?_
      refine lv_aload_n hx hb dX9_number_52 rfl (lv_at hl 0 rfl) ?_
      refine xg_9_9 C0 hw zt0 wd712 dX9_number_53 ?_
      obtain ⟨zhb8, hf⟩ := ck_some hf
      refine x_iald C0 hw tzv7 zhb8 dX9_number_56 ?_
      refine lv_iadd hx hb dX9_number_57 ?_
      refine lv_bipush (v := (48 : Int32)) hx hb dX9_number_58 (by decide) ?_
      refine lv_isub hx hb dX9_number_60 ?_
      refine lv_sipush (v := (1000 : Int32)) hx hb dX9_number_61 (by decide) ?_
      refine lv_icmp_ge (tgt := 108) hx hb dX9_number_64 (by decide) (fun zc9 => ?_) (fun zc9 => ?_)
      · have hf := ite_t hf zc9
        exact w9_number_108 C0 hr hz fl I _ _ _ hw (lv_sub hl [] rfl) hf
      · have hf := ite_f hf zc9
        refine lv_aload_n hx hb dX9_number_67 rfl (lv_at hl 0 rfl) ?_
        refine xg_9_11 C0 hw zt0 wd607 ezv1 dX9_number_68 ?_
        refine lv_iload_n hx hb dX9_number_71 rfl (lv_at hl 1 rfl) ?_
        refine lv_bipush (v := (10 : Int32)) hx hb dX9_number_72 (by decide) ?_
        refine lv_aload_n hx hb dX9_number_74 rfl (lv_at hl 0 rfl) ?_
        refine xg_9_11 C0 hw zt0 wd607 ezv1 dX9_number_75 ?_
        refine lv_iload_n hx hb dX9_number_78 rfl (lv_at hl 1 rfl) ?_
        refine x_iald C0 hw tzv1 zhb2 dX9_number_79 ?_
        refine lv_imul hx hb dX9_number_80 ?_
        refine lv_aload_n hx hb dX9_number_81 rfl (lv_at hl 0 rfl) ?_
        refine xg_9_7 C0 hw zt0 wd606 ezv7 dX9_number_82 ?_
        refine lv_aload_n hx hb dX9_number_85 rfl (lv_at hl 0 rfl) ?_
        refine xg_9_9 C0 hw zt0 wd712 dX9_number_86 ?_
        refine x_iald C0 hw tzv7 zhb8 dX9_number_89 ?_
        refine lv_iadd hx hb dX9_number_90 ?_
        refine lv_bipush (v := (48 : Int32)) hx hb dX9_number_91 (by decide) ?_
        refine lv_isub hx hb dX9_number_93 ?_
        obtain ⟨zI10, ezI10⟩ : ∃ y : Im, y = pA I zv1 (zx2).toNatClampNeg ((((10 : Int32) * (gA I zv1 (zx2).toNatClampNeg)) + (gA I zv7 ((gF I 153 zx0)).toNatClampNeg)) - (48 : Int32)) := ⟨_, rfl⟩
        have hf := lt_at hf ezI10
        refine x_iast C0 hz hw tzv1 zhb2 dX9_number_94 ezI10 (fun H locs hw => ?_)
        refine lv_aload_n hx hb dX9_number_95 rfl (lv_at hl 0 rfl) ?_
        refine lv_dup hx hb dX9_number_96 rfl ?_
        refine xg_9_9 C0 hw zt0 wd712 dX9_number_97 ?_
        refine lv_iconst (v := (1 : Int32)) hx hb dX9_number_100 (by decide) ?_
        refine lv_iadd hx hb dX9_number_101 ?_
        obtain ⟨zI11, ezI11⟩ : ∃ y : Im, y = pF zI10 153 zx0 ((gF zI10 153 zx0) + (1 : Int32)) := ⟨_, rfl⟩
        have hf := lt_at hf ezI11
        refine xp_9_9 C0 hz hw zt0 rfl rfl wd712 dX9_number_102 ezI11 (fun H locs hw => ?_)
        refine lv_goto (tgt := 19) hx hb dX9_number_105 (by decide) ?_
        exact zhr19 zI11 _ _ _ zx0 zx2 zt0 hw (lv_sub hl [0, 1] rfl) hf
theorem w9_number_19 {p : Program} {l : Launch} {e : Env} {s : State} {m : MethodId} {args : Array Value} {below : List Frame} {meth : Method} {c : Code} {E : EN} {G : GM} {X : Xm} (C0 : CX p s m args meth c E cX9_number RX9 3) (hr : meth.sig.returnType = (some .boolean)) (hz : s.heap.size + 0 ≤ eB E + G.1) {rr : Int32 × Im} (fl : Nat) : ∀ (n : Nat) (I : Im) (H : Heap) (locs : List Loc) (ls : Array Slot) (zx0 : Nat) (zx2 : Int32) (zt0 : okA E G 9 zx0), WD E G I X s.heap H locs → lv_has ls 3 [(0, .ref zx0), (2, .int zx2)] → m9_number_19 fl G.2.2 X n I zx0 zx2 = some rr → W p l e ({ frames := 3, cells := 0, slots := 0, locals := 65 } : Room) s m args below meth c H locs 0 0 (MQ below (QI E G rr.1 rr.2 X) args s 0 0 (eA E)) (F0 m 19 ls []) := by
  intro n
  induction n with
  | zero => intro I H locs ls zx0 zx2 zt0 hw hl hf; exact absurd (show (none : Option (Int32 × Im)) = some rr from hf) (by simp)
  | succ n ih => intro I H locs ls zx0 zx2 zt0 hw hl hf; exact w9_number_19b C0 hr hz fl _ ih I H locs ls zx0 zx2 zt0 hw hl hf
noncomputable def m9_number (fl : Nat) (len : Nat → Nat) (X : Xm) (I : Im) (zx0 : Nat) (zx1 : Int32) : Option (Int32 × Im) :=
  nn (m9_digit fl len X I zx0 zx1) fun ⟨zv1, zI2⟩ =>
  if zv1 = 0 then
    some ((0 : Int32), zI2)
  else
    lt ((((4 : Int32) * (gF zI2 154 zx0)) + zx1)) fun zv5 =>
    m9_number_19 fl len X fl zI2 zx0 zv5
theorem hy9_number : yX9_number.cls = RX9 ∧ yX9_number.cls ≠ "java/lang/invoke/MethodHandle" ∧ yX9_number.cls ≠ "java/lang/invoke/VarHandle" ∧ (parseMethodDescriptor yX9_number.desc).map (fun d => d.parameters.length) = some 1 := ⟨rfl, by decide +kernel, by decide +kernel, by decide +kernel⟩
set_option maxHeartbeats 4000000 in
set_option maxRecDepth 100000 in
theorem c9_number (l : Launch) (E : EN) (G : GM) (fl : Nat) (X : Xm) (I : Im) (zx0 : Nat) (zx1 : Int32) (zt0 : okA E G 9 zx0) {rr : Int32 × Im} (hf : m9_number fl G.2.2 X I zx0 zx1 = some rr) : MT l yX9_number cX9_number 3 (some .boolean) ({ frames := 3, cells := 0, slots := 0, locals := 65 } : Room) E G I X [.ref zx0, .int zx1] (QI E G rr.1 rr.2 X) 0 0 := by
  refine Met.ofW (cc := cX9_number) (maxL := 3) (ret := (some .boolean)) (by decide +kernel) rfl ?_
  intro p e s m args below meth c s₁ B hml hv
  obtain ⟨rfl, hw0, hSE⟩ := hv
  have C0 : CX p s m ([.ref zx0, .int zx1] : List Value).toArray meth c E cX9_number RX9 3 := ⟨B.exec, B.bytes, hml, findClass_of_methodNamed B.named, fun w hw => atoms_spec (ws := WS yX9_number cX9_number 3 (some .boolean)) B.pre w (List.mem_cons_of_mem _ hw), B.notSynchronized, hSE⟩
  have hz : s.heap.size + 0 ≤ eB E + G.1 := Nat.le_of_eq hw0.2.1
  have hw : WD E G I X s.heap s.heap [] := ⟨hw0, va_S.rf⟩
  have hr := B.returns
  have hx := C0.1; have hb := C0.2.1; have hml := C0.2.2.1; have hown := C0.2.2.2.1; have hts := C0.2.2.2.2.1
  have hl := lv_entry ([.ref zx0, .int zx1]) (n := 3) (Nat.le_of_ble_eq_true rfl)
  rw [lg_entry_eq]
  generalize (lg_sl ([.ref zx0, .int zx1]) ++ List.replicate (3 - (lg_sl ([.ref zx0, .int zx1])).length) Slot.unset).toArray = ls at hl ⊢
  have hl : lv_has ls 3 [(0, .ref zx0), (1, .int zx1)] := hl
  unfold m9_number at hf
  refine lv_aload_n hx hb dX9_number_0 rfl (lv_at hl 0 rfl) ?_
  refine lv_iload_n hx hb dX9_number_1 rfl (lv_at hl 1 rfl) ?_
  obtain ⟨⟨zv1, zI2⟩, ze3, hf⟩ := nn_some hf
  refine x_ci (r := zv1) (I1 := zI2) (X1 := X) (x_runV (As := [.int zx1]) (rest := []) C0 (c9_digit l E G fl X I zx0 zx1 zt0 ze3) hw 9 zt0 (by decide) rfl wd172 wd717 wd718 wd719 wd612 ⟨rfl, rfl⟩ hy9_digit ⟨Nat.le_of_ble_eq_true rfl, Nat.le_of_ble_eq_true rfl⟩ rfl hl.1 (Nat.le_of_ble_eq_true rfl) ⟨Nat.zero_le _, Nat.zero_le _⟩ dX9_number_2) hw (fun H locs hw => ?_)
  refine lv_if_ne (tgt := 10) hx hb dX9_number_5 (by decide) (fun zc4 => ?_) (fun zc4 => ?_)
  · have hf := ite_f hf zc4
    refine lv_iconst (v := (4 : Int32)) hx hb dX9_number_10 (by decide) ?_
    refine lv_aload_n hx hb dX9_number_11 rfl (lv_at hl 0 rfl) ?_
    refine xg_9_10 C0 hw zt0 wd716 dX9_number_12 ?_
    refine lv_imul hx hb dX9_number_15 ?_
    refine lv_iload_n hx hb dX9_number_16 rfl (lv_at hl 1 rfl) ?_
    refine lv_iadd hx hb dX9_number_17 ?_
    refine lv_topi (fun zv5 ezv5 => ?_)
    have hf := lt_at hf ezv5
    refine lv_istore_n (lv' := [(2, .int zv5), (0, .ref zx0), (1, .int zx1)]) hx hb dX9_number_18 rfl hl (by decide) rfl (fun ls hl => ?_)
    exact w9_number_19 C0 hr hz fl fl zI2 _ _ _ zx0 zv5 zt0 hw (lv_sub hl [1, 0] rfl) hf
  · have hf := ite_t hf zc4
    refine lv_iconst (v := (0 : Int32)) hx hb dX9_number_8 (by decide) ?_
    obtain rfl := Option.some.inj hf
    exact x_zret C0 hr (show narrow .boolean (.int (0 : Int32)) = .int (0 : Int32) by decide) hw dX9_number_9
noncomputable def m9_reads_362 (fl : Nat) (len : Nat → Nat) (X : Xm) (I : Im) (zx2 : Int32) (zs0 : Nat) (zs1 : Int32) (zs2 : Int32) : Option (Int32 × Im) :=
  lt (pF I 154 zs0 (zs1 + zs2)) fun zI1 =>
  ck (isbl zx2 = true) <|
  some (zx2, zI1)
set_option maxHeartbeats 4000000 in
set_option maxRecDepth 100000 in
theorem w9_reads_362 {p : Program} {l : Launch} {e : Env} {s : State} {m : MethodId} {args : Array Value} {below : List Frame} {meth : Method} {c : Code} {E : EN} {G : GM} {X : Xm} (C0 : CX p s m args meth c E cX9_reads RX9 3) (hr : meth.sig.returnType = (some .boolean)) (hz : s.heap.size + 0 ≤ eB E + G.1) {rr : Int32 × Im} (fl : Nat) : ∀ (I : Im) (H : Heap) (locs : List Loc) (ls : Array Slot) (zx2 : Int32) (zs0 : Nat) (zs1 : Int32) (zs2 : Int32) (zts0 : okA E G 9 zs0), WD E G I X s.heap H locs → lv_has ls 3 [(2, .int zx2)] → m9_reads_362 fl G.2.2 X I zx2 zs0 zs1 zs2 = some rr → W p l e ({ frames := 4, cells := 0, slots := 0, locals := 87 } : Room) s m args below meth c H locs 0 0 (MQ below (QI E G rr.1 rr.2 X) args s 0 0 (eA E)) (F0 m 362 ls [.int zs2, .int zs1, .ref zs0]) := by
  intro I H locs ls zx2 zs0 zs1 zs2 zts0 hw hl hf
  unfold m9_reads_362 at hf
  have hx := C0.1; have hb := C0.2.1; have hml := C0.2.2.1; have hown := C0.2.2.2.1; have hts := C0.2.2.2.2.1
  refine lv_iadd hx hb dX9_reads_362 ?_
  obtain ⟨zI1, ezI1⟩ : ∃ y : Im, y = pF I 154 zs0 (zs1 + zs2) := ⟨_, rfl⟩
  have hf := lt_at hf ezI1
  refine xp_9_10 C0 hz hw zts0 rfl rfl wd716 dX9_reads_363 ezI1 (fun H locs hw => ?_)
  refine lv_iload_n hx hb dX9_reads_366 rfl (lv_at hl 0 rfl) ?_
  obtain ⟨zhn2, hf⟩ := ck_some hf
  obtain rfl := Option.some.inj hf
  exact x_zret C0 hr (isbl_nar zhn2) hw dX9_reads_367
noncomputable def m9_reads_348 (fl : Nat) (len : Nat → Nat) (X : Xm) (I : Im) (zx0 : Nat) (zx2 : Int32) (p_155 : Nat) : Option (Int32 × Im) :=
  if zx2 = 0 then
    m9_reads_362 fl len X I zx2 zx0 (gF I 154 zx0) (0 : Int32)
  else
    m9_reads_362 fl len X I zx2 zx0 (gF I 154 zx0) (1 : Int32)
set_option maxHeartbeats 4000000 in
set_option maxRecDepth 100000 in
theorem w9_reads_348 {p : Program} {l : Launch} {e : Env} {s : State} {m : MethodId} {args : Array Value} {below : List Frame} {meth : Method} {c : Code} {E : EN} {G : GM} {X : Xm} (C0 : CX p s m args meth c E cX9_reads RX9 3) (hr : meth.sig.returnType = (some .boolean)) (hz : s.heap.size + 0 ≤ eB E + G.1) {rr : Int32 × Im} (fl : Nat) : ∀ (I : Im) (H : Heap) (locs : List Loc) (ls : Array Slot) (zx0 : Nat) (zx2 : Int32) (p_155 : Nat) (zt0 : okA E G 9 zx0) (ep_155 : gR X 155 zx0 = some p_155) (tp_155 : okA E G 11 p_155), WD E G I X s.heap H locs → lv_has ls 3 [(0, .ref zx0), (2, .int zx2)] → m9_reads_348 fl G.2.2 X I zx0 zx2 p_155 = some rr → W p l e ({ frames := 4, cells := 0, slots := 0, locals := 87 } : Room) s m args below meth c H locs 0 0 (MQ below (QI E G rr.1 rr.2 X) args s 0 0 (eA E)) (F0 m 348 ls []) := by
  intro I H locs ls zx0 zx2 p_155 zt0 ep_155 tp_155 hw hl hf
  unfold m9_reads_348 at hf
  have hx := C0.1; have hb := C0.2.1; have hml := C0.2.2.1; have hown := C0.2.2.2.1; have hts := C0.2.2.2.2.1
  refine lv_aload_n hx hb dX9_reads_348 rfl (lv_at hl 0 rfl) ?_
  refine lv_dup hx hb dX9_reads_349 rfl ?_
  refine xg_9_10 C0 hw zt0 wd716 dX9_reads_350 ?_
  refine lv_iload_n hx hb dX9_reads_353 rfl (lv_at hl 1 rfl) ?_
  refine lv_if_eq (tgt := 361) hx hb dX9_reads_354 (by decide) (fun zc1 => ?_) (fun zc1 => ?_)
  · have hf := ite_t hf zc1
    refine lv_iconst (v := (0 : Int32)) hx hb dX9_reads_361 (by decide) ?_
    exact w9_reads_362 C0 hr hz fl I _ _ _ zx2 zx0 (gF I 154 zx0) (0 : Int32) zt0 hw (lv_sub hl [1] rfl) hf
  · have hf := ite_f hf zc1
    refine lv_iconst (v := (1 : Int32)) hx hb dX9_reads_357 (by decide) ?_
    refine lv_goto (tgt := 362) hx hb dX9_reads_358 (by decide) ?_
    exact w9_reads_362 C0 hr hz fl I _ _ _ zx2 zx0 (gF I 154 zx0) (1 : Int32) zt0 hw (lv_sub hl [1] rfl) hf
noncomputable def m9_reads_335 (fl : Nat) (len : Nat → Nat) (X : Xm) (I : Im) (zx0 : Nat) (zs0 : Int32) (p_155 : Nat) : Option (Int32 × Im) :=
  m9_reads_348 fl len X I zx0 zs0 p_155
set_option maxHeartbeats 4000000 in
set_option maxRecDepth 100000 in
theorem w9_reads_335 {p : Program} {l : Launch} {e : Env} {s : State} {m : MethodId} {args : Array Value} {below : List Frame} {meth : Method} {c : Code} {E : EN} {G : GM} {X : Xm} (C0 : CX p s m args meth c E cX9_reads RX9 3) (hr : meth.sig.returnType = (some .boolean)) (hz : s.heap.size + 0 ≤ eB E + G.1) {rr : Int32 × Im} (fl : Nat) : ∀ (I : Im) (H : Heap) (locs : List Loc) (ls : Array Slot) (zx0 : Nat) (zs0 : Int32) (p_155 : Nat) (zt0 : okA E G 9 zx0) (ep_155 : gR X 155 zx0 = some p_155) (tp_155 : okA E G 11 p_155), WD E G I X s.heap H locs → lv_has ls 3 [(0, .ref zx0)] → m9_reads_335 fl G.2.2 X I zx0 zs0 p_155 = some rr → W p l e ({ frames := 4, cells := 0, slots := 0, locals := 87 } : Room) s m args below meth c H locs 0 0 (MQ below (QI E G rr.1 rr.2 X) args s 0 0 (eA E)) (F0 m 335 ls [.int zs0]) := by
  intro I H locs ls zx0 zs0 p_155 zt0 ep_155 tp_155 hw hl hf
  unfold m9_reads_335 at hf
  have hx := C0.1; have hb := C0.2.1; have hml := C0.2.2.1; have hown := C0.2.2.2.1; have hts := C0.2.2.2.2.1
  refine lv_istore_n (lv' := [(2, .int zs0), (0, .ref zx0)]) hx hb dX9_reads_335 rfl hl (by decide) rfl (fun ls hl => ?_)
  refine lv_goto (tgt := 348) hx hb dX9_reads_336 (by decide) ?_
  exact w9_reads_348 C0 hr hz fl I _ _ _ zx0 zs0 p_155 zt0 ep_155 tp_155 hw (lv_sub hl [1, 0] rfl) hf
noncomputable def m9_reads_334 (fl : Nat) (len : Nat → Nat) (X : Xm) (I : Im) (zx0 : Nat) (p_155 : Nat) : Option (Int32 × Im) :=
  m9_reads_335 fl len X I zx0 (0 : Int32) p_155
set_option maxHeartbeats 4000000 in
set_option maxRecDepth 100000 in
theorem w9_reads_334 {p : Program} {l : Launch} {e : Env} {s : State} {m : MethodId} {args : Array Value} {below : List Frame} {meth : Method} {c : Code} {E : EN} {G : GM} {X : Xm} (C0 : CX p s m args meth c E cX9_reads RX9 3) (hr : meth.sig.returnType = (some .boolean)) (hz : s.heap.size + 0 ≤ eB E + G.1) {rr : Int32 × Im} (fl : Nat) : ∀ (I : Im) (H : Heap) (locs : List Loc) (ls : Array Slot) (zx0 : Nat) (p_155 : Nat) (zt0 : okA E G 9 zx0) (ep_155 : gR X 155 zx0 = some p_155) (tp_155 : okA E G 11 p_155), WD E G I X s.heap H locs → lv_has ls 3 [(0, .ref zx0)] → m9_reads_334 fl G.2.2 X I zx0 p_155 = some rr → W p l e ({ frames := 4, cells := 0, slots := 0, locals := 87 } : Room) s m args below meth c H locs 0 0 (MQ below (QI E G rr.1 rr.2 X) args s 0 0 (eA E)) (F0 m 334 ls []) := by
  intro I H locs ls zx0 p_155 zt0 ep_155 tp_155 hw hl hf
  unfold m9_reads_334 at hf
  have hx := C0.1; have hb := C0.2.1; have hml := C0.2.2.1; have hown := C0.2.2.2.1; have hts := C0.2.2.2.2.1
  refine lv_iconst (v := (0 : Int32)) hx hb dX9_reads_334 (by decide) ?_
  exact w9_reads_335 C0 hr hz fl I _ _ _ zx0 (0 : Int32) p_155 zt0 ep_155 tp_155 hw (lv_sub hl [0] rfl) hf
noncomputable def m9_reads_284 (fl : Nat) (len : Nat → Nat) (X : Xm) (I : Im) (zx0 : Nat) (zs0 : Int32) (p_155 : Nat) : Option (Int32 × Im) :=
  m9_reads_348 fl len X I zx0 zs0 p_155
set_option maxHeartbeats 4000000 in
set_option maxRecDepth 100000 in
theorem w9_reads_284 {p : Program} {l : Launch} {e : Env} {s : State} {m : MethodId} {args : Array Value} {below : List Frame} {meth : Method} {c : Code} {E : EN} {G : GM} {X : Xm} (C0 : CX p s m args meth c E cX9_reads RX9 3) (hr : meth.sig.returnType = (some .boolean)) (hz : s.heap.size + 0 ≤ eB E + G.1) {rr : Int32 × Im} (fl : Nat) : ∀ (I : Im) (H : Heap) (locs : List Loc) (ls : Array Slot) (zx0 : Nat) (zs0 : Int32) (p_155 : Nat) (zt0 : okA E G 9 zx0) (ep_155 : gR X 155 zx0 = some p_155) (tp_155 : okA E G 11 p_155), WD E G I X s.heap H locs → lv_has ls 3 [(0, .ref zx0)] → m9_reads_284 fl G.2.2 X I zx0 zs0 p_155 = some rr → W p l e ({ frames := 4, cells := 0, slots := 0, locals := 87 } : Room) s m args below meth c H locs 0 0 (MQ below (QI E G rr.1 rr.2 X) args s 0 0 (eA E)) (F0 m 284 ls [.int zs0]) := by
  intro I H locs ls zx0 zs0 p_155 zt0 ep_155 tp_155 hw hl hf
  unfold m9_reads_284 at hf
  have hx := C0.1; have hb := C0.2.1; have hml := C0.2.2.1; have hown := C0.2.2.2.1; have hts := C0.2.2.2.2.1
  refine lv_istore_n (lv' := [(2, .int zs0), (0, .ref zx0)]) hx hb dX9_reads_284 rfl hl (by decide) rfl (fun ls hl => ?_)
  refine lv_goto (tgt := 348) hx hb dX9_reads_285 (by decide) ?_
  exact w9_reads_348 C0 hr hz fl I _ _ _ zx0 zs0 p_155 zt0 ep_155 tp_155 hw (lv_sub hl [1, 0] rfl) hf
noncomputable def m9_reads_283 (fl : Nat) (len : Nat → Nat) (X : Xm) (I : Im) (zx0 : Nat) (p_155 : Nat) : Option (Int32 × Im) :=
  m9_reads_284 fl len X I zx0 (0 : Int32) p_155
set_option maxHeartbeats 4000000 in
set_option maxRecDepth 100000 in
theorem w9_reads_283 {p : Program} {l : Launch} {e : Env} {s : State} {m : MethodId} {args : Array Value} {below : List Frame} {meth : Method} {c : Code} {E : EN} {G : GM} {X : Xm} (C0 : CX p s m args meth c E cX9_reads RX9 3) (hr : meth.sig.returnType = (some .boolean)) (hz : s.heap.size + 0 ≤ eB E + G.1) {rr : Int32 × Im} (fl : Nat) : ∀ (I : Im) (H : Heap) (locs : List Loc) (ls : Array Slot) (zx0 : Nat) (p_155 : Nat) (zt0 : okA E G 9 zx0) (ep_155 : gR X 155 zx0 = some p_155) (tp_155 : okA E G 11 p_155), WD E G I X s.heap H locs → lv_has ls 3 [(0, .ref zx0)] → m9_reads_283 fl G.2.2 X I zx0 p_155 = some rr → W p l e ({ frames := 4, cells := 0, slots := 0, locals := 87 } : Room) s m args below meth c H locs 0 0 (MQ below (QI E G rr.1 rr.2 X) args s 0 0 (eA E)) (F0 m 283 ls []) := by
  intro I H locs ls zx0 p_155 zt0 ep_155 tp_155 hw hl hf
  unfold m9_reads_283 at hf
  have hx := C0.1; have hb := C0.2.1; have hml := C0.2.2.1; have hown := C0.2.2.2.1; have hts := C0.2.2.2.2.1
  refine lv_iconst (v := (0 : Int32)) hx hb dX9_reads_283 (by decide) ?_
  exact w9_reads_284 C0 hr hz fl I _ _ _ zx0 (0 : Int32) p_155 zt0 ep_155 tp_155 hw (lv_sub hl [0] rfl) hf
noncomputable def m9_reads_233 (fl : Nat) (len : Nat → Nat) (X : Xm) (I : Im) (zx0 : Nat) (zs0 : Int32) (p_155 : Nat) : Option (Int32 × Im) :=
  m9_reads_348 fl len X I zx0 zs0 p_155
set_option maxHeartbeats 4000000 in
set_option maxRecDepth 100000 in
theorem w9_reads_233 {p : Program} {l : Launch} {e : Env} {s : State} {m : MethodId} {args : Array Value} {below : List Frame} {meth : Method} {c : Code} {E : EN} {G : GM} {X : Xm} (C0 : CX p s m args meth c E cX9_reads RX9 3) (hr : meth.sig.returnType = (some .boolean)) (hz : s.heap.size + 0 ≤ eB E + G.1) {rr : Int32 × Im} (fl : Nat) : ∀ (I : Im) (H : Heap) (locs : List Loc) (ls : Array Slot) (zx0 : Nat) (zs0 : Int32) (p_155 : Nat) (zt0 : okA E G 9 zx0) (ep_155 : gR X 155 zx0 = some p_155) (tp_155 : okA E G 11 p_155), WD E G I X s.heap H locs → lv_has ls 3 [(0, .ref zx0)] → m9_reads_233 fl G.2.2 X I zx0 zs0 p_155 = some rr → W p l e ({ frames := 4, cells := 0, slots := 0, locals := 87 } : Room) s m args below meth c H locs 0 0 (MQ below (QI E G rr.1 rr.2 X) args s 0 0 (eA E)) (F0 m 233 ls [.int zs0]) := by
  intro I H locs ls zx0 zs0 p_155 zt0 ep_155 tp_155 hw hl hf
  unfold m9_reads_233 at hf
  have hx := C0.1; have hb := C0.2.1; have hml := C0.2.2.1; have hown := C0.2.2.2.1; have hts := C0.2.2.2.2.1
  refine lv_istore_n (lv' := [(2, .int zs0), (0, .ref zx0)]) hx hb dX9_reads_233 rfl hl (by decide) rfl (fun ls hl => ?_)
  refine lv_goto (tgt := 348) hx hb dX9_reads_234 (by decide) ?_
  exact w9_reads_348 C0 hr hz fl I _ _ _ zx0 zs0 p_155 zt0 ep_155 tp_155 hw (lv_sub hl [1, 0] rfl) hf
noncomputable def m9_reads_232 (fl : Nat) (len : Nat → Nat) (X : Xm) (I : Im) (zx0 : Nat) (p_155 : Nat) : Option (Int32 × Im) :=
  m9_reads_233 fl len X I zx0 (0 : Int32) p_155
set_option maxHeartbeats 4000000 in
set_option maxRecDepth 100000 in
theorem w9_reads_232 {p : Program} {l : Launch} {e : Env} {s : State} {m : MethodId} {args : Array Value} {below : List Frame} {meth : Method} {c : Code} {E : EN} {G : GM} {X : Xm} (C0 : CX p s m args meth c E cX9_reads RX9 3) (hr : meth.sig.returnType = (some .boolean)) (hz : s.heap.size + 0 ≤ eB E + G.1) {rr : Int32 × Im} (fl : Nat) : ∀ (I : Im) (H : Heap) (locs : List Loc) (ls : Array Slot) (zx0 : Nat) (p_155 : Nat) (zt0 : okA E G 9 zx0) (ep_155 : gR X 155 zx0 = some p_155) (tp_155 : okA E G 11 p_155), WD E G I X s.heap H locs → lv_has ls 3 [(0, .ref zx0)] → m9_reads_232 fl G.2.2 X I zx0 p_155 = some rr → W p l e ({ frames := 4, cells := 0, slots := 0, locals := 87 } : Room) s m args below meth c H locs 0 0 (MQ below (QI E G rr.1 rr.2 X) args s 0 0 (eA E)) (F0 m 232 ls []) := by
  intro I H locs ls zx0 p_155 zt0 ep_155 tp_155 hw hl hf
  unfold m9_reads_232 at hf
  have hx := C0.1; have hb := C0.2.1; have hml := C0.2.2.1; have hown := C0.2.2.2.1; have hts := C0.2.2.2.2.1
  refine lv_iconst (v := (0 : Int32)) hx hb dX9_reads_232 (by decide) ?_
  exact w9_reads_233 C0 hr hz fl I _ _ _ zx0 (0 : Int32) p_155 zt0 ep_155 tp_155 hw (lv_sub hl [0] rfl) hf
noncomputable def m9_reads_191 (fl : Nat) (len : Nat → Nat) (X : Xm) (I : Im) (zx0 : Nat) (zs0 : Int32) (p_155 : Nat) : Option (Int32 × Im) :=
  m9_reads_348 fl len X I zx0 zs0 p_155
set_option maxHeartbeats 4000000 in
set_option maxRecDepth 100000 in
theorem w9_reads_191 {p : Program} {l : Launch} {e : Env} {s : State} {m : MethodId} {args : Array Value} {below : List Frame} {meth : Method} {c : Code} {E : EN} {G : GM} {X : Xm} (C0 : CX p s m args meth c E cX9_reads RX9 3) (hr : meth.sig.returnType = (some .boolean)) (hz : s.heap.size + 0 ≤ eB E + G.1) {rr : Int32 × Im} (fl : Nat) : ∀ (I : Im) (H : Heap) (locs : List Loc) (ls : Array Slot) (zx0 : Nat) (zs0 : Int32) (p_155 : Nat) (zt0 : okA E G 9 zx0) (ep_155 : gR X 155 zx0 = some p_155) (tp_155 : okA E G 11 p_155), WD E G I X s.heap H locs → lv_has ls 3 [(0, .ref zx0)] → m9_reads_191 fl G.2.2 X I zx0 zs0 p_155 = some rr → W p l e ({ frames := 4, cells := 0, slots := 0, locals := 87 } : Room) s m args below meth c H locs 0 0 (MQ below (QI E G rr.1 rr.2 X) args s 0 0 (eA E)) (F0 m 191 ls [.int zs0]) := by
  intro I H locs ls zx0 zs0 p_155 zt0 ep_155 tp_155 hw hl hf
  unfold m9_reads_191 at hf
  have hx := C0.1; have hb := C0.2.1; have hml := C0.2.2.1; have hown := C0.2.2.2.1; have hts := C0.2.2.2.2.1
  refine lv_istore_n (lv' := [(2, .int zs0), (0, .ref zx0)]) hx hb dX9_reads_191 rfl hl (by decide) rfl (fun ls hl => ?_)
  refine lv_goto (tgt := 348) hx hb dX9_reads_192 (by decide) ?_
  exact w9_reads_348 C0 hr hz fl I _ _ _ zx0 zs0 p_155 zt0 ep_155 tp_155 hw (lv_sub hl [1, 0] rfl) hf
noncomputable def m9_reads_190 (fl : Nat) (len : Nat → Nat) (X : Xm) (I : Im) (zx0 : Nat) (p_155 : Nat) : Option (Int32 × Im) :=
  m9_reads_191 fl len X I zx0 (0 : Int32) p_155
set_option maxHeartbeats 4000000 in
set_option maxRecDepth 100000 in
theorem w9_reads_190 {p : Program} {l : Launch} {e : Env} {s : State} {m : MethodId} {args : Array Value} {below : List Frame} {meth : Method} {c : Code} {E : EN} {G : GM} {X : Xm} (C0 : CX p s m args meth c E cX9_reads RX9 3) (hr : meth.sig.returnType = (some .boolean)) (hz : s.heap.size + 0 ≤ eB E + G.1) {rr : Int32 × Im} (fl : Nat) : ∀ (I : Im) (H : Heap) (locs : List Loc) (ls : Array Slot) (zx0 : Nat) (p_155 : Nat) (zt0 : okA E G 9 zx0) (ep_155 : gR X 155 zx0 = some p_155) (tp_155 : okA E G 11 p_155), WD E G I X s.heap H locs → lv_has ls 3 [(0, .ref zx0)] → m9_reads_190 fl G.2.2 X I zx0 p_155 = some rr → W p l e ({ frames := 4, cells := 0, slots := 0, locals := 87 } : Room) s m args below meth c H locs 0 0 (MQ below (QI E G rr.1 rr.2 X) args s 0 0 (eA E)) (F0 m 190 ls []) := by
  intro I H locs ls zx0 p_155 zt0 ep_155 tp_155 hw hl hf
  unfold m9_reads_190 at hf
  have hx := C0.1; have hb := C0.2.1; have hml := C0.2.2.1; have hown := C0.2.2.2.1; have hts := C0.2.2.2.2.1
  refine lv_iconst (v := (0 : Int32)) hx hb dX9_reads_190 (by decide) ?_
  exact w9_reads_191 C0 hr hz fl I _ _ _ zx0 (0 : Int32) p_155 zt0 ep_155 tp_155 hw (lv_sub hl [0] rfl) hf
noncomputable def m9_reads_75 (fl : Nat) (len : Nat → Nat) (X : Xm) (I : Im) (zx0 : Nat) (zx1 : Int32) (zx2 : Int32) (zs0 : Nat) (zs1 : Int32) (zs2 : Int32) : Option (Int32 × Im) :=
  lt (pF I 153 zs0 (zs1 + zs2)) fun zI1 =>
  nn (gR X 155 zx0) fun zv2 =>
  ck (inb ((4 : Int32) * (gF zI1 154 zx0)) (len zv2) = true) <|
  lt (pA zI1 zv2 (((4 : Int32) * (gF zI1 154 zx0))).toNatClampNeg zx1) fun zI4 =>
  if zx1 = (100 : Int32) then
    nn (m9_number fl len X zI4 zx0 (1 : Int32)) fun ⟨zv6, zI7⟩ =>
    if zv6 = 0 then
      m9_reads_283 fl len X zI7 zx0 zv2
    else
      nn (m9_sign fl len X zI7 zx0 (58 : Int32)) fun ⟨zv10, zI11⟩ =>
      if zv10 = 0 then
        m9_reads_283 fl len X zI11 zx0 zv2
      else
        nn (m9_digit fl len X zI11 zx0 (2 : Int32)) fun ⟨zv14, zI15⟩ =>
        if zv14 = 0 then
          m9_reads_283 fl len X zI15 zx0 zv2
        else
          nn (m9_sign fl len X zI15 zx0 (42 : Int32)) fun ⟨zv18, zI19⟩ =>
          if zv18 = 0 then
            m9_reads_283 fl len X zI19 zx0 zv2
          else
            nn (m9_number fl len X zI19 zx0 (3 : Int32)) fun ⟨zv22, zI23⟩ =>
            if zv22 = 0 then
              m9_reads_283 fl len X zI23 zx0 zv2
            else
              m9_reads_284 fl len X zI23 zx0 (1 : Int32) zv2
  else
    if zx1 = (103 : Int32) then
      nn (m9_number fl len X zI4 zx0 (1 : Int32)) fun ⟨zv27, zI28⟩ =>
      m9_reads_348 fl len X zI28 zx0 zv27 zv2
    else
      if zx1 = (108 : Int32) then
        nn (m9_number fl len X zI4 zx0 (1 : Int32)) fun ⟨zv31, zI32⟩ =>
        if zv31 = 0 then
          m9_reads_334 fl len X zI32 zx0 zv2
        else
          nn (m9_sign fl len X zI32 zx0 (58 : Int32)) fun ⟨zv35, zI36⟩ =>
          if zv35 = 0 then
            m9_reads_334 fl len X zI36 zx0 zv2
          else
            nn (m9_digit fl len X zI36 zx0 (2 : Int32)) fun ⟨zv39, zI40⟩ =>
            if zv39 = 0 then
              m9_reads_334 fl len X zI40 zx0 zv2
            else
              nn (m9_sign fl len X zI40 zx0 (61 : Int32)) fun ⟨zv43, zI44⟩ =>
              if zv43 = 0 then
                m9_reads_334 fl len X zI44 zx0 zv2
              else
                nn (m9_number fl len X zI44 zx0 (3 : Int32)) fun ⟨zv47, zI48⟩ =>
                if zv47 = 0 then
                  m9_reads_334 fl len X zI48 zx0 zv2
                else
                  m9_reads_335 fl len X zI48 zx0 (1 : Int32) zv2
      else
        if zx1 = (114 : Int32) then
          nn (m9_digit fl len X zI4 zx0 (1 : Int32)) fun ⟨zv52, zI53⟩ =>
          if zv52 = 0 then
            m9_reads_190 fl len X zI53 zx0 zv2
          else
            nn (m9_sign fl len X zI53 zx0 (43 : Int32)) fun ⟨zv56, zI57⟩ =>
            if zv56 = 0 then
              m9_reads_190 fl len X zI57 zx0 zv2
            else
              nn (m9_number fl len X zI57 zx0 (2 : Int32)) fun ⟨zv60, zI61⟩ =>
              if zv60 = 0 then
                m9_reads_190 fl len X zI61 zx0 zv2
              else
                nn (m9_sign fl len X zI61 zx0 (42 : Int32)) fun ⟨zv64, zI65⟩ =>
                if zv64 = 0 then
                  m9_reads_190 fl len X zI65 zx0 zv2
                else
                  nn (m9_number fl len X zI65 zx0 (3 : Int32)) fun ⟨zv68, zI69⟩ =>
                  if zv68 = 0 then
                    m9_reads_190 fl len X zI69 zx0 zv2
                  else
                    m9_reads_191 fl len X zI69 zx0 (1 : Int32) zv2
        else
          if zx1 = (115 : Int32) then
            nn (m9_number fl len X zI4 zx0 (1 : Int32)) fun ⟨zv73, zI74⟩ =>
            if zv73 = 0 then
              m9_reads_232 fl len X zI74 zx0 zv2
            else
              nn (m9_sign fl len X zI74 zx0 (58 : Int32)) fun ⟨zv77, zI78⟩ =>
              if zv77 = 0 then
                m9_reads_232 fl len X zI78 zx0 zv2
              else
                nn (m9_digit fl len X zI78 zx0 (2 : Int32)) fun ⟨zv81, zI82⟩ =>
                if zv81 = 0 then
                  m9_reads_232 fl len X zI82 zx0 zv2
                else
                  nn (m9_digit fl len X zI82 zx0 (3 : Int32)) fun ⟨zv85, zI86⟩ =>
                  if zv85 = 0 then
                    m9_reads_232 fl len X zI86 zx0 zv2
                  else
                    m9_reads_233 fl len X zI86 zx0 (1 : Int32) zv2
          else
            m9_reads_348 fl len X zI4 zx0 zx2 zv2
set_option maxHeartbeats 4000000 in
set_option maxRecDepth 100000 in
theorem w9_reads_75 {p : Program} {l : Launch} {e : Env} {s : State} {m : MethodId} {args : Array Value} {below : List Frame} {meth : Method} {c : Code} {E : EN} {G : GM} {X : Xm} (C0 : CX p s m args meth c E cX9_reads RX9 3) (hr : meth.sig.returnType = (some .boolean)) (hz : s.heap.size + 0 ≤ eB E + G.1) {rr : Int32 × Im} (fl : Nat) : ∀ (I : Im) (H : Heap) (locs : List Loc) (ls : Array Slot) (zx0 : Nat) (zx1 : Int32) (zx2 : Int32) (zs0 : Nat) (zs1 : Int32) (zs2 : Int32) (zt0 : okA E G 9 zx0) (zts0 : okA E G 9 zs0), WD E G I X s.heap H locs → lv_has ls 3 [(0, .ref zx0), (1, .int zx1), (2, .int zx2)] → m9_reads_75 fl G.2.2 X I zx0 zx1 zx2 zs0 zs1 zs2 = some rr → W p l e ({ frames := 4, cells := 0, slots := 0, locals := 87 } : Room) s m args below meth c H locs 0 0 (MQ below (QI E G rr.1 rr.2 X) args s 0 0 (eA E)) (F0 m 75 ls [.int zs2, .int zs1, .ref zs0]) := by
  intro I H locs ls zx0 zx1 zx2 zs0 zs1 zs2 zt0 zts0 hw hl hf
  unfold m9_reads_75 at hf
  have hx := C0.1; have hb := C0.2.1; have hml := C0.2.2.1; have hown := C0.2.2.2.1; have hts := C0.2.2.2.2.1
  refine lv_iadd hx hb dX9_reads_75 ?_
  obtain ⟨zI1, ezI1⟩ : ∃ y : Im, y = pF I 153 zs0 (zs1 + zs2) := ⟨_, rfl⟩
  have hf := lt_at hf ezI1
  refine xp_9_9 C0 hz hw zts0 rfl rfl wd712 dX9_reads_76 ezI1 (fun H locs hw => ?_)
  refine lv_aload_n hx hb dX9_reads_79 rfl (lv_at hl 0 rfl) ?_
  obtain ⟨zv2, ezv2, hf⟩ := nn_some hf
  have tzv2 : okA E G 11 zv2 := wt_r hw ezv2
  refine xg_9_11 C0 hw zt0 wd607 ezv2 dX9_reads_80 ?_
  refine lv_iconst (v := (4 : Int32)) hx hb dX9_reads_83 (by decide) ?_
  refine lv_aload_n hx hb dX9_reads_84 rfl (lv_at hl 0 rfl) ?_
  refine xg_9_10 C0 hw zt0 wd716 dX9_reads_85 ?_
  refine lv_imul hx hb dX9_reads_88 ?_
  refine lv_iload_n hx hb dX9_reads_89 rfl (lv_at hl 1 rfl) ?_
  obtain ⟨zhb3, hf⟩ := ck_some hf
  obtain ⟨zI4, ezI4⟩ : ∃ y : Im, y = pA zI1 zv2 (((4 : Int32) * (gF zI1 154 zx0))).toNatClampNeg zx1 := ⟨_, rfl⟩
  have hf := lt_at hf ezI4
  refine x_iast C0 hz hw tzv2 zhb3 dX9_reads_90 ezI4 (fun H locs hw => ?_)
  refine lv_iload_n hx hb dX9_reads_91 rfl (lv_at hl 1 rfl) ?_
  by_cases zc5 : zx1 = (100 : Int32)
  · have hf := ite_t hf zc5
    refine lv_lookup (off := 145) (tgt := 237) hx hb dX9_reads_92 (by decide) (by rw [zc5]; rfl) (by decide) ?_
    refine lv_aload_n hx hb dX9_reads_237 rfl (lv_at hl 0 rfl) ?_
    refine lv_iconst (v := (1 : Int32)) hx hb dX9_reads_238 (by decide) ?_
    obtain ⟨⟨zv6, zI7⟩, ze8, hf⟩ := nn_some hf
    refine x_ci (r := zv6) (I1 := zI7) (X1 := X) (x_runV (As := [.int (1 : Int32)]) (rest := []) C0 (c9_number l E G fl X zI4 zx0 (1 : Int32) zt0 ze8) hw 9 zt0 (by decide) rfl wd173 wd723 wd724 wd725 wd612 ⟨rfl, rfl⟩ hy9_number ⟨Nat.le_of_ble_eq_true rfl, Nat.le_of_ble_eq_true rfl⟩ rfl hl.1 (Nat.le_of_ble_eq_true rfl) ⟨Nat.zero_le _, Nat.zero_le _⟩ dX9_reads_239) hw (fun H locs hw => ?_)
    refine lv_if_eq (tgt := 283) hx hb dX9_reads_242 (by decide) (fun zc9 => ?_) (fun zc9 => ?_)
    · have hf := ite_t hf zc9
      exact w9_reads_283 C0 hr hz fl zI7 _ _ _ zx0 zv2 zt0 ezv2 tzv2 hw (lv_sub hl [0] rfl) hf
    · have hf := ite_f hf zc9
      refine lv_aload_n hx hb dX9_reads_245 rfl (lv_at hl 0 rfl) ?_
      refine lv_bipush (v := (58 : Int32)) hx hb dX9_reads_246 (by decide) ?_
      obtain ⟨⟨zv10, zI11⟩, ze12, hf⟩ := nn_some hf
      refine x_ci (r := zv10) (I1 := zI11) (X1 := X) (x_runV (As := [.int (58 : Int32)]) (rest := []) C0 (c9_sign l E G fl X zI7 zx0 (58 : Int32) zt0 ze12) hw 9 zt0 (by decide) rfl wd171 wd720 wd721 wd722 wd612 ⟨rfl, rfl⟩ hy9_sign ⟨Nat.le_of_ble_eq_true rfl, Nat.le_of_ble_eq_true rfl⟩ rfl hl.1 (Nat.le_of_ble_eq_true rfl) ⟨Nat.zero_le _, Nat.zero_le _⟩ dX9_reads_248) hw (fun H locs hw => ?_)
      refine lv_if_eq (tgt := 283) hx hb dX9_reads_251 (by decide) (fun zc13 => ?_) (fun zc13 => ?_)
      · have hf := ite_t hf zc13
        exact w9_reads_283 C0 hr hz fl zI11 _ _ _ zx0 zv2 zt0 ezv2 tzv2 hw (lv_sub hl [0] rfl) hf
      · have hf := ite_f hf zc13
        refine lv_aload_n hx hb dX9_reads_254 rfl (lv_at hl 0 rfl) ?_
        refine lv_iconst (v := (2 : Int32)) hx hb dX9_reads_255 (by decide) ?_
        obtain ⟨⟨zv14, zI15⟩, ze16, hf⟩ := nn_some hf
        refine x_ci (r := zv14) (I1 := zI15) (X1 := X) (x_runV (As := [.int (2 : Int32)]) (rest := []) C0 (c9_digit l E G fl X zI11 zx0 (2 : Int32) zt0 ze16) hw 9 zt0 (by decide) rfl wd172 wd717 wd718 wd719 wd612 ⟨rfl, rfl⟩ hy9_digit ⟨Nat.le_of_ble_eq_true rfl, Nat.le_of_ble_eq_true rfl⟩ rfl hl.1 (Nat.le_of_ble_eq_true rfl) ⟨Nat.zero_le _, Nat.zero_le _⟩ dX9_reads_256) hw (fun H locs hw => ?_)
        refine lv_if_eq (tgt := 283) hx hb dX9_reads_259 (by decide) (fun zc17 => ?_) (fun zc17 => ?_)
        · have hf := ite_t hf zc17
          exact w9_reads_283 C0 hr hz fl zI15 _ _ _ zx0 zv2 zt0 ezv2 tzv2 hw (lv_sub hl [0] rfl) hf
        · have hf := ite_f hf zc17
          refine lv_aload_n hx hb dX9_reads_262 rfl (lv_at hl 0 rfl) ?_
          refine lv_bipush (v := (42 : Int32)) hx hb dX9_reads_263 (by decide) ?_
          obtain ⟨⟨zv18, zI19⟩, ze20, hf⟩ := nn_some hf
          refine x_ci (r := zv18) (I1 := zI19) (X1 := X) (x_runV (As := [.int (42 : Int32)]) (rest := []) C0 (c9_sign l E G fl X zI15 zx0 (42 : Int32) zt0 ze20) hw 9 zt0 (by decide) rfl wd171 wd720 wd721 wd722 wd612 ⟨rfl, rfl⟩ hy9_sign ⟨Nat.le_of_ble_eq_true rfl, Nat.le_of_ble_eq_true rfl⟩ rfl hl.1 (Nat.le_of_ble_eq_true rfl) ⟨Nat.zero_le _, Nat.zero_le _⟩ dX9_reads_265) hw (fun H locs hw => ?_)
          refine lv_if_eq (tgt := 283) hx hb dX9_reads_268 (by decide) (fun zc21 => ?_) (fun zc21 => ?_)
          · have hf := ite_t hf zc21
            exact w9_reads_283 C0 hr hz fl zI19 _ _ _ zx0 zv2 zt0 ezv2 tzv2 hw (lv_sub hl [0] rfl) hf
          · have hf := ite_f hf zc21
            refine lv_aload_n hx hb dX9_reads_271 rfl (lv_at hl 0 rfl) ?_
            refine lv_iconst (v := (3 : Int32)) hx hb dX9_reads_272 (by decide) ?_
            obtain ⟨⟨zv22, zI23⟩, ze24, hf⟩ := nn_some hf
            refine x_ci (r := zv22) (I1 := zI23) (X1 := X) (x_runV (As := [.int (3 : Int32)]) (rest := []) C0 (c9_number l E G fl X zI19 zx0 (3 : Int32) zt0 ze24) hw 9 zt0 (by decide) rfl wd173 wd723 wd724 wd725 wd612 ⟨rfl, rfl⟩ hy9_number ⟨Nat.le_of_ble_eq_true rfl, Nat.le_of_ble_eq_true rfl⟩ rfl hl.1 (Nat.le_of_ble_eq_true rfl) ⟨Nat.zero_le _, Nat.zero_le _⟩ dX9_reads_273) hw (fun H locs hw => ?_)
            refine lv_if_eq (tgt := 283) hx hb dX9_reads_276 (by decide) (fun zc25 => ?_) (fun zc25 => ?_)
            · have hf := ite_t hf zc25
              exact w9_reads_283 C0 hr hz fl zI23 _ _ _ zx0 zv2 zt0 ezv2 tzv2 hw (lv_sub hl [0] rfl) hf
            · have hf := ite_f hf zc25
              refine lv_iconst (v := (1 : Int32)) hx hb dX9_reads_279 (by decide) ?_
              refine lv_goto (tgt := 284) hx hb dX9_reads_280 (by decide) ?_
              exact w9_reads_284 C0 hr hz fl zI23 _ _ _ zx0 (1 : Int32) zv2 zt0 ezv2 tzv2 hw (lv_sub hl [0] rfl) hf
  · have hf := ite_f hf zc5
    by_cases zc26 : zx1 = (103 : Int32)
    · have hf := ite_t hf zc26
      refine lv_lookup (off := 247) (tgt := 339) hx hb dX9_reads_92 (by decide) (by rw [zc26]; rfl) (by decide) ?_
      refine lv_aload_n hx hb dX9_reads_339 rfl (lv_at hl 0 rfl) ?_
      refine lv_iconst (v := (1 : Int32)) hx hb dX9_reads_340 (by decide) ?_
      obtain ⟨⟨zv27, zI28⟩, ze29, hf⟩ := nn_some hf
      refine x_ci (r := zv27) (I1 := zI28) (X1 := X) (x_runV (As := [.int (1 : Int32)]) (rest := []) C0 (c9_number l E G fl X zI4 zx0 (1 : Int32) zt0 ze29) hw 9 zt0 (by decide) rfl wd173 wd723 wd724 wd725 wd612 ⟨rfl, rfl⟩ hy9_number ⟨Nat.le_of_ble_eq_true rfl, Nat.le_of_ble_eq_true rfl⟩ rfl hl.1 (Nat.le_of_ble_eq_true rfl) ⟨Nat.zero_le _, Nat.zero_le _⟩ dX9_reads_341) hw (fun H locs hw => ?_)
      refine lv_istore_n (lv' := [(2, .int zv27), (0, .ref zx0), (1, .int zx1)]) hx hb dX9_reads_344 rfl hl (by decide) rfl (fun ls hl => ?_)
      refine lv_goto (tgt := 348) hx hb dX9_reads_345 (by decide) ?_
      exact w9_reads_348 C0 hr hz fl zI28 _ _ _ zx0 zv27 zv2 zt0 ezv2 tzv2 hw (lv_sub hl [1, 0] rfl) hf
    · have hf := ite_f hf zc26
      by_cases zc30 : zx1 = (108 : Int32)
      · have hf := ite_t hf zc30
        refine lv_lookup (off := 196) (tgt := 288) hx hb dX9_reads_92 (by decide) (by rw [zc30]; rfl) (by decide) ?_
        refine lv_aload_n hx hb dX9_reads_288 rfl (lv_at hl 0 rfl) ?_
        refine lv_iconst (v := (1 : Int32)) hx hb dX9_reads_289 (by decide) ?_
        obtain ⟨⟨zv31, zI32⟩, ze33, hf⟩ := nn_some hf
        refine x_ci (r := zv31) (I1 := zI32) (X1 := X) (x_runV (As := [.int (1 : Int32)]) (rest := []) C0 (c9_number l E G fl X zI4 zx0 (1 : Int32) zt0 ze33) hw 9 zt0 (by decide) rfl wd173 wd723 wd724 wd725 wd612 ⟨rfl, rfl⟩ hy9_number ⟨Nat.le_of_ble_eq_true rfl, Nat.le_of_ble_eq_true rfl⟩ rfl hl.1 (Nat.le_of_ble_eq_true rfl) ⟨Nat.zero_le _, Nat.zero_le _⟩ dX9_reads_290) hw (fun H locs hw => ?_)
        refine lv_if_eq (tgt := 334) hx hb dX9_reads_293 (by decide) (fun zc34 => ?_) (fun zc34 => ?_)
        · have hf := ite_t hf zc34
          exact w9_reads_334 C0 hr hz fl zI32 _ _ _ zx0 zv2 zt0 ezv2 tzv2 hw (lv_sub hl [0] rfl) hf
        · have hf := ite_f hf zc34
          refine lv_aload_n hx hb dX9_reads_296 rfl (lv_at hl 0 rfl) ?_
          refine lv_bipush (v := (58 : Int32)) hx hb dX9_reads_297 (by decide) ?_
          obtain ⟨⟨zv35, zI36⟩, ze37, hf⟩ := nn_some hf
          refine x_ci (r := zv35) (I1 := zI36) (X1 := X) (x_runV (As := [.int (58 : Int32)]) (rest := []) C0 (c9_sign l E G fl X zI32 zx0 (58 : Int32) zt0 ze37) hw 9 zt0 (by decide) rfl wd171 wd720 wd721 wd722 wd612 ⟨rfl, rfl⟩ hy9_sign ⟨Nat.le_of_ble_eq_true rfl, Nat.le_of_ble_eq_true rfl⟩ rfl hl.1 (Nat.le_of_ble_eq_true rfl) ⟨Nat.zero_le _, Nat.zero_le _⟩ dX9_reads_299) hw (fun H locs hw => ?_)
          refine lv_if_eq (tgt := 334) hx hb dX9_reads_302 (by decide) (fun zc38 => ?_) (fun zc38 => ?_)
          · have hf := ite_t hf zc38
            exact w9_reads_334 C0 hr hz fl zI36 _ _ _ zx0 zv2 zt0 ezv2 tzv2 hw (lv_sub hl [0] rfl) hf
          · have hf := ite_f hf zc38
            refine lv_aload_n hx hb dX9_reads_305 rfl (lv_at hl 0 rfl) ?_
            refine lv_iconst (v := (2 : Int32)) hx hb dX9_reads_306 (by decide) ?_
            obtain ⟨⟨zv39, zI40⟩, ze41, hf⟩ := nn_some hf
            refine x_ci (r := zv39) (I1 := zI40) (X1 := X) (x_runV (As := [.int (2 : Int32)]) (rest := []) C0 (c9_digit l E G fl X zI36 zx0 (2 : Int32) zt0 ze41) hw 9 zt0 (by decide) rfl wd172 wd717 wd718 wd719 wd612 ⟨rfl, rfl⟩ hy9_digit ⟨Nat.le_of_ble_eq_true rfl, Nat.le_of_ble_eq_true rfl⟩ rfl hl.1 (Nat.le_of_ble_eq_true rfl) ⟨Nat.zero_le _, Nat.zero_le _⟩ dX9_reads_307) hw (fun H locs hw => ?_)
            refine lv_if_eq (tgt := 334) hx hb dX9_reads_310 (by decide) (fun zc42 => ?_) (fun zc42 => ?_)
            · have hf := ite_t hf zc42
              exact w9_reads_334 C0 hr hz fl zI40 _ _ _ zx0 zv2 zt0 ezv2 tzv2 hw (lv_sub hl [0] rfl) hf
            · have hf := ite_f hf zc42
              refine lv_aload_n hx hb dX9_reads_313 rfl (lv_at hl 0 rfl) ?_
              refine lv_bipush (v := (61 : Int32)) hx hb dX9_reads_314 (by decide) ?_
              obtain ⟨⟨zv43, zI44⟩, ze45, hf⟩ := nn_some hf
              refine x_ci (r := zv43) (I1 := zI44) (X1 := X) (x_runV (As := [.int (61 : Int32)]) (rest := []) C0 (c9_sign l E G fl X zI40 zx0 (61 : Int32) zt0 ze45) hw 9 zt0 (by decide) rfl wd171 wd720 wd721 wd722 wd612 ⟨rfl, rfl⟩ hy9_sign ⟨Nat.le_of_ble_eq_true rfl, Nat.le_of_ble_eq_true rfl⟩ rfl hl.1 (Nat.le_of_ble_eq_true rfl) ⟨Nat.zero_le _, Nat.zero_le _⟩ dX9_reads_316) hw (fun H locs hw => ?_)
              refine lv_if_eq (tgt := 334) hx hb dX9_reads_319 (by decide) (fun zc46 => ?_) (fun zc46 => ?_)
              · have hf := ite_t hf zc46
                exact w9_reads_334 C0 hr hz fl zI44 _ _ _ zx0 zv2 zt0 ezv2 tzv2 hw (lv_sub hl [0] rfl) hf
              · have hf := ite_f hf zc46
                refine lv_aload_n hx hb dX9_reads_322 rfl (lv_at hl 0 rfl) ?_
                refine lv_iconst (v := (3 : Int32)) hx hb dX9_reads_323 (by decide) ?_
                obtain ⟨⟨zv47, zI48⟩, ze49, hf⟩ := nn_some hf
                refine x_ci (r := zv47) (I1 := zI48) (X1 := X) (x_runV (As := [.int (3 : Int32)]) (rest := []) C0 (c9_number l E G fl X zI44 zx0 (3 : Int32) zt0 ze49) hw 9 zt0 (by decide) rfl wd173 wd723 wd724 wd725 wd612 ⟨rfl, rfl⟩ hy9_number ⟨Nat.le_of_ble_eq_true rfl, Nat.le_of_ble_eq_true rfl⟩ rfl hl.1 (Nat.le_of_ble_eq_true rfl) ⟨Nat.zero_le _, Nat.zero_le _⟩ dX9_reads_324) hw (fun H locs hw => ?_)
                refine lv_if_eq (tgt := 334) hx hb dX9_reads_327 (by decide) (fun zc50 => ?_) (fun zc50 => ?_)
                · have hf := ite_t hf zc50
                  exact w9_reads_334 C0 hr hz fl zI48 _ _ _ zx0 zv2 zt0 ezv2 tzv2 hw (lv_sub hl [0] rfl) hf
                · have hf := ite_f hf zc50
                  refine lv_iconst (v := (1 : Int32)) hx hb dX9_reads_330 (by decide) ?_
                  refine lv_goto (tgt := 335) hx hb dX9_reads_331 (by decide) ?_
                  exact w9_reads_335 C0 hr hz fl zI48 _ _ _ zx0 (1 : Int32) zv2 zt0 ezv2 tzv2 hw (lv_sub hl [0] rfl) hf
      · have hf := ite_f hf zc30
        by_cases zc51 : zx1 = (114 : Int32)
        · have hf := ite_t hf zc51
          refine lv_lookup (off := 52) (tgt := 144) hx hb dX9_reads_92 (by decide) (by rw [zc51]; rfl) (by decide) ?_
          refine lv_aload_n hx hb dX9_reads_144 rfl (lv_at hl 0 rfl) ?_
          refine lv_iconst (v := (1 : Int32)) hx hb dX9_reads_145 (by decide) ?_
          obtain ⟨⟨zv52, zI53⟩, ze54, hf⟩ := nn_some hf
          refine x_ci (r := zv52) (I1 := zI53) (X1 := X) (x_runV (As := [.int (1 : Int32)]) (rest := []) C0 (c9_digit l E G fl X zI4 zx0 (1 : Int32) zt0 ze54) hw 9 zt0 (by decide) rfl wd172 wd717 wd718 wd719 wd612 ⟨rfl, rfl⟩ hy9_digit ⟨Nat.le_of_ble_eq_true rfl, Nat.le_of_ble_eq_true rfl⟩ rfl hl.1 (Nat.le_of_ble_eq_true rfl) ⟨Nat.zero_le _, Nat.zero_le _⟩ dX9_reads_146) hw (fun H locs hw => ?_)
          refine lv_if_eq (tgt := 190) hx hb dX9_reads_149 (by decide) (fun zc55 => ?_) (fun zc55 => ?_)
          · have hf := ite_t hf zc55
            exact w9_reads_190 C0 hr hz fl zI53 _ _ _ zx0 zv2 zt0 ezv2 tzv2 hw (lv_sub hl [0] rfl) hf
          · have hf := ite_f hf zc55
            refine lv_aload_n hx hb dX9_reads_152 rfl (lv_at hl 0 rfl) ?_
            refine lv_bipush (v := (43 : Int32)) hx hb dX9_reads_153 (by decide) ?_
            obtain ⟨⟨zv56, zI57⟩, ze58, hf⟩ := nn_some hf
            refine x_ci (r := zv56) (I1 := zI57) (X1 := X) (x_runV (As := [.int (43 : Int32)]) (rest := []) C0 (c9_sign l E G fl X zI53 zx0 (43 : Int32) zt0 ze58) hw 9 zt0 (by decide) rfl wd171 wd720 wd721 wd722 wd612 ⟨rfl, rfl⟩ hy9_sign ⟨Nat.le_of_ble_eq_true rfl, Nat.le_of_ble_eq_true rfl⟩ rfl hl.1 (Nat.le_of_ble_eq_true rfl) ⟨Nat.zero_le _, Nat.zero_le _⟩ dX9_reads_155) hw (fun H locs hw => ?_)
            refine lv_if_eq (tgt := 190) hx hb dX9_reads_158 (by decide) (fun zc59 => ?_) (fun zc59 => ?_)
            · have hf := ite_t hf zc59
              exact w9_reads_190 C0 hr hz fl zI57 _ _ _ zx0 zv2 zt0 ezv2 tzv2 hw (lv_sub hl [0] rfl) hf
            · have hf := ite_f hf zc59
              refine lv_aload_n hx hb dX9_reads_161 rfl (lv_at hl 0 rfl) ?_
              refine lv_iconst (v := (2 : Int32)) hx hb dX9_reads_162 (by decide) ?_
              obtain ⟨⟨zv60, zI61⟩, ze62, hf⟩ := nn_some hf
              refine x_ci (r := zv60) (I1 := zI61) (X1 := X) (x_runV (As := [.int (2 : Int32)]) (rest := []) C0 (c9_number l E G fl X zI57 zx0 (2 : Int32) zt0 ze62) hw 9 zt0 (by decide) rfl wd173 wd723 wd724 wd725 wd612 ⟨rfl, rfl⟩ hy9_number ⟨Nat.le_of_ble_eq_true rfl, Nat.le_of_ble_eq_true rfl⟩ rfl hl.1 (Nat.le_of_ble_eq_true rfl) ⟨Nat.zero_le _, Nat.zero_le _⟩ dX9_reads_163) hw (fun H locs hw => ?_)
              refine lv_if_eq (tgt := 190) hx hb dX9_reads_166 (by decide) (fun zc63 => ?_) (fun zc63 => ?_)
              · have hf := ite_t hf zc63
                exact w9_reads_190 C0 hr hz fl zI61 _ _ _ zx0 zv2 zt0 ezv2 tzv2 hw (lv_sub hl [0] rfl) hf
              · have hf := ite_f hf zc63
                refine lv_aload_n hx hb dX9_reads_169 rfl (lv_at hl 0 rfl) ?_
                refine lv_bipush (v := (42 : Int32)) hx hb dX9_reads_170 (by decide) ?_
                obtain ⟨⟨zv64, zI65⟩, ze66, hf⟩ := nn_some hf
                refine x_ci (r := zv64) (I1 := zI65) (X1 := X) (x_runV (As := [.int (42 : Int32)]) (rest := []) C0 (c9_sign l E G fl X zI61 zx0 (42 : Int32) zt0 ze66) hw 9 zt0 (by decide) rfl wd171 wd720 wd721 wd722 wd612 ⟨rfl, rfl⟩ hy9_sign ⟨Nat.le_of_ble_eq_true rfl, Nat.le_of_ble_eq_true rfl⟩ rfl hl.1 (Nat.le_of_ble_eq_true rfl) ⟨Nat.zero_le _, Nat.zero_le _⟩ dX9_reads_172) hw (fun H locs hw => ?_)
                refine lv_if_eq (tgt := 190) hx hb dX9_reads_175 (by decide) (fun zc67 => ?_) (fun zc67 => ?_)
                · have hf := ite_t hf zc67
                  exact w9_reads_190 C0 hr hz fl zI65 _ _ _ zx0 zv2 zt0 ezv2 tzv2 hw (lv_sub hl [0] rfl) hf
                · have hf := ite_f hf zc67
                  refine lv_aload_n hx hb dX9_reads_178 rfl (lv_at hl 0 rfl) ?_
                  refine lv_iconst (v := (3 : Int32)) hx hb dX9_reads_179 (by decide) ?_
                  obtain ⟨⟨zv68, zI69⟩, ze70, hf⟩ := nn_some hf
                  refine x_ci (r := zv68) (I1 := zI69) (X1 := X) (x_runV (As := [.int (3 : Int32)]) (rest := []) C0 (c9_number l E G fl X zI65 zx0 (3 : Int32) zt0 ze70) hw 9 zt0 (by decide) rfl wd173 wd723 wd724 wd725 wd612 ⟨rfl, rfl⟩ hy9_number ⟨Nat.le_of_ble_eq_true rfl, Nat.le_of_ble_eq_true rfl⟩ rfl hl.1 (Nat.le_of_ble_eq_true rfl) ⟨Nat.zero_le _, Nat.zero_le _⟩ dX9_reads_180) hw (fun H locs hw => ?_)
                  refine lv_if_eq (tgt := 190) hx hb dX9_reads_183 (by decide) (fun zc71 => ?_) (fun zc71 => ?_)
                  · have hf := ite_t hf zc71
                    exact w9_reads_190 C0 hr hz fl zI69 _ _ _ zx0 zv2 zt0 ezv2 tzv2 hw (lv_sub hl [0] rfl) hf
                  · have hf := ite_f hf zc71
                    refine lv_iconst (v := (1 : Int32)) hx hb dX9_reads_186 (by decide) ?_
                    refine lv_goto (tgt := 191) hx hb dX9_reads_187 (by decide) ?_
                    exact w9_reads_191 C0 hr hz fl zI69 _ _ _ zx0 (1 : Int32) zv2 zt0 ezv2 tzv2 hw (lv_sub hl [0] rfl) hf
        · have hf := ite_f hf zc51
          by_cases zc72 : zx1 = (115 : Int32)
          · have hf := ite_t hf zc72
            refine lv_lookup (off := 103) (tgt := 195) hx hb dX9_reads_92 (by decide) (by rw [zc72]; rfl) (by decide) ?_
            refine lv_aload_n hx hb dX9_reads_195 rfl (lv_at hl 0 rfl) ?_
            refine lv_iconst (v := (1 : Int32)) hx hb dX9_reads_196 (by decide) ?_
            obtain ⟨⟨zv73, zI74⟩, ze75, hf⟩ := nn_some hf
            refine x_ci (r := zv73) (I1 := zI74) (X1 := X) (x_runV (As := [.int (1 : Int32)]) (rest := []) C0 (c9_number l E G fl X zI4 zx0 (1 : Int32) zt0 ze75) hw 9 zt0 (by decide) rfl wd173 wd723 wd724 wd725 wd612 ⟨rfl, rfl⟩ hy9_number ⟨Nat.le_of_ble_eq_true rfl, Nat.le_of_ble_eq_true rfl⟩ rfl hl.1 (Nat.le_of_ble_eq_true rfl) ⟨Nat.zero_le _, Nat.zero_le _⟩ dX9_reads_197) hw (fun H locs hw => ?_)
            refine lv_if_eq (tgt := 232) hx hb dX9_reads_200 (by decide) (fun zc76 => ?_) (fun zc76 => ?_)
            · have hf := ite_t hf zc76
              exact w9_reads_232 C0 hr hz fl zI74 _ _ _ zx0 zv2 zt0 ezv2 tzv2 hw (lv_sub hl [0] rfl) hf
            · have hf := ite_f hf zc76
              refine lv_aload_n hx hb dX9_reads_203 rfl (lv_at hl 0 rfl) ?_
              refine lv_bipush (v := (58 : Int32)) hx hb dX9_reads_204 (by decide) ?_
              obtain ⟨⟨zv77, zI78⟩, ze79, hf⟩ := nn_some hf
              refine x_ci (r := zv77) (I1 := zI78) (X1 := X) (x_runV (As := [.int (58 : Int32)]) (rest := []) C0 (c9_sign l E G fl X zI74 zx0 (58 : Int32) zt0 ze79) hw 9 zt0 (by decide) rfl wd171 wd720 wd721 wd722 wd612 ⟨rfl, rfl⟩ hy9_sign ⟨Nat.le_of_ble_eq_true rfl, Nat.le_of_ble_eq_true rfl⟩ rfl hl.1 (Nat.le_of_ble_eq_true rfl) ⟨Nat.zero_le _, Nat.zero_le _⟩ dX9_reads_206) hw (fun H locs hw => ?_)
              refine lv_if_eq (tgt := 232) hx hb dX9_reads_209 (by decide) (fun zc80 => ?_) (fun zc80 => ?_)
              · have hf := ite_t hf zc80
                exact w9_reads_232 C0 hr hz fl zI78 _ _ _ zx0 zv2 zt0 ezv2 tzv2 hw (lv_sub hl [0] rfl) hf
              · have hf := ite_f hf zc80
                refine lv_aload_n hx hb dX9_reads_212 rfl (lv_at hl 0 rfl) ?_
                refine lv_iconst (v := (2 : Int32)) hx hb dX9_reads_213 (by decide) ?_
                obtain ⟨⟨zv81, zI82⟩, ze83, hf⟩ := nn_some hf
                refine x_ci (r := zv81) (I1 := zI82) (X1 := X) (x_runV (As := [.int (2 : Int32)]) (rest := []) C0 (c9_digit l E G fl X zI78 zx0 (2 : Int32) zt0 ze83) hw 9 zt0 (by decide) rfl wd172 wd717 wd718 wd719 wd612 ⟨rfl, rfl⟩ hy9_digit ⟨Nat.le_of_ble_eq_true rfl, Nat.le_of_ble_eq_true rfl⟩ rfl hl.1 (Nat.le_of_ble_eq_true rfl) ⟨Nat.zero_le _, Nat.zero_le _⟩ dX9_reads_214) hw (fun H locs hw => ?_)
                refine lv_if_eq (tgt := 232) hx hb dX9_reads_217 (by decide) (fun zc84 => ?_) (fun zc84 => ?_)
                · have hf := ite_t hf zc84
                  exact w9_reads_232 C0 hr hz fl zI82 _ _ _ zx0 zv2 zt0 ezv2 tzv2 hw (lv_sub hl [0] rfl) hf
                · have hf := ite_f hf zc84
                  refine lv_aload_n hx hb dX9_reads_220 rfl (lv_at hl 0 rfl) ?_
                  refine lv_iconst (v := (3 : Int32)) hx hb dX9_reads_221 (by decide) ?_
                  obtain ⟨⟨zv85, zI86⟩, ze87, hf⟩ := nn_some hf
                  refine x_ci (r := zv85) (I1 := zI86) (X1 := X) (x_runV (As := [.int (3 : Int32)]) (rest := []) C0 (c9_digit l E G fl X zI82 zx0 (3 : Int32) zt0 ze87) hw 9 zt0 (by decide) rfl wd172 wd717 wd718 wd719 wd612 ⟨rfl, rfl⟩ hy9_digit ⟨Nat.le_of_ble_eq_true rfl, Nat.le_of_ble_eq_true rfl⟩ rfl hl.1 (Nat.le_of_ble_eq_true rfl) ⟨Nat.zero_le _, Nat.zero_le _⟩ dX9_reads_222) hw (fun H locs hw => ?_)
                  refine lv_if_eq (tgt := 232) hx hb dX9_reads_225 (by decide) (fun zc88 => ?_) (fun zc88 => ?_)
                  · have hf := ite_t hf zc88
                    exact w9_reads_232 C0 hr hz fl zI86 _ _ _ zx0 zv2 zt0 ezv2 tzv2 hw (lv_sub hl [0] rfl) hf
                  · have hf := ite_f hf zc88
                    refine lv_iconst (v := (1 : Int32)) hx hb dX9_reads_228 (by decide) ?_
                    refine lv_goto (tgt := 233) hx hb dX9_reads_229 (by decide) ?_
                    exact w9_reads_233 C0 hr hz fl zI86 _ _ _ zx0 (1 : Int32) zv2 zt0 ezv2 tzv2 hw (lv_sub hl [0] rfl) hf
          · have hf := ite_f hf zc72
            refine lv_lookup (off := 256) (tgt := 348) hx hb dX9_reads_92 (by decide) (by show Op.lookupswitch.offset [(100, 145), (103, 247), (108, 196), (114, 52), (115, 103)] 256 _ = _; rw [lv_osw zc5 (show ((100 : Int32)).toInt = 100 by decide), lv_osw zc26 (show ((103 : Int32)).toInt = 103 by decide), lv_osw zc30 (show ((108 : Int32)).toInt = 108 by decide), lv_osw zc51 (show ((114 : Int32)).toInt = 114 by decide), lv_osw zc72 (show ((115 : Int32)).toInt = 115 by decide)]; rfl) (by decide) ?_
            exact w9_reads_348 C0 hr hz fl zI4 _ _ _ zx0 zx2 zv2 zt0 ezv2 tzv2 hw (lv_sub hl [0, 2] rfl) hf
noncomputable def m9_reads_60 (fl : Nat) (len : Nat → Nat) (X : Xm) (I : Im) (zx0 : Nat) (zx1 : Int32) (zs0 : Int32) : Option (Int32 × Im) :=
  if zs0 = 0 then
    m9_reads_75 fl len X I zx0 zx1 zs0 zx0 (gF I 153 zx0) (0 : Int32)
  else
    m9_reads_75 fl len X I zx0 zx1 zs0 zx0 (gF I 153 zx0) (1 : Int32)
set_option maxHeartbeats 4000000 in
set_option maxRecDepth 100000 in
theorem w9_reads_60 {p : Program} {l : Launch} {e : Env} {s : State} {m : MethodId} {args : Array Value} {below : List Frame} {meth : Method} {c : Code} {E : EN} {G : GM} {X : Xm} (C0 : CX p s m args meth c E cX9_reads RX9 3) (hr : meth.sig.returnType = (some .boolean)) (hz : s.heap.size + 0 ≤ eB E + G.1) {rr : Int32 × Im} (fl : Nat) : ∀ (I : Im) (H : Heap) (locs : List Loc) (ls : Array Slot) (zx0 : Nat) (zx1 : Int32) (zs0 : Int32) (zt0 : okA E G 9 zx0), WD E G I X s.heap H locs → lv_has ls 3 [(0, .ref zx0), (1, .int zx1)] → m9_reads_60 fl G.2.2 X I zx0 zx1 zs0 = some rr → W p l e ({ frames := 4, cells := 0, slots := 0, locals := 87 } : Room) s m args below meth c H locs 0 0 (MQ below (QI E G rr.1 rr.2 X) args s 0 0 (eA E)) (F0 m 60 ls [.int zs0]) := by
  intro I H locs ls zx0 zx1 zs0 zt0 hw hl hf
  unfold m9_reads_60 at hf
  have hx := C0.1; have hb := C0.2.1; have hml := C0.2.2.1; have hown := C0.2.2.2.1; have hts := C0.2.2.2.2.1
  refine lv_istore_n (lv' := [(2, .int zs0), (0, .ref zx0), (1, .int zx1)]) hx hb dX9_reads_60 rfl hl (by decide) rfl (fun ls hl => ?_)
  refine lv_aload_n hx hb dX9_reads_61 rfl (lv_at hl 1 rfl) ?_
  refine lv_dup hx hb dX9_reads_62 rfl ?_
  refine xg_9_9 C0 hw zt0 wd712 dX9_reads_63 ?_
  refine lv_iload_n hx hb dX9_reads_66 rfl (lv_at hl 0 rfl) ?_
  refine lv_if_eq (tgt := 74) hx hb dX9_reads_67 (by decide) (fun zc1 => ?_) (fun zc1 => ?_)
  · have hf := ite_t hf zc1
    refine lv_iconst (v := (0 : Int32)) hx hb dX9_reads_74 (by decide) ?_
    exact w9_reads_75 C0 hr hz fl I _ _ _ zx0 zx1 zs0 zx0 (gF I 153 zx0) (0 : Int32) zt0 zt0 hw (lv_sub hl [1, 2, 0] rfl) hf
  · have hf := ite_f hf zc1
    refine lv_iconst (v := (1 : Int32)) hx hb dX9_reads_70 (by decide) ?_
    refine lv_goto (tgt := 75) hx hb dX9_reads_71 (by decide) ?_
    exact w9_reads_75 C0 hr hz fl I _ _ _ zx0 zx1 zs0 zx0 (gF I 153 zx0) (1 : Int32) zt0 zt0 hw (lv_sub hl [1, 2, 0] rfl) hf
noncomputable def m9_reads_55 (fl : Nat) (len : Nat → Nat) (X : Xm) (I : Im) (zx0 : Nat) (zx1 : Int32) : Option (Int32 × Im) :=
  m9_reads_60 fl len X I zx0 zx1 (1 : Int32)
set_option maxHeartbeats 4000000 in
set_option maxRecDepth 100000 in
theorem w9_reads_55 {p : Program} {l : Launch} {e : Env} {s : State} {m : MethodId} {args : Array Value} {below : List Frame} {meth : Method} {c : Code} {E : EN} {G : GM} {X : Xm} (C0 : CX p s m args meth c E cX9_reads RX9 3) (hr : meth.sig.returnType = (some .boolean)) (hz : s.heap.size + 0 ≤ eB E + G.1) {rr : Int32 × Im} (fl : Nat) : ∀ (I : Im) (H : Heap) (locs : List Loc) (ls : Array Slot) (zx0 : Nat) (zx1 : Int32) (zt0 : okA E G 9 zx0), WD E G I X s.heap H locs → lv_has ls 3 [(0, .ref zx0), (1, .int zx1)] → m9_reads_55 fl G.2.2 X I zx0 zx1 = some rr → W p l e ({ frames := 4, cells := 0, slots := 0, locals := 87 } : Room) s m args below meth c H locs 0 0 (MQ below (QI E G rr.1 rr.2 X) args s 0 0 (eA E)) (F0 m 55 ls []) := by
  intro I H locs ls zx0 zx1 zt0 hw hl hf
  unfold m9_reads_55 at hf
  have hx := C0.1; have hb := C0.2.1; have hml := C0.2.2.1; have hown := C0.2.2.2.1; have hts := C0.2.2.2.2.1
  refine lv_iconst (v := (1 : Int32)) hx hb dX9_reads_55 (by decide) ?_
  refine lv_goto (tgt := 60) hx hb dX9_reads_56 (by decide) ?_
  exact w9_reads_60 C0 hr hz fl I _ _ _ zx0 zx1 (1 : Int32) zt0 hw (lv_sub hl [0, 1] rfl) hf
noncomputable def m9_reads_24 (fl : Nat) (len : Nat → Nat) (X : Xm) (I : Im) (zx0 : Nat) (zs0 : Int32) : Option (Int32 × Im) :=
  if zs0 = (114 : Int32) then
    m9_reads_55 fl len X I zx0 zs0
  else
    if zs0 = (115 : Int32) then
      m9_reads_55 fl len X I zx0 zs0
    else
      if zs0 = (100 : Int32) then
        m9_reads_55 fl len X I zx0 zs0
      else
        if zs0 = (108 : Int32) then
          m9_reads_55 fl len X I zx0 zs0
        else
          if zs0 = (103 : Int32) then
            m9_reads_55 fl len X I zx0 zs0
          else
            m9_reads_60 fl len X I zx0 zs0 (0 : Int32)
set_option maxHeartbeats 4000000 in
set_option maxRecDepth 100000 in
theorem w9_reads_24 {p : Program} {l : Launch} {e : Env} {s : State} {m : MethodId} {args : Array Value} {below : List Frame} {meth : Method} {c : Code} {E : EN} {G : GM} {X : Xm} (C0 : CX p s m args meth c E cX9_reads RX9 3) (hr : meth.sig.returnType = (some .boolean)) (hz : s.heap.size + 0 ≤ eB E + G.1) {rr : Int32 × Im} (fl : Nat) : ∀ (I : Im) (H : Heap) (locs : List Loc) (ls : Array Slot) (zx0 : Nat) (zs0 : Int32) (zt0 : okA E G 9 zx0), WD E G I X s.heap H locs → lv_has ls 3 [(0, .ref zx0)] → m9_reads_24 fl G.2.2 X I zx0 zs0 = some rr → W p l e ({ frames := 4, cells := 0, slots := 0, locals := 87 } : Room) s m args below meth c H locs 0 0 (MQ below (QI E G rr.1 rr.2 X) args s 0 0 (eA E)) (F0 m 24 ls [.int zs0]) := by
  intro I H locs ls zx0 zs0 zt0 hw hl hf
  unfold m9_reads_24 at hf
  have hx := C0.1; have hb := C0.2.1; have hml := C0.2.2.1; have hown := C0.2.2.2.1; have hts := C0.2.2.2.2.1
  refine lv_istore_n (lv' := [(1, .int zs0), (0, .ref zx0)]) hx hb dX9_reads_24 rfl hl (by decide) rfl (fun ls hl => ?_)
  refine lv_iload_n hx hb dX9_reads_25 rfl (lv_at hl 0 rfl) ?_
  refine lv_bipush (v := (114 : Int32)) hx hb dX9_reads_26 (by decide) ?_
  refine lv_icmp_eq (tgt := 55) hx hb dX9_reads_28 (by decide) (fun zc1 => ?_) (fun zc1 => ?_)
  · have hf := ite_t hf zc1
    exact w9_reads_55 C0 hr hz fl I _ _ _ zx0 zs0 zt0 hw (lv_sub hl [1, 0] rfl) hf
  · have hf := ite_f hf zc1
    refine lv_iload_n hx hb dX9_reads_31 rfl (lv_at hl 0 rfl) ?_
    refine lv_bipush (v := (115 : Int32)) hx hb dX9_reads_32 (by decide) ?_
    refine lv_icmp_eq (tgt := 55) hx hb dX9_reads_34 (by decide) (fun zc2 => ?_) (fun zc2 => ?_)
    · have hf := ite_t hf zc2
      exact w9_reads_55 C0 hr hz fl I _ _ _ zx0 zs0 zt0 hw (lv_sub hl [1, 0] rfl) hf
    · have hf := ite_f hf zc2
      refine lv_iload_n hx hb dX9_reads_37 rfl (lv_at hl 0 rfl) ?_
      refine lv_bipush (v := (100 : Int32)) hx hb dX9_reads_38 (by decide) ?_
      refine lv_icmp_eq (tgt := 55) hx hb dX9_reads_40 (by decide) (fun zc3 => ?_) (fun zc3 => ?_)
      · have hf := ite_t hf zc3
        exact w9_reads_55 C0 hr hz fl I _ _ _ zx0 zs0 zt0 hw (lv_sub hl [1, 0] rfl) hf
      · have hf := ite_f hf zc3
        refine lv_iload_n hx hb dX9_reads_43 rfl (lv_at hl 0 rfl) ?_
        refine lv_bipush (v := (108 : Int32)) hx hb dX9_reads_44 (by decide) ?_
        refine lv_icmp_eq (tgt := 55) hx hb dX9_reads_46 (by decide) (fun zc4 => ?_) (fun zc4 => ?_)
        · have hf := ite_t hf zc4
          exact w9_reads_55 C0 hr hz fl I _ _ _ zx0 zs0 zt0 hw (lv_sub hl [1, 0] rfl) hf
        · have hf := ite_f hf zc4
          refine lv_iload_n hx hb dX9_reads_49 rfl (lv_at hl 0 rfl) ?_
          refine lv_bipush (v := (103 : Int32)) hx hb dX9_reads_50 (by decide) ?_
          refine lv_icmp_ne (tgt := 59) hx hb dX9_reads_52 (by decide) (fun zc5 => ?_) (fun zc5 => ?_)
          · have hf := ite_f hf zc5
            refine lv_iconst (v := (0 : Int32)) hx hb dX9_reads_59 (by decide) ?_
            exact w9_reads_60 C0 hr hz fl I _ _ _ zx0 zs0 (0 : Int32) zt0 hw (lv_sub hl [1, 0] rfl) hf
          · have hf := ite_t hf zc5
            exact w9_reads_55 C0 hr hz fl I _ _ _ zx0 zs0 zt0 hw (lv_sub hl [1, 0] rfl) hf
noncomputable def m9_reads (fl : Nat) (len : Nat → Nat) (X : Xm) (I : Im) (zx0 : Nat) : Option (Int32 × Im) :=
  if (gF I 152 zx0) ≤ (gF I 153 zx0) then
    m9_reads_24 fl len X I zx0 (0 : Int32)
  else
    nn (gR X 151 zx0) fun zv2 =>
    ck (inb (gF I 153 zx0) (len zv2) = true) <|
    m9_reads_24 fl len X I zx0 (gA I zv2 ((gF I 153 zx0)).toNatClampNeg)
theorem hy9_reads : yX9_reads.cls = RX9 ∧ yX9_reads.cls ≠ "java/lang/invoke/MethodHandle" ∧ yX9_reads.cls ≠ "java/lang/invoke/VarHandle" ∧ (parseMethodDescriptor yX9_reads.desc).map (fun d => d.parameters.length) = some 0 := ⟨rfl, by decide +kernel, by decide +kernel, by decide +kernel⟩
set_option maxHeartbeats 4000000 in
set_option maxRecDepth 100000 in
theorem c9_reads (l : Launch) (E : EN) (G : GM) (fl : Nat) (X : Xm) (I : Im) (zx0 : Nat) (zt0 : okA E G 9 zx0) {rr : Int32 × Im} (hf : m9_reads fl G.2.2 X I zx0 = some rr) : MT l yX9_reads cX9_reads 3 (some .boolean) ({ frames := 4, cells := 0, slots := 0, locals := 87 } : Room) E G I X [.ref zx0] (QI E G rr.1 rr.2 X) 0 0 := by
  refine Met.ofW (cc := cX9_reads) (maxL := 3) (ret := (some .boolean)) (by decide +kernel) rfl ?_
  intro p e s m args below meth c s₁ B hml hv
  obtain ⟨rfl, hw0, hSE⟩ := hv
  have C0 : CX p s m ([.ref zx0] : List Value).toArray meth c E cX9_reads RX9 3 := ⟨B.exec, B.bytes, hml, findClass_of_methodNamed B.named, fun w hw => atoms_spec (ws := WS yX9_reads cX9_reads 3 (some .boolean)) B.pre w (List.mem_cons_of_mem _ hw), B.notSynchronized, hSE⟩
  have hz : s.heap.size + 0 ≤ eB E + G.1 := Nat.le_of_eq hw0.2.1
  have hw : WD E G I X s.heap s.heap [] := ⟨hw0, va_S.rf⟩
  have hr := B.returns
  have hx := C0.1; have hb := C0.2.1; have hml := C0.2.2.1; have hown := C0.2.2.2.1; have hts := C0.2.2.2.2.1
  have hl := lv_entry ([.ref zx0]) (n := 3) (Nat.le_of_ble_eq_true rfl)
  rw [lg_entry_eq]
  generalize (lg_sl ([.ref zx0]) ++ List.replicate (3 - (lg_sl ([.ref zx0])).length) Slot.unset).toArray = ls at hl ⊢
  have hl : lv_has ls 3 [(0, .ref zx0)] := hl
  unfold m9_reads at hf
  refine lv_aload_n hx hb dX9_reads_0 rfl (lv_at hl 0 rfl) ?_
  refine xg_9_9 C0 hw zt0 wd712 dX9_reads_1 ?_
  refine lv_aload_n hx hb dX9_reads_4 rfl (lv_at hl 0 rfl) ?_
  refine xg_9_8 C0 hw zt0 wd689 dX9_reads_5 ?_
  refine lv_icmp_ge (tgt := 23) hx hb dX9_reads_8 (by decide) (fun zc1 => ?_) (fun zc1 => ?_)
  · have hf := ite_t hf zc1
    refine lv_iconst (v := (0 : Int32)) hx hb dX9_reads_23 (by decide) ?_
    exact w9_reads_24 C0 hr hz fl I _ _ _ zx0 (0 : Int32) zt0 hw (lv_sub hl [0] rfl) hf
  · have hf := ite_f hf zc1
    refine lv_aload_n hx hb dX9_reads_11 rfl (lv_at hl 0 rfl) ?_
    obtain ⟨zv2, ezv2, hf⟩ := nn_some hf
    have tzv2 : okA E G 11 zv2 := wt_r hw ezv2
    refine xg_9_7 C0 hw zt0 wd606 ezv2 dX9_reads_12 ?_
    refine lv_aload_n hx hb dX9_reads_15 rfl (lv_at hl 0 rfl) ?_
    refine xg_9_9 C0 hw zt0 wd712 dX9_reads_16 ?_
    obtain ⟨zhb3, hf⟩ := ck_some hf
    refine x_iald C0 hw tzv2 zhb3 dX9_reads_19 ?_
    refine lv_goto (tgt := 24) hx hb dX9_reads_20 (by decide) ?_
    exact w9_reads_24 C0 hr hz fl I _ _ _ zx0 (gA I zv2 ((gF I 153 zx0)).toNatClampNeg) zt0 hw (lv_sub hl [0] rfl) hf
noncomputable def m9_fault_58 (fl : Nat) (len : Nat → Nat) (X : Xm) (I : Im) (zs0 : Int32) : Option (Int32 × Im) :=
  some (zs0, I)
set_option maxHeartbeats 4000000 in
set_option maxRecDepth 100000 in
theorem w9_fault_58 {p : Program} {l : Launch} {e : Env} {s : State} {m : MethodId} {args : Array Value} {below : List Frame} {meth : Method} {c : Code} {E : EN} {G : GM} {X : Xm} (C0 : CX p s m args meth c E cX9_fault RX9 2) (hr : meth.sig.returnType = (some .int)) (hz : s.heap.size + 0 ≤ eB E + G.1) {rr : Int32 × Im} (fl : Nat) : ∀ (I : Im) (H : Heap) (locs : List Loc) (ls : Array Slot) (zs0 : Int32) , WD E G I X s.heap H locs → lv_has ls 2 [] → m9_fault_58 fl G.2.2 X I zs0 = some rr → W p l e ({ frames := 5, cells := 0, slots := 0, locals := 109 } : Room) s m args below meth c H locs 0 0 (MQ below (QI E G rr.1 rr.2 X) args s 0 0 (eA E)) (F0 m 58 ls [.int zs0]) := by
  intro I H locs ls zs0 hw hl hf
  unfold m9_fault_58 at hf
  have hx := C0.1; have hb := C0.2.1; have hml := C0.2.2.1; have hown := C0.2.2.2.1; have hts := C0.2.2.2.2.1
  obtain rfl := Option.some.inj hf
  exact x_iret C0 hr hw dX9_fault_58
noncomputable def m9_fault_12b (fl : Nat) (len : Nat → Nat) (X : Xm) (zr12 : Im → Nat → Int32 → Option (Int32 × Im)) (I : Im) (zx0 : Nat) (zx1 : Int32) : Option (Int32 × Im) :=
  if zx1 = 0 then
    if (gF I 153 zx0) = (gF I 152 zx0) then
      m9_fault_58 fl len X I (-6 : Int32)
    else
      m9_fault_58 fl len X I (gF I 153 zx0)
  else
    nn (m9_reads fl len X I zx0) fun ⟨zv3, zI4⟩ =>
    if zv3 = 0 then
      some ((gF zI4 153 zx0), zI4)
    else
      nn (m9_sign fl len X zI4 zx0 (59 : Int32)) fun ⟨zv7, zI8⟩ =>
      zr12 zI8 zx0 zv7
noncomputable def m9_fault_12 (fl : Nat) (len : Nat → Nat) (X : Xm) (n : Nat) : Im → Nat → Int32 → Option (Int32 × Im) :=
  Nat.rec (fun _ _ _ => none) (fun _ r => m9_fault_12b fl len X r) n
set_option maxHeartbeats 4000000 in
set_option maxRecDepth 100000 in
theorem w9_fault_12b {p : Program} {l : Launch} {e : Env} {s : State} {m : MethodId} {args : Array Value} {below : List Frame} {meth : Method} {c : Code} {E : EN} {G : GM} {X : Xm} (C0 : CX p s m args meth c E cX9_fault RX9 2) (hr : meth.sig.returnType = (some .int)) (hz : s.heap.size + 0 ≤ eB E + G.1) {rr : Int32 × Im} (fl : Nat) (zr12 : Im → Nat → Int32 → Option (Int32 × Im)) (zhr12 : ∀ (I : Im) (H : Heap) (locs : List Loc) (ls : Array Slot) (zx0 : Nat) (zx1 : Int32) (zt0 : okA E G 9 zx0), WD E G I X s.heap H locs → lv_has ls 2 [(0, .ref zx0), (1, .int zx1)] → zr12 I zx0 zx1 = some rr → W p l e ({ frames := 5, cells := 0, slots := 0, locals := 109 } : Room) s m args below meth c H locs 0 0 (MQ below (QI E G rr.1 rr.2 X) args s 0 0 (eA E)) (F0 m 12 ls [])) : ∀ (I : Im) (H : Heap) (locs : List Loc) (ls : Array Slot) (zx0 : Nat) (zx1 : Int32) (zt0 : okA E G 9 zx0), WD E G I X s.heap H locs → lv_has ls 2 [(0, .ref zx0), (1, .int zx1)] → m9_fault_12b fl G.2.2 X zr12 I zx0 zx1 = some rr → W p l e ({ frames := 5, cells := 0, slots := 0, locals := 109 } : Room) s m args below meth c H locs 0 0 (MQ below (QI E G rr.1 rr.2 X) args s 0 0 (eA E)) (F0 m 12 ls []) := by
  intro I H locs ls zx0 zx1 zt0 hw hl hf
  unfold m9_fault_12b at hf
  have hx := C0.1; have hb := C0.2.1; have hml := C0.2.2.1; have hown := C0.2.2.2.1; have hts := C0.2.2.2.2.1
  refine lv_iload_n hx hb dX9_fault_12 rfl (lv_at hl 1 rfl) ?_
  refine lv_if_eq (tgt := 38) hx hb dX9_fault_13 (by decide) (fun zc1 => ?_) (fun zc1 => ?_)
  · have hf := ite_t hf zc1
    refine lv_aload_n hx hb dX9_fault_38 rfl (lv_at hl 0 rfl) ?_
    refine xg_9_9 C0 hw zt0 wd712 dX9_fault_39 ?_
    refine lv_aload_n hx hb dX9_fault_42 rfl (lv_at hl 0 rfl) ?_
    refine xg_9_8 C0 hw zt0 wd689 dX9_fault_43 ?_
    refine lv_icmp_ne (tgt := 54) hx hb dX9_fault_46 (by decide) (fun zc2 => ?_) (fun zc2 => ?_)
    · have hf := ite_f hf zc2
      refine lv_aload_n hx hb dX9_fault_54 rfl (lv_at hl 0 rfl) ?_
      refine xg_9_9 C0 hw zt0 wd712 dX9_fault_55 ?_
      exact w9_fault_58 C0 hr hz fl I _ _ _ (gF I 153 zx0) hw (lv_sub hl [] rfl) hf
    · have hf := ite_t hf zc2
      refine lv_bipush (v := (-6 : Int32)) hx hb dX9_fault_49 (by decide) ?_
      refine lv_goto (tgt := 58) hx hb dX9_fault_51 (by decide) ?_
      exact w9_fault_58 C0 hr hz fl I _ _ _ (-6 : Int32) hw (lv_sub hl [] rfl) hf
  · have hf := ite_f hf zc1
    refine lv_aload_n hx hb dX9_fault_16 rfl (lv_at hl 0 rfl) ?_
    obtain ⟨⟨zv3, zI4⟩, ze5, hf⟩ := nn_some hf
    refine x_ci (r := zv3) (I1 := zI4) (X1 := X) (x_runV (As := []) (rest := []) C0 (c9_reads l E G fl X I zx0 zt0 ze5) hw 9 zt0 (by decide) rfl wd174 wd726 wd727 wd728 wd612 ⟨rfl, rfl⟩ hy9_reads ⟨Nat.le_of_ble_eq_true rfl, Nat.le_of_ble_eq_true rfl⟩ rfl hl.1 (Nat.le_of_ble_eq_true rfl) ⟨Nat.zero_le _, Nat.zero_le _⟩ dX9_fault_17) hw (fun H locs hw => ?_)
    refine lv_if_ne (tgt := 28) hx hb dX9_fault_20 (by decide) (fun zc6 => ?_) (fun zc6 => ?_)
    · have hf := ite_f hf zc6
      refine lv_aload_n hx hb dX9_fault_28 rfl (lv_at hl 0 rfl) ?_
      refine lv_bipush (v := (59 : Int32)) hx hb dX9_fault_29 (by decide) ?_
      obtain ⟨⟨zv7, zI8⟩, ze9, hf⟩ := nn_some hf
      refine x_ci (r := zv7) (I1 := zI8) (X1 := X) (x_runV (As := [.int (59 : Int32)]) (rest := []) C0 (c9_sign l E G fl X zI4 zx0 (59 : Int32) zt0 ze9) hw 9 zt0 (by decide) rfl wd171 wd720 wd721 wd722 wd612 ⟨rfl, rfl⟩ hy9_sign ⟨Nat.le_of_ble_eq_true rfl, Nat.le_of_ble_eq_true rfl⟩ rfl hl.1 (Nat.le_of_ble_eq_true rfl) ⟨Nat.zero_le _, Nat.zero_le _⟩ dX9_fault_31) hw (fun H locs hw => ?_)
      refine lv_istore_n (lv' := [(1, .int zv7), (0, .ref zx0)]) hx hb dX9_fault_34 rfl hl (by decide) rfl (fun ls hl => ?_)
      refine lv_goto (tgt := 12) hx hb dX9_fault_35 (by decide) ?_
      exact zhr12 zI8 _ _ _ zx0 zv7 zt0 hw (lv_sub hl [1, 0] rfl) hf
    · have hf := ite_t hf zc6
      refine lv_aload_n hx hb dX9_fault_23 rfl (lv_at hl 0 rfl) ?_
      refine xg_9_9 C0 hw zt0 wd712 dX9_fault_24 ?_
      obtain rfl := Option.some.inj hf
      exact x_iret C0 hr hw dX9_fault_27
theorem w9_fault_12 {p : Program} {l : Launch} {e : Env} {s : State} {m : MethodId} {args : Array Value} {below : List Frame} {meth : Method} {c : Code} {E : EN} {G : GM} {X : Xm} (C0 : CX p s m args meth c E cX9_fault RX9 2) (hr : meth.sig.returnType = (some .int)) (hz : s.heap.size + 0 ≤ eB E + G.1) {rr : Int32 × Im} (fl : Nat) : ∀ (n : Nat) (I : Im) (H : Heap) (locs : List Loc) (ls : Array Slot) (zx0 : Nat) (zx1 : Int32) (zt0 : okA E G 9 zx0), WD E G I X s.heap H locs → lv_has ls 2 [(0, .ref zx0), (1, .int zx1)] → m9_fault_12 fl G.2.2 X n I zx0 zx1 = some rr → W p l e ({ frames := 5, cells := 0, slots := 0, locals := 109 } : Room) s m args below meth c H locs 0 0 (MQ below (QI E G rr.1 rr.2 X) args s 0 0 (eA E)) (F0 m 12 ls []) := by
  intro n
  induction n with
  | zero => intro I H locs ls zx0 zx1 zt0 hw hl hf; exact absurd (show (none : Option (Int32 × Im)) = some rr from hf) (by simp)
  | succ n ih => intro I H locs ls zx0 zx1 zt0 hw hl hf; exact w9_fault_12b C0 hr hz fl _ ih I H locs ls zx0 zx1 zt0 hw hl hf
noncomputable def m9_fault (fl : Nat) (len : Nat → Nat) (X : Xm) (I : Im) (zx0 : Nat) : Option (Int32 × Im) :=
  lt (pF I 153 zx0 (0 : Int32)) fun zI1 =>
  lt (pF zI1 154 zx0 (0 : Int32)) fun zI2 =>
  m9_fault_12 fl len X fl zI2 zx0 (1 : Int32)
theorem hy9_fault : yX9_fault.cls = RX9 ∧ yX9_fault.cls ≠ "java/lang/invoke/MethodHandle" ∧ yX9_fault.cls ≠ "java/lang/invoke/VarHandle" ∧ (parseMethodDescriptor yX9_fault.desc).map (fun d => d.parameters.length) = some 0 := ⟨rfl, by decide +kernel, by decide +kernel, by decide +kernel⟩
set_option maxHeartbeats 4000000 in
set_option maxRecDepth 100000 in
theorem c9_fault (l : Launch) (E : EN) (G : GM) (fl : Nat) (X : Xm) (I : Im) (zx0 : Nat) (zt0 : okA E G 9 zx0) {rr : Int32 × Im} (hf : m9_fault fl G.2.2 X I zx0 = some rr) : MT l yX9_fault cX9_fault 2 (some .int) ({ frames := 5, cells := 0, slots := 0, locals := 109 } : Room) E G I X [.ref zx0] (QI E G rr.1 rr.2 X) 0 0 := by
  refine Met.ofW (cc := cX9_fault) (maxL := 2) (ret := (some .int)) (by decide +kernel) rfl ?_
  intro p e s m args below meth c s₁ B hml hv
  obtain ⟨rfl, hw0, hSE⟩ := hv
  have C0 : CX p s m ([.ref zx0] : List Value).toArray meth c E cX9_fault RX9 2 := ⟨B.exec, B.bytes, hml, findClass_of_methodNamed B.named, fun w hw => atoms_spec (ws := WS yX9_fault cX9_fault 2 (some .int)) B.pre w (List.mem_cons_of_mem _ hw), B.notSynchronized, hSE⟩
  have hz : s.heap.size + 0 ≤ eB E + G.1 := Nat.le_of_eq hw0.2.1
  have hw : WD E G I X s.heap s.heap [] := ⟨hw0, va_S.rf⟩
  have hr := B.returns
  have hx := C0.1; have hb := C0.2.1; have hml := C0.2.2.1; have hown := C0.2.2.2.1; have hts := C0.2.2.2.2.1
  have hl := lv_entry ([.ref zx0]) (n := 2) (Nat.le_of_ble_eq_true rfl)
  rw [lg_entry_eq]
  generalize (lg_sl ([.ref zx0]) ++ List.replicate (2 - (lg_sl ([.ref zx0])).length) Slot.unset).toArray = ls at hl ⊢
  have hl : lv_has ls 2 [(0, .ref zx0)] := hl
  unfold m9_fault at hf
  refine lv_aload_n hx hb dX9_fault_0 rfl (lv_at hl 0 rfl) ?_
  refine lv_iconst (v := (0 : Int32)) hx hb dX9_fault_1 (by decide) ?_
  obtain ⟨zI1, ezI1⟩ : ∃ y : Im, y = pF I 153 zx0 (0 : Int32) := ⟨_, rfl⟩
  have hf := lt_at hf ezI1
  refine xp_9_9 C0 hz hw zt0 rfl rfl wd712 dX9_fault_2 ezI1 (fun H locs hw => ?_)
  refine lv_aload_n hx hb dX9_fault_5 rfl (lv_at hl 0 rfl) ?_
  refine lv_iconst (v := (0 : Int32)) hx hb dX9_fault_6 (by decide) ?_
  obtain ⟨zI2, ezI2⟩ : ∃ y : Im, y = pF zI1 154 zx0 (0 : Int32) := ⟨_, rfl⟩
  have hf := lt_at hf ezI2
  refine xp_9_10 C0 hz hw zt0 rfl rfl wd716 dX9_fault_7 ezI2 (fun H locs hw => ?_)
  refine lv_iconst (v := (1 : Int32)) hx hb dX9_fault_10 (by decide) ?_
  refine lv_istore_n (lv' := [(1, .int (1 : Int32)), (0, .ref zx0)]) hx hb dX9_fault_11 rfl hl (by decide) rfl (fun ls hl => ?_)
  exact w9_fault_12 C0 hr hz fl fl zI2 _ _ _ zx0 (1 : Int32) zt0 hw (lv_sub hl [1, 0] rfl) hf
noncomputable def m9_does (fl : Nat) (len : Nat → Nat) (X : Xm) (I : Im) (zx0 : Nat) (zx1 : Int32) : Option (Int32 × Im) :=
  nn (gR X 155 zx0) fun zv1 =>
  ck (inb zx1 (len zv1) = true) <|
  if (gA I zv1 (zx1).toNatClampNeg) = (100 : Int32) then
    ck (inb (zx1 + (1 : Int32)) (len zv1) = true) <|
    ck (inb (zx1 + (2 : Int32)) (len zv1) = true) <|
    ck (inb (zx1 + (3 : Int32)) (len zv1) = true) <|
    nn (m9_cue fl len X I zx0 (gA I zv1 ((zx1 + (1 : Int32))).toNatClampNeg) (1 : Int32) (gA I zv1 ((zx1 + (2 : Int32))).toNatClampNeg) (gA I zv1 ((zx1 + (3 : Int32))).toNatClampNeg)) fun ⟨zv7, zI8⟩ =>
    some (zv7, zI8)
  else
    if (gA I zv1 (zx1).toNatClampNeg) = (108 : Int32) then
      ck (inb (zx1 + (1 : Int32)) (len zv1) = true) <|
      ck (inb (zx1 + (2 : Int32)) (len zv1) = true) <|
      ck (inb (zx1 + (3 : Int32)) (len zv1) = true) <|
      nn (m9_cue fl len X I zx0 (gA I zv1 ((zx1 + (1 : Int32))).toNatClampNeg) (2 : Int32) (gA I zv1 ((zx1 + (2 : Int32))).toNatClampNeg) (gA I zv1 ((zx1 + (3 : Int32))).toNatClampNeg)) fun ⟨zv14, zI15⟩ =>
      some (zv14, zI15)
    else
      if (gA I zv1 (zx1).toNatClampNeg) = (114 : Int32) then
        ck (inb (zx1 + (1 : Int32)) (len zv1) = true) <|
        ck (inb (zx1 + (2 : Int32)) (len zv1) = true) <|
        ck (inb (zx1 + (3 : Int32)) (len zv1) = true) <|
        nn (m9_sound fl len X I zx0 (gA I zv1 ((zx1 + (1 : Int32))).toNatClampNeg) (gA I zv1 ((zx1 + (2 : Int32))).toNatClampNeg) (gA I zv1 ((zx1 + (3 : Int32))).toNatClampNeg)) fun ⟨zv21, zI22⟩ =>
        some (zv21, zI22)
      else
        if (gA I zv1 (zx1).toNatClampNeg) = (115 : Int32) then
          ck (inb (zx1 + (1 : Int32)) (len zv1) = true) <|
          ck (inb (zx1 + (2 : Int32)) (len zv1) = true) <|
          ck (inb (zx1 + (3 : Int32)) (len zv1) = true) <|
          nn (m9_cue fl len X I zx0 (gA I zv1 ((zx1 + (1 : Int32))).toNatClampNeg) (0 : Int32) (gA I zv1 ((zx1 + (2 : Int32))).toNatClampNeg) (gA I zv1 ((zx1 + (3 : Int32))).toNatClampNeg)) fun ⟨zv28, zI29⟩ =>
          some (zv28, zI29)
        else
          ck (inb (zx1 + (1 : Int32)) (len zv1) = true) <|
          nn (m9_pass fl len X I zx0 (gA I zv1 ((zx1 + (1 : Int32))).toNatClampNeg)) fun ⟨zv32, zI33⟩ =>
          some (zv32, zI33)
theorem hy9_does : yX9_does.cls = RX9 ∧ yX9_does.cls ≠ "java/lang/invoke/MethodHandle" ∧ yX9_does.cls ≠ "java/lang/invoke/VarHandle" ∧ (parseMethodDescriptor yX9_does.desc).map (fun d => d.parameters.length) = some 1 := ⟨rfl, by decide +kernel, by decide +kernel, by decide +kernel⟩
set_option maxHeartbeats 4000000 in
set_option maxRecDepth 100000 in
theorem c9_does (l : Launch) (E : EN) (G : GM) (fl : Nat) (X : Xm) (I : Im) (zx0 : Nat) (zx1 : Int32) (zt0 : okA E G 9 zx0) {rr : Int32 × Im} (hf : m9_does fl G.2.2 X I zx0 zx1 = some rr) : MT l yX9_does cX9_does 2 (some .int) ({ frames := 5, cells := 0, slots := 0, locals := 116 } : Room) E G I X [.ref zx0, .int zx1] (QI E G rr.1 rr.2 X) 0 0 := by
  refine Met.ofW (cc := cX9_does) (maxL := 2) (ret := (some .int)) (by decide +kernel) rfl ?_
  intro p e s m args below meth c s₁ B hml hv
  obtain ⟨rfl, hw0, hSE⟩ := hv
  have C0 : CX p s m ([.ref zx0, .int zx1] : List Value).toArray meth c E cX9_does RX9 2 := ⟨B.exec, B.bytes, hml, findClass_of_methodNamed B.named, fun w hw => atoms_spec (ws := WS yX9_does cX9_does 2 (some .int)) B.pre w (List.mem_cons_of_mem _ hw), B.notSynchronized, hSE⟩
  have hz : s.heap.size + 0 ≤ eB E + G.1 := Nat.le_of_eq hw0.2.1
  have hw : WD E G I X s.heap s.heap [] := ⟨hw0, va_S.rf⟩
  have hr := B.returns
  have hx := C0.1; have hb := C0.2.1; have hml := C0.2.2.1; have hown := C0.2.2.2.1; have hts := C0.2.2.2.2.1
  have hl := lv_entry ([.ref zx0, .int zx1]) (n := 2) (Nat.le_of_ble_eq_true rfl)
  rw [lg_entry_eq]
  generalize (lg_sl ([.ref zx0, .int zx1]) ++ List.replicate (2 - (lg_sl ([.ref zx0, .int zx1])).length) Slot.unset).toArray = ls at hl ⊢
  have hl : lv_has ls 2 [(0, .ref zx0), (1, .int zx1)] := hl
  unfold m9_does at hf
  refine lv_aload_n hx hb dX9_does_0 rfl (lv_at hl 0 rfl) ?_
  obtain ⟨zv1, ezv1, hf⟩ := nn_some hf
  have tzv1 : okA E G 11 zv1 := wt_r hw ezv1
  refine xg_9_11 C0 hw zt0 wd607 ezv1 dX9_does_1 ?_
  refine lv_iload_n hx hb dX9_does_4 rfl (lv_at hl 1 rfl) ?_
  obtain ⟨zhb2, hf⟩ := ck_some hf
  refine x_iald C0 hw tzv1 zhb2 dX9_does_5 ?_
  by_cases zc3 : (gA I zv1 (zx1).toNatClampNeg) = (100 : Int32)
  · have hf := ite_t hf zc3
    refine lv_lookup (off := 101) (tgt := 107) hx hb dX9_does_6 (by decide) (by rw [zc3]; rfl) (by decide) ?_
    refine lv_aload_n hx hb dX9_does_107 rfl (lv_at hl 0 rfl) ?_
    refine lv_aload_n hx hb dX9_does_108 rfl (lv_at hl 0 rfl) ?_
    refine xg_9_11 C0 hw zt0 wd607 ezv1 dX9_does_109 ?_
    refine lv_iload_n hx hb dX9_does_112 rfl (lv_at hl 1 rfl) ?_
    refine lv_iconst (v := (1 : Int32)) hx hb dX9_does_113 (by decide) ?_
    refine lv_iadd hx hb dX9_does_114 ?_
    obtain ⟨zhb4, hf⟩ := ck_some hf
    refine x_iald C0 hw tzv1 zhb4 dX9_does_115 ?_
    refine lv_iconst (v := (1 : Int32)) hx hb dX9_does_116 (by decide) ?_
    refine lv_aload_n hx hb dX9_does_117 rfl (lv_at hl 0 rfl) ?_
    refine xg_9_11 C0 hw zt0 wd607 ezv1 dX9_does_118 ?_
    refine lv_iload_n hx hb dX9_does_121 rfl (lv_at hl 1 rfl) ?_
    refine lv_iconst (v := (2 : Int32)) hx hb dX9_does_122 (by decide) ?_
    refine lv_iadd hx hb dX9_does_123 ?_
    obtain ⟨zhb5, hf⟩ := ck_some hf
    refine x_iald C0 hw tzv1 zhb5 dX9_does_124 ?_
    refine lv_aload_n hx hb dX9_does_125 rfl (lv_at hl 0 rfl) ?_
    refine xg_9_11 C0 hw zt0 wd607 ezv1 dX9_does_126 ?_
    refine lv_iload_n hx hb dX9_does_129 rfl (lv_at hl 1 rfl) ?_
    refine lv_iconst (v := (3 : Int32)) hx hb dX9_does_130 (by decide) ?_
    refine lv_iadd hx hb dX9_does_131 ?_
    obtain ⟨zhb6, hf⟩ := ck_some hf
    refine x_iald C0 hw tzv1 zhb6 dX9_does_132 ?_
    obtain ⟨⟨zv7, zI8⟩, ze9, hf⟩ := nn_some hf
    refine x_ci (r := zv7) (I1 := zI8) (X1 := X) (x_runV (As := [.int (gA I zv1 ((zx1 + (1 : Int32))).toNatClampNeg), .int (1 : Int32), .int (gA I zv1 ((zx1 + (2 : Int32))).toNatClampNeg), .int (gA I zv1 ((zx1 + (3 : Int32))).toNatClampNeg)]) (rest := []) C0 (c9_cue l E G fl X I zx0 (gA I zv1 ((zx1 + (1 : Int32))).toNatClampNeg) (1 : Int32) (gA I zv1 ((zx1 + (2 : Int32))).toNatClampNeg) (gA I zv1 ((zx1 + (3 : Int32))).toNatClampNeg) zt0 ze9) hw 9 zt0 (by decide) rfl wd142 wd732 wd733 wd734 wd612 ⟨rfl, rfl⟩ hy9_cue ⟨Nat.le_of_ble_eq_true rfl, Nat.le_of_ble_eq_true rfl⟩ rfl hl.1 (Nat.le_of_ble_eq_true rfl) ⟨Nat.zero_le _, Nat.zero_le _⟩ dX9_does_133) hw (fun H locs hw => ?_)
    obtain rfl := Option.some.inj hf
    exact x_iret C0 hr hw dX9_does_136
  · have hf := ite_f hf zc3
    by_cases zc10 : (gA I zv1 (zx1).toNatClampNeg) = (108 : Int32)
    · have hf := ite_t hf zc10
      refine lv_lookup (off := 131) (tgt := 137) hx hb dX9_does_6 (by decide) (by rw [zc10]; rfl) (by decide) ?_
      refine lv_aload_n hx hb dX9_does_137 rfl (lv_at hl 0 rfl) ?_
      refine lv_aload_n hx hb dX9_does_138 rfl (lv_at hl 0 rfl) ?_
      refine xg_9_11 C0 hw zt0 wd607 ezv1 dX9_does_139 ?_
      refine lv_iload_n hx hb dX9_does_142 rfl (lv_at hl 1 rfl) ?_
      refine lv_iconst (v := (1 : Int32)) hx hb dX9_does_143 (by decide) ?_
      refine lv_iadd hx hb dX9_does_144 ?_
      obtain ⟨zhb11, hf⟩ := ck_some hf
      refine x_iald C0 hw tzv1 zhb11 dX9_does_145 ?_
      refine lv_iconst (v := (2 : Int32)) hx hb dX9_does_146 (by decide) ?_
      refine lv_aload_n hx hb dX9_does_147 rfl (lv_at hl 0 rfl) ?_
      refine xg_9_11 C0 hw zt0 wd607 ezv1 dX9_does_148 ?_
      refine lv_iload_n hx hb dX9_does_151 rfl (lv_at hl 1 rfl) ?_
      refine lv_iconst (v := (2 : Int32)) hx hb dX9_does_152 (by decide) ?_
      refine lv_iadd hx hb dX9_does_153 ?_
      obtain ⟨zhb12, hf⟩ := ck_some hf
      refine x_iald C0 hw tzv1 zhb12 dX9_does_154 ?_
      refine lv_aload_n hx hb dX9_does_155 rfl (lv_at hl 0 rfl) ?_
      refine xg_9_11 C0 hw zt0 wd607 ezv1 dX9_does_156 ?_
      refine lv_iload_n hx hb dX9_does_159 rfl (lv_at hl 1 rfl) ?_
      refine lv_iconst (v := (3 : Int32)) hx hb dX9_does_160 (by decide) ?_
      refine lv_iadd hx hb dX9_does_161 ?_
      obtain ⟨zhb13, hf⟩ := ck_some hf
      refine x_iald C0 hw tzv1 zhb13 dX9_does_162 ?_
      obtain ⟨⟨zv14, zI15⟩, ze16, hf⟩ := nn_some hf
      refine x_ci (r := zv14) (I1 := zI15) (X1 := X) (x_runV (As := [.int (gA I zv1 ((zx1 + (1 : Int32))).toNatClampNeg), .int (2 : Int32), .int (gA I zv1 ((zx1 + (2 : Int32))).toNatClampNeg), .int (gA I zv1 ((zx1 + (3 : Int32))).toNatClampNeg)]) (rest := []) C0 (c9_cue l E G fl X I zx0 (gA I zv1 ((zx1 + (1 : Int32))).toNatClampNeg) (2 : Int32) (gA I zv1 ((zx1 + (2 : Int32))).toNatClampNeg) (gA I zv1 ((zx1 + (3 : Int32))).toNatClampNeg) zt0 ze16) hw 9 zt0 (by decide) rfl wd142 wd732 wd733 wd734 wd612 ⟨rfl, rfl⟩ hy9_cue ⟨Nat.le_of_ble_eq_true rfl, Nat.le_of_ble_eq_true rfl⟩ rfl hl.1 (Nat.le_of_ble_eq_true rfl) ⟨Nat.zero_le _, Nat.zero_le _⟩ dX9_does_163) hw (fun H locs hw => ?_)
      obtain rfl := Option.some.inj hf
      exact x_iret C0 hr hw dX9_does_166
    · have hf := ite_f hf zc10
      by_cases zc17 : (gA I zv1 (zx1).toNatClampNeg) = (114 : Int32)
      · have hf := ite_t hf zc17
        refine lv_lookup (off := 42) (tgt := 48) hx hb dX9_does_6 (by decide) (by rw [zc17]; rfl) (by decide) ?_
        refine lv_aload_n hx hb dX9_does_48 rfl (lv_at hl 0 rfl) ?_
        refine lv_aload_n hx hb dX9_does_49 rfl (lv_at hl 0 rfl) ?_
        refine xg_9_11 C0 hw zt0 wd607 ezv1 dX9_does_50 ?_
        refine lv_iload_n hx hb dX9_does_53 rfl (lv_at hl 1 rfl) ?_
        refine lv_iconst (v := (1 : Int32)) hx hb dX9_does_54 (by decide) ?_
        refine lv_iadd hx hb dX9_does_55 ?_
        obtain ⟨zhb18, hf⟩ := ck_some hf
        refine x_iald C0 hw tzv1 zhb18 dX9_does_56 ?_
        refine lv_aload_n hx hb dX9_does_57 rfl (lv_at hl 0 rfl) ?_
        refine xg_9_11 C0 hw zt0 wd607 ezv1 dX9_does_58 ?_
        refine lv_iload_n hx hb dX9_does_61 rfl (lv_at hl 1 rfl) ?_
        refine lv_iconst (v := (2 : Int32)) hx hb dX9_does_62 (by decide) ?_
        refine lv_iadd hx hb dX9_does_63 ?_
        obtain ⟨zhb19, hf⟩ := ck_some hf
        refine x_iald C0 hw tzv1 zhb19 dX9_does_64 ?_
        refine lv_aload_n hx hb dX9_does_65 rfl (lv_at hl 0 rfl) ?_
        refine xg_9_11 C0 hw zt0 wd607 ezv1 dX9_does_66 ?_
        refine lv_iload_n hx hb dX9_does_69 rfl (lv_at hl 1 rfl) ?_
        refine lv_iconst (v := (3 : Int32)) hx hb dX9_does_70 (by decide) ?_
        refine lv_iadd hx hb dX9_does_71 ?_
        obtain ⟨zhb20, hf⟩ := ck_some hf
        refine x_iald C0 hw tzv1 zhb20 dX9_does_72 ?_
        obtain ⟨⟨zv21, zI22⟩, ze23, hf⟩ := nn_some hf
        refine x_ci (r := zv21) (I1 := zI22) (X1 := X) (x_runV (As := [.int (gA I zv1 ((zx1 + (1 : Int32))).toNatClampNeg), .int (gA I zv1 ((zx1 + (2 : Int32))).toNatClampNeg), .int (gA I zv1 ((zx1 + (3 : Int32))).toNatClampNeg)]) (rest := []) C0 (c9_sound l E G fl X I zx0 (gA I zv1 ((zx1 + (1 : Int32))).toNatClampNeg) (gA I zv1 ((zx1 + (2 : Int32))).toNatClampNeg) (gA I zv1 ((zx1 + (3 : Int32))).toNatClampNeg) zt0 ze23) hw 9 zt0 (by decide) rfl wd139 wd729 wd730 wd731 wd612 ⟨rfl, rfl⟩ hy9_sound ⟨Nat.le_of_ble_eq_true rfl, Nat.le_of_ble_eq_true rfl⟩ rfl hl.1 (Nat.le_of_ble_eq_true rfl) ⟨Nat.zero_le _, Nat.zero_le _⟩ dX9_does_73) hw (fun H locs hw => ?_)
        obtain rfl := Option.some.inj hf
        exact x_iret C0 hr hw dX9_does_76
      · have hf := ite_f hf zc17
        by_cases zc24 : (gA I zv1 (zx1).toNatClampNeg) = (115 : Int32)
        · have hf := ite_t hf zc24
          refine lv_lookup (off := 71) (tgt := 77) hx hb dX9_does_6 (by decide) (by rw [zc24]; rfl) (by decide) ?_
          refine lv_aload_n hx hb dX9_does_77 rfl (lv_at hl 0 rfl) ?_
          refine lv_aload_n hx hb dX9_does_78 rfl (lv_at hl 0 rfl) ?_
          refine xg_9_11 C0 hw zt0 wd607 ezv1 dX9_does_79 ?_
          refine lv_iload_n hx hb dX9_does_82 rfl (lv_at hl 1 rfl) ?_
          refine lv_iconst (v := (1 : Int32)) hx hb dX9_does_83 (by decide) ?_
          refine lv_iadd hx hb dX9_does_84 ?_
          obtain ⟨zhb25, hf⟩ := ck_some hf
          refine x_iald C0 hw tzv1 zhb25 dX9_does_85 ?_
          refine lv_iconst (v := (0 : Int32)) hx hb dX9_does_86 (by decide) ?_
          refine lv_aload_n hx hb dX9_does_87 rfl (lv_at hl 0 rfl) ?_
          refine xg_9_11 C0 hw zt0 wd607 ezv1 dX9_does_88 ?_
          refine lv_iload_n hx hb dX9_does_91 rfl (lv_at hl 1 rfl) ?_
          refine lv_iconst (v := (2 : Int32)) hx hb dX9_does_92 (by decide) ?_
          refine lv_iadd hx hb dX9_does_93 ?_
          obtain ⟨zhb26, hf⟩ := ck_some hf
          refine x_iald C0 hw tzv1 zhb26 dX9_does_94 ?_
          refine lv_aload_n hx hb dX9_does_95 rfl (lv_at hl 0 rfl) ?_
          refine xg_9_11 C0 hw zt0 wd607 ezv1 dX9_does_96 ?_
          refine lv_iload_n hx hb dX9_does_99 rfl (lv_at hl 1 rfl) ?_
          refine lv_iconst (v := (3 : Int32)) hx hb dX9_does_100 (by decide) ?_
          refine lv_iadd hx hb dX9_does_101 ?_
          obtain ⟨zhb27, hf⟩ := ck_some hf
          refine x_iald C0 hw tzv1 zhb27 dX9_does_102 ?_
          obtain ⟨⟨zv28, zI29⟩, ze30, hf⟩ := nn_some hf
          refine x_ci (r := zv28) (I1 := zI29) (X1 := X) (x_runV (As := [.int (gA I zv1 ((zx1 + (1 : Int32))).toNatClampNeg), .int (0 : Int32), .int (gA I zv1 ((zx1 + (2 : Int32))).toNatClampNeg), .int (gA I zv1 ((zx1 + (3 : Int32))).toNatClampNeg)]) (rest := []) C0 (c9_cue l E G fl X I zx0 (gA I zv1 ((zx1 + (1 : Int32))).toNatClampNeg) (0 : Int32) (gA I zv1 ((zx1 + (2 : Int32))).toNatClampNeg) (gA I zv1 ((zx1 + (3 : Int32))).toNatClampNeg) zt0 ze30) hw 9 zt0 (by decide) rfl wd142 wd732 wd733 wd734 wd612 ⟨rfl, rfl⟩ hy9_cue ⟨Nat.le_of_ble_eq_true rfl, Nat.le_of_ble_eq_true rfl⟩ rfl hl.1 (Nat.le_of_ble_eq_true rfl) ⟨Nat.zero_le _, Nat.zero_le _⟩ dX9_does_103) hw (fun H locs hw => ?_)
          obtain rfl := Option.some.inj hf
          exact x_iret C0 hr hw dX9_does_106
        · have hf := ite_f hf zc24
          refine lv_lookup (off := 161) (tgt := 167) hx hb dX9_does_6 (by decide) (by show Op.lookupswitch.offset [(100, 101), (108, 131), (114, 42), (115, 71)] 161 _ = _; rw [lv_osw zc3 (show ((100 : Int32)).toInt = 100 by decide), lv_osw zc10 (show ((108 : Int32)).toInt = 108 by decide), lv_osw zc17 (show ((114 : Int32)).toInt = 114 by decide), lv_osw zc24 (show ((115 : Int32)).toInt = 115 by decide)]; rfl) (by decide) ?_
          refine lv_aload_n hx hb dX9_does_167 rfl (lv_at hl 0 rfl) ?_
          refine lv_aload_n hx hb dX9_does_168 rfl (lv_at hl 0 rfl) ?_
          refine xg_9_11 C0 hw zt0 wd607 ezv1 dX9_does_169 ?_
          refine lv_iload_n hx hb dX9_does_172 rfl (lv_at hl 1 rfl) ?_
          refine lv_iconst (v := (1 : Int32)) hx hb dX9_does_173 (by decide) ?_
          refine lv_iadd hx hb dX9_does_174 ?_
          obtain ⟨zhb31, hf⟩ := ck_some hf
          refine x_iald C0 hw tzv1 zhb31 dX9_does_175 ?_
          obtain ⟨⟨zv32, zI33⟩, ze34, hf⟩ := nn_some hf
          refine x_ci (r := zv32) (I1 := zI33) (X1 := X) (x_runV (As := [.int (gA I zv1 ((zx1 + (1 : Int32))).toNatClampNeg)]) (rest := []) C0 (c9_pass l E G fl X I zx0 (gA I zv1 ((zx1 + (1 : Int32))).toNatClampNeg) zt0 ze34) hw 9 zt0 (by decide) rfl wd149 wd735 wd736 wd737 wd612 ⟨rfl, rfl⟩ hy9_pass ⟨Nat.le_of_ble_eq_true rfl, Nat.le_of_ble_eq_true rfl⟩ rfl hl.1 (Nat.le_of_ble_eq_true rfl) ⟨Nat.zero_le _, Nat.zero_le _⟩ dX9_does_176) hw (fun H locs hw => ?_)
          obtain rfl := Option.some.inj hf
          exact x_iret C0 hr hw dX9_does_179
noncomputable def m9_carryOut_52 (fl : Nat) (len : Nat → Nat) (X : Xm) (I : Im) (zx0 : Nat) (zx1 : Int32) : Option (Int32 × Im) :=
  lt (pF I 150 zx0 (0 : Int32)) fun zI1 =>
  some (zx1, zI1)
set_option maxHeartbeats 4000000 in
set_option maxRecDepth 100000 in
theorem w9_carryOut_52 {p : Program} {l : Launch} {e : Env} {s : State} {m : MethodId} {args : Array Value} {below : List Frame} {meth : Method} {c : Code} {E : EN} {G : GM} {X : Xm} (C0 : CX p s m args meth c E cX9_carryOut RX9 2) (hr : meth.sig.returnType = (some .int)) (hz : s.heap.size + 0 ≤ eB E + G.1) {rr : Int32 × Im} (fl : Nat) : ∀ (I : Im) (H : Heap) (locs : List Loc) (ls : Array Slot) (zx0 : Nat) (zx1 : Int32) (zt0 : okA E G 9 zx0), WD E G I X s.heap H locs → lv_has ls 2 [(0, .ref zx0), (1, .int zx1)] → m9_carryOut_52 fl G.2.2 X I zx0 zx1 = some rr → W p l e ({ frames := 6, cells := 0, slots := 0, locals := 137 } : Room) s m args below meth c H locs 0 0 (MQ below (QI E G rr.1 rr.2 X) args s 0 0 (eA E)) (F0 m 52 ls []) := by
  intro I H locs ls zx0 zx1 zt0 hw hl hf
  unfold m9_carryOut_52 at hf
  have hx := C0.1; have hb := C0.2.1; have hml := C0.2.2.1; have hown := C0.2.2.2.1; have hts := C0.2.2.2.2.1
  refine lv_aload_n hx hb dX9_carryOut_52 rfl (lv_at hl 0 rfl) ?_
  refine lv_iconst (v := (0 : Int32)) hx hb dX9_carryOut_53 (by decide) ?_
  obtain ⟨zI1, ezI1⟩ : ∃ y : Im, y = pF I 150 zx0 (0 : Int32) := ⟨_, rfl⟩
  have hf := lt_at hf ezI1
  refine xp_9_6 C0 hz hw zt0 (by decide) (by decide) wd608 dX9_carryOut_54 ezI1 (fun H locs hw => ?_)
  refine lv_iload_n hx hb dX9_carryOut_57 rfl (lv_at hl 1 rfl) ?_
  obtain rfl := Option.some.inj hf
  exact x_iret C0 hr hw dX9_carryOut_58
noncomputable def m9_carryOut_28b (fl : Nat) (len : Nat → Nat) (X : Xm) (zr28 : Im → Nat → Int32 → Option (Int32 × Im)) (I : Im) (zx0 : Nat) (zx1 : Int32) : Option (Int32 × Im) :=
  if (gF I 154 zx0) ≤ zx1 then
    m9_carryOut_52 fl len X I zx0 zx1
  else
    nn (m9_does fl len X I zx0 ((4 : Int32) * zx1)) fun ⟨zv2, zI3⟩ =>
    if zv2 < 0 then
      m9_carryOut_52 fl len X zI3 zx0 zx1
    else
      lt (zx1 + 1) fun zv6 =>
      zr28 zI3 zx0 zv6
noncomputable def m9_carryOut_28 (fl : Nat) (len : Nat → Nat) (X : Xm) (n : Nat) : Im → Nat → Int32 → Option (Int32 × Im) :=
  Nat.rec (fun _ _ _ => none) (fun _ r => m9_carryOut_28b fl len X r) n
set_option maxHeartbeats 4000000 in
set_option maxRecDepth 100000 in
theorem w9_carryOut_28b {p : Program} {l : Launch} {e : Env} {s : State} {m : MethodId} {args : Array Value} {below : List Frame} {meth : Method} {c : Code} {E : EN} {G : GM} {X : Xm} (C0 : CX p s m args meth c E cX9_carryOut RX9 2) (hr : meth.sig.returnType = (some .int)) (hz : s.heap.size + 0 ≤ eB E + G.1) {rr : Int32 × Im} (fl : Nat) (zr28 : Im → Nat → Int32 → Option (Int32 × Im)) (zhr28 : ∀ (I : Im) (H : Heap) (locs : List Loc) (ls : Array Slot) (zx0 : Nat) (zx1 : Int32) (zt0 : okA E G 9 zx0), WD E G I X s.heap H locs → lv_has ls 2 [(0, .ref zx0), (1, .int zx1)] → zr28 I zx0 zx1 = some rr → W p l e ({ frames := 6, cells := 0, slots := 0, locals := 137 } : Room) s m args below meth c H locs 0 0 (MQ below (QI E G rr.1 rr.2 X) args s 0 0 (eA E)) (F0 m 28 ls [])) : ∀ (I : Im) (H : Heap) (locs : List Loc) (ls : Array Slot) (zx0 : Nat) (zx1 : Int32) (zt0 : okA E G 9 zx0), WD E G I X s.heap H locs → lv_has ls 2 [(0, .ref zx0), (1, .int zx1)] → m9_carryOut_28b fl G.2.2 X zr28 I zx0 zx1 = some rr → W p l e ({ frames := 6, cells := 0, slots := 0, locals := 137 } : Room) s m args below meth c H locs 0 0 (MQ below (QI E G rr.1 rr.2 X) args s 0 0 (eA E)) (F0 m 28 ls []) := by
  intro I H locs ls zx0 zx1 zt0 hw hl hf
  unfold m9_carryOut_28b at hf
  have hx := C0.1; have hb := C0.2.1; have hml := C0.2.2.1; have hown := C0.2.2.2.1; have hts := C0.2.2.2.2.1
  refine lv_iload_n hx hb dX9_carryOut_28 rfl (lv_at hl 1 rfl) ?_
  refine lv_aload_n hx hb dX9_carryOut_29 rfl (lv_at hl 0 rfl) ?_
  refine xg_9_10 C0 hw zt0 wd716 dX9_carryOut_30 ?_
  refine lv_icmp_ge (tgt := 52) hx hb dX9_carryOut_33 (by decide) (fun zc1 => ?_) (fun zc1 => ?_)
  · have hf := ite_t hf zc1
    exact w9_carryOut_52 C0 hr hz fl I _ _ _ zx0 zx1 zt0 hw (lv_sub hl [0, 1] rfl) hf
  · have hf := ite_f hf zc1
    refine lv_aload_n hx hb dX9_carryOut_36 rfl (lv_at hl 0 rfl) ?_
    refine lv_iconst (v := (4 : Int32)) hx hb dX9_carryOut_37 (by decide) ?_
    refine lv_iload_n hx hb dX9_carryOut_38 rfl (lv_at hl 1 rfl) ?_
    refine lv_imul hx hb dX9_carryOut_39 ?_
    obtain ⟨⟨zv2, zI3⟩, ze4, hf⟩ := nn_some hf
    refine x_ci (r := zv2) (I1 := zI3) (X1 := X) (x_runV (As := [.int ((4 : Int32) * zx1)]) (rest := []) C0 (c9_does l E G fl X I zx0 ((4 : Int32) * zx1) zt0 ze4) hw 9 zt0 (by decide) rfl wd176 wd741 wd742 wd743 wd612 ⟨rfl, rfl⟩ hy9_does ⟨Nat.le_of_ble_eq_true rfl, Nat.le_of_ble_eq_true rfl⟩ rfl hl.1 (Nat.le_of_ble_eq_true rfl) ⟨Nat.zero_le _, Nat.zero_le _⟩ dX9_carryOut_40) hw (fun H locs hw => ?_)
    refine lv_if_lt (tgt := 52) hx hb dX9_carryOut_43 (by decide) (fun zc5 => ?_) (fun zc5 => ?_)
    · have hf := ite_t hf zc5
      exact w9_carryOut_52 C0 hr hz fl zI3 _ _ _ zx0 zx1 zt0 hw (lv_sub hl [0, 1] rfl) hf
    · have hf := ite_f hf zc5
      obtain ⟨zv6, ezv6⟩ : ∃ y : Int32, y = zx1 + 1 := ⟨_, rfl⟩
      have hf := lt_at hf ezv6
      refine lv_iinc (v := zv6) (lv' := [(1, .int zv6), (0, .ref zx0)]) hx hb dX9_carryOut_46 hl (k := 1) rfl (by rw [ezv6]; rfl) (by decide) rfl (fun ls hl => ?_)
      refine lv_goto (tgt := 28) hx hb dX9_carryOut_49 (by decide) ?_
      exact zhr28 zI3 _ _ _ zx0 zv6 zt0 hw (lv_sub hl [1, 0] rfl) hf
theorem w9_carryOut_28 {p : Program} {l : Launch} {e : Env} {s : State} {m : MethodId} {args : Array Value} {below : List Frame} {meth : Method} {c : Code} {E : EN} {G : GM} {X : Xm} (C0 : CX p s m args meth c E cX9_carryOut RX9 2) (hr : meth.sig.returnType = (some .int)) (hz : s.heap.size + 0 ≤ eB E + G.1) {rr : Int32 × Im} (fl : Nat) : ∀ (n : Nat) (I : Im) (H : Heap) (locs : List Loc) (ls : Array Slot) (zx0 : Nat) (zx1 : Int32) (zt0 : okA E G 9 zx0), WD E G I X s.heap H locs → lv_has ls 2 [(0, .ref zx0), (1, .int zx1)] → m9_carryOut_28 fl G.2.2 X n I zx0 zx1 = some rr → W p l e ({ frames := 6, cells := 0, slots := 0, locals := 137 } : Room) s m args below meth c H locs 0 0 (MQ below (QI E G rr.1 rr.2 X) args s 0 0 (eA E)) (F0 m 28 ls []) := by
  intro n
  induction n with
  | zero => intro I H locs ls zx0 zx1 zt0 hw hl hf; exact absurd (show (none : Option (Int32 × Im)) = some rr from hf) (by simp)
  | succ n ih => intro I H locs ls zx0 zx1 zt0 hw hl hf; exact w9_carryOut_28b C0 hr hz fl _ ih I H locs ls zx0 zx1 zt0 hw hl hf
noncomputable def m9_carryOut (fl : Nat) (len : Nat → Nat) (X : Xm) (I : Im) (zx0 : Nat) : Option (Int32 × Im) :=
  nn (m9_fault fl len X I zx0) fun ⟨zv1, zI2⟩ =>
  if zv1 = (-6 : Int32) then
    nn (m9_changes fl len X zI2 zx0) fun zI5 =>
    lt (pF zI5 152 zx0 (0 : Int32)) fun zI7 =>
    lt (pF zI7 150 zx0 (1 : Int32)) fun zI8 =>
    m9_carryOut_28 fl len X fl zI8 zx0 (0 : Int32)
  else
    some ((-3 : Int32), zI2)
theorem hy9_carryOut : yX9_carryOut.cls = RX9 ∧ yX9_carryOut.cls ≠ "java/lang/invoke/MethodHandle" ∧ yX9_carryOut.cls ≠ "java/lang/invoke/VarHandle" ∧ (parseMethodDescriptor yX9_carryOut.desc).map (fun d => d.parameters.length) = some 0 := ⟨rfl, by decide +kernel, by decide +kernel, by decide +kernel⟩
set_option maxHeartbeats 4000000 in
set_option maxRecDepth 100000 in
theorem c9_carryOut (l : Launch) (E : EN) (G : GM) (fl : Nat) (X : Xm) (I : Im) (zx0 : Nat) (zt0 : okA E G 9 zx0) {rr : Int32 × Im} (hf : m9_carryOut fl G.2.2 X I zx0 = some rr) : MT l yX9_carryOut cX9_carryOut 2 (some .int) ({ frames := 6, cells := 0, slots := 0, locals := 137 } : Room) E G I X [.ref zx0] (QI E G rr.1 rr.2 X) 0 0 := by
  refine Met.ofW (cc := cX9_carryOut) (maxL := 2) (ret := (some .int)) (by decide +kernel) rfl ?_
  intro p e s m args below meth c s₁ B hml hv
  obtain ⟨rfl, hw0, hSE⟩ := hv
  have C0 : CX p s m ([.ref zx0] : List Value).toArray meth c E cX9_carryOut RX9 2 := ⟨B.exec, B.bytes, hml, findClass_of_methodNamed B.named, fun w hw => atoms_spec (ws := WS yX9_carryOut cX9_carryOut 2 (some .int)) B.pre w (List.mem_cons_of_mem _ hw), B.notSynchronized, hSE⟩
  have hz : s.heap.size + 0 ≤ eB E + G.1 := Nat.le_of_eq hw0.2.1
  have hw : WD E G I X s.heap s.heap [] := ⟨hw0, va_S.rf⟩
  have hr := B.returns
  have hx := C0.1; have hb := C0.2.1; have hml := C0.2.2.1; have hown := C0.2.2.2.1; have hts := C0.2.2.2.2.1
  have hl := lv_entry ([.ref zx0]) (n := 2) (Nat.le_of_ble_eq_true rfl)
  rw [lg_entry_eq]
  generalize (lg_sl ([.ref zx0]) ++ List.replicate (2 - (lg_sl ([.ref zx0])).length) Slot.unset).toArray = ls at hl ⊢
  have hl : lv_has ls 2 [(0, .ref zx0)] := hl
  unfold m9_carryOut at hf
  refine lv_aload_n hx hb dX9_carryOut_0 rfl (lv_at hl 0 rfl) ?_
  obtain ⟨⟨zv1, zI2⟩, ze3, hf⟩ := nn_some hf
  refine x_ci (r := zv1) (I1 := zI2) (X1 := X) (x_runV (As := []) (rest := []) C0 (c9_fault l E G fl X I zx0 zt0 ze3) hw 9 zt0 (by decide) rfl wd175 wd738 wd739 wd740 wd612 ⟨rfl, rfl⟩ hy9_fault ⟨Nat.le_of_ble_eq_true rfl, Nat.le_of_ble_eq_true rfl⟩ rfl hl.1 (Nat.le_of_ble_eq_true rfl) ⟨Nat.zero_le _, Nat.zero_le _⟩ dX9_carryOut_1) hw (fun H locs hw => ?_)
  refine lv_bipush (v := (-6 : Int32)) hx hb dX9_carryOut_4 (by decide) ?_
  refine lv_icmp_eq (tgt := 12) hx hb dX9_carryOut_6 (by decide) (fun zc4 => ?_) (fun zc4 => ?_)
  · have hf := ite_t hf zc4
    refine lv_aload_n hx hb dX9_carryOut_12 rfl (lv_at hl 0 rfl) ?_
    obtain ⟨zI5, ze6, hf⟩ := nn_some hf
    refine x_cv (I1 := zI5) (X1 := X) (x_runV (As := []) (rest := []) C0 (c9_changes l E G fl X zI2 zx0 zt0 ze6) hw 9 zt0 (by decide) rfl wd114 wd662 wd663 wd664 wd612 ⟨rfl, rfl⟩ hy9_changes ⟨Nat.le_of_ble_eq_true rfl, Nat.le_of_ble_eq_true rfl⟩ rfl hl.1 (Nat.le_of_ble_eq_true rfl) ⟨Nat.zero_le _, Nat.zero_le _⟩ dX9_carryOut_13) hw (fun H locs hw => ?_)
    refine lv_aload_n hx hb dX9_carryOut_16 rfl (lv_at hl 0 rfl) ?_
    refine lv_iconst (v := (0 : Int32)) hx hb dX9_carryOut_17 (by decide) ?_
    obtain ⟨zI7, ezI7⟩ : ∃ y : Im, y = pF zI5 152 zx0 (0 : Int32) := ⟨_, rfl⟩
    have hf := lt_at hf ezI7
    refine xp_9_8 C0 hz hw zt0 rfl rfl wd689 dX9_carryOut_18 ezI7 (fun H locs hw => ?_)
    refine lv_aload_n hx hb dX9_carryOut_21 rfl (lv_at hl 0 rfl) ?_
    refine lv_iconst (v := (1 : Int32)) hx hb dX9_carryOut_22 (by decide) ?_
    obtain ⟨zI8, ezI8⟩ : ∃ y : Im, y = pF zI7 150 zx0 (1 : Int32) := ⟨_, rfl⟩
    have hf := lt_at hf ezI8
    refine xp_9_6 C0 hz hw zt0 (by decide) (by decide) wd608 dX9_carryOut_23 ezI8 (fun H locs hw => ?_)
    refine lv_iconst (v := (0 : Int32)) hx hb dX9_carryOut_26 (by decide) ?_
    refine lv_istore_n (lv' := [(1, .int (0 : Int32)), (0, .ref zx0)]) hx hb dX9_carryOut_27 rfl hl (by decide) rfl (fun ls hl => ?_)
    exact w9_carryOut_28 C0 hr hz fl fl zI8 _ _ _ zx0 (0 : Int32) zt0 hw (lv_sub hl [1, 0] rfl) hf
  · have hf := ite_f hf zc4
    refine lv_bipush (v := (-3 : Int32)) hx hb dX9_carryOut_9 (by decide) ?_
    obtain rfl := Option.some.inj hf
    exact x_iret C0 hr hw dX9_carryOut_11
noncomputable def m9_undo_22b (fl : Nat) (len : Nat → Nat) (X : Xm) (zr22 : Im → Nat → Int32 → Option (Int32 × Im)) (I : Im) (zx0 : Nat) (zx1 : Int32) : Option (Int32 × Im) :=
  if (1620 : Int32) ≤ zx1 then
    some ((gF I 149 zx0), I)
  else
    nn (gR X 144 zx0) fun zv2 =>
    nn (gR X 145 zx0) fun zv3 =>
    ck (inb (((1620 : Int32) * (gF I 149 zx0)) + zx1) (len zv3) = true) <|
    ck (inb zx1 (len zv2) = true) <|
    lt (pA I zv2 (zx1).toNatClampNeg (gA I zv3 ((((1620 : Int32) * (gF I 149 zx0)) + zx1)).toNatClampNeg)) fun zI6 =>
    lt (zx1 + 1) fun zv7 =>
    zr22 zI6 zx0 zv7
noncomputable def m9_undo_22 (fl : Nat) (len : Nat → Nat) (X : Xm) (n : Nat) : Im → Nat → Int32 → Option (Int32 × Im) :=
  Nat.rec (fun _ _ _ => none) (fun _ r => m9_undo_22b fl len X r) n
set_option maxHeartbeats 4000000 in
set_option maxRecDepth 100000 in
theorem w9_undo_22b {p : Program} {l : Launch} {e : Env} {s : State} {m : MethodId} {args : Array Value} {below : List Frame} {meth : Method} {c : Code} {E : EN} {G : GM} {X : Xm} (C0 : CX p s m args meth c E cX9_undo RX9 2) (hr : meth.sig.returnType = (some .int)) (hz : s.heap.size + 0 ≤ eB E + G.1) {rr : Int32 × Im} (fl : Nat) (zr22 : Im → Nat → Int32 → Option (Int32 × Im)) (zhr22 : ∀ (I : Im) (H : Heap) (locs : List Loc) (ls : Array Slot) (zx0 : Nat) (zx1 : Int32) (zt0 : okA E G 9 zx0), WD E G I X s.heap H locs → lv_has ls 2 [(0, .ref zx0), (1, .int zx1)] → zr22 I zx0 zx1 = some rr → W p l e ({ frames := 0, cells := 0, slots := 0, locals := 0 } : Room) s m args below meth c H locs 0 0 (MQ below (QI E G rr.1 rr.2 X) args s 0 0 (eA E)) (F0 m 22 ls [])) : ∀ (I : Im) (H : Heap) (locs : List Loc) (ls : Array Slot) (zx0 : Nat) (zx1 : Int32) (zt0 : okA E G 9 zx0), WD E G I X s.heap H locs → lv_has ls 2 [(0, .ref zx0), (1, .int zx1)] → m9_undo_22b fl G.2.2 X zr22 I zx0 zx1 = some rr → W p l e ({ frames := 0, cells := 0, slots := 0, locals := 0 } : Room) s m args below meth c H locs 0 0 (MQ below (QI E G rr.1 rr.2 X) args s 0 0 (eA E)) (F0 m 22 ls []) := by
  intro I H locs ls zx0 zx1 zt0 hw hl hf
  unfold m9_undo_22b at hf
  have hx := C0.1; have hb := C0.2.1; have hml := C0.2.2.1; have hown := C0.2.2.2.1; have hts := C0.2.2.2.2.1
  refine lv_iload_n hx hb dX9_undo_22 rfl (lv_at hl 1 rfl) ?_
  refine lv_sipush (v := (1620 : Int32)) hx hb dX9_undo_23 (by decide) ?_
  refine lv_icmp_ge (tgt := 56) hx hb dX9_undo_26 (by decide) (fun zc1 => ?_) (fun zc1 => ?_)
  · have hf := ite_t hf zc1
    refine lv_aload_n hx hb dX9_undo_56 rfl (lv_at hl 0 rfl) ?_
    refine xg_9_5 C0 hw zt0 wd609 dX9_undo_57 ?_
    obtain rfl := Option.some.inj hf
    exact x_iret C0 hr hw dX9_undo_60
  · have hf := ite_f hf zc1
    refine lv_aload_n hx hb dX9_undo_29 rfl (lv_at hl 0 rfl) ?_
    obtain ⟨zv2, ezv2, hf⟩ := nn_some hf
    have tzv2 : okA E G 11 zv2 := wt_r hw ezv2
    refine xg_9_0 C0 hw zt0 wd601 ezv2 dX9_undo_30 ?_
    refine lv_iload_n hx hb dX9_undo_33 rfl (lv_at hl 1 rfl) ?_
    refine lv_aload_n hx hb dX9_undo_34 rfl (lv_at hl 0 rfl) ?_
    obtain ⟨zv3, ezv3, hf⟩ := nn_some hf
    have tzv3 : okA E G 11 zv3 := wt_r hw ezv3
    refine xg_9_1 C0 hw zt0 wd602 ezv3 dX9_undo_35 ?_
    refine lv_sipush (v := (1620 : Int32)) hx hb dX9_undo_38 (by decide) ?_
    refine lv_aload_n hx hb dX9_undo_41 rfl (lv_at hl 0 rfl) ?_
    refine xg_9_5 C0 hw zt0 wd609 dX9_undo_42 ?_
    refine lv_imul hx hb dX9_undo_45 ?_
    refine lv_iload_n hx hb dX9_undo_46 rfl (lv_at hl 1 rfl) ?_
    refine lv_iadd hx hb dX9_undo_47 ?_
    obtain ⟨zhb4, hf⟩ := ck_some hf
    refine x_iald C0 hw tzv3 zhb4 dX9_undo_48 ?_
    obtain ⟨zhb5, hf⟩ := ck_some hf
    obtain ⟨zI6, ezI6⟩ : ∃ y : Im, y = pA I zv2 (zx1).toNatClampNeg (gA I zv3 ((((1620 : Int32) * (gF I 149 zx0)) + zx1)).toNatClampNeg) := ⟨_, rfl⟩
    have hf := lt_at hf ezI6
    refine x_iast C0 hz hw tzv2 zhb5 dX9_undo_49 ezI6 (fun H locs hw => ?_)
    obtain ⟨zv7, ezv7⟩ : ∃ y : Int32, y = zx1 + 1 := ⟨_, rfl⟩
    have hf := lt_at hf ezv7
    refine lv_iinc (v := zv7) (lv' := [(1, .int zv7), (0, .ref zx0)]) hx hb dX9_undo_50 hl (k := 1) rfl (by rw [ezv7]; rfl) (by decide) rfl (fun ls hl => ?_)
    refine lv_goto (tgt := 22) hx hb dX9_undo_53 (by decide) ?_
    exact zhr22 zI6 _ _ _ zx0 zv7 zt0 hw (lv_sub hl [1, 0] rfl) hf
theorem w9_undo_22 {p : Program} {l : Launch} {e : Env} {s : State} {m : MethodId} {args : Array Value} {below : List Frame} {meth : Method} {c : Code} {E : EN} {G : GM} {X : Xm} (C0 : CX p s m args meth c E cX9_undo RX9 2) (hr : meth.sig.returnType = (some .int)) (hz : s.heap.size + 0 ≤ eB E + G.1) {rr : Int32 × Im} (fl : Nat) : ∀ (n : Nat) (I : Im) (H : Heap) (locs : List Loc) (ls : Array Slot) (zx0 : Nat) (zx1 : Int32) (zt0 : okA E G 9 zx0), WD E G I X s.heap H locs → lv_has ls 2 [(0, .ref zx0), (1, .int zx1)] → m9_undo_22 fl G.2.2 X n I zx0 zx1 = some rr → W p l e ({ frames := 0, cells := 0, slots := 0, locals := 0 } : Room) s m args below meth c H locs 0 0 (MQ below (QI E G rr.1 rr.2 X) args s 0 0 (eA E)) (F0 m 22 ls []) := by
  intro n
  induction n with
  | zero => intro I H locs ls zx0 zx1 zt0 hw hl hf; exact absurd (show (none : Option (Int32 × Im)) = some rr from hf) (by simp)
  | succ n ih => intro I H locs ls zx0 zx1 zt0 hw hl hf; exact w9_undo_22b C0 hr hz fl _ ih I H locs ls zx0 zx1 zt0 hw hl hf
noncomputable def m9_undo (fl : Nat) (len : Nat → Nat) (X : Xm) (I : Im) (zx0 : Nat) : Option (Int32 × Im) :=
  if (gF I 149 zx0) = 0 then
    some ((-5 : Int32), I)
  else
    lt (pF I 149 zx0 ((gF I 149 zx0) - (1 : Int32))) fun zI2 =>
    m9_undo_22 fl len X fl zI2 zx0 (0 : Int32)
theorem hy9_undo : yX9_undo.cls = RX9 ∧ yX9_undo.cls ≠ "java/lang/invoke/MethodHandle" ∧ yX9_undo.cls ≠ "java/lang/invoke/VarHandle" ∧ (parseMethodDescriptor yX9_undo.desc).map (fun d => d.parameters.length) = some 0 := ⟨rfl, by decide +kernel, by decide +kernel, by decide +kernel⟩
set_option maxHeartbeats 4000000 in
set_option maxRecDepth 100000 in
theorem c9_undo (l : Launch) (E : EN) (G : GM) (fl : Nat) (X : Xm) (I : Im) (zx0 : Nat) (zt0 : okA E G 9 zx0) {rr : Int32 × Im} (hf : m9_undo fl G.2.2 X I zx0 = some rr) : MT l yX9_undo cX9_undo 2 (some .int) ({ frames := 0, cells := 0, slots := 0, locals := 0 } : Room) E G I X [.ref zx0] (QI E G rr.1 rr.2 X) 0 0 := by
  refine Met.ofW (cc := cX9_undo) (maxL := 2) (ret := (some .int)) (by decide +kernel) rfl ?_
  intro p e s m args below meth c s₁ B hml hv
  obtain ⟨rfl, hw0, hSE⟩ := hv
  have C0 : CX p s m ([.ref zx0] : List Value).toArray meth c E cX9_undo RX9 2 := ⟨B.exec, B.bytes, hml, findClass_of_methodNamed B.named, fun w hw => atoms_spec (ws := WS yX9_undo cX9_undo 2 (some .int)) B.pre w (List.mem_cons_of_mem _ hw), B.notSynchronized, hSE⟩
  have hz : s.heap.size + 0 ≤ eB E + G.1 := Nat.le_of_eq hw0.2.1
  have hw : WD E G I X s.heap s.heap [] := ⟨hw0, va_S.rf⟩
  have hr := B.returns
  have hx := C0.1; have hb := C0.2.1; have hml := C0.2.2.1; have hown := C0.2.2.2.1; have hts := C0.2.2.2.2.1
  have hl := lv_entry ([.ref zx0]) (n := 2) (Nat.le_of_ble_eq_true rfl)
  rw [lg_entry_eq]
  generalize (lg_sl ([.ref zx0]) ++ List.replicate (2 - (lg_sl ([.ref zx0])).length) Slot.unset).toArray = ls at hl ⊢
  have hl : lv_has ls 2 [(0, .ref zx0)] := hl
  unfold m9_undo at hf
  refine lv_aload_n hx hb dX9_undo_0 rfl (lv_at hl 0 rfl) ?_
  refine xg_9_5 C0 hw zt0 wd609 dX9_undo_1 ?_
  refine lv_if_ne (tgt := 10) hx hb dX9_undo_4 (by decide) (fun zc1 => ?_) (fun zc1 => ?_)
  · have hf := ite_f hf zc1
    refine lv_aload_n hx hb dX9_undo_10 rfl (lv_at hl 0 rfl) ?_
    refine lv_dup hx hb dX9_undo_11 rfl ?_
    refine xg_9_5 C0 hw zt0 wd609 dX9_undo_12 ?_
    refine lv_iconst (v := (1 : Int32)) hx hb dX9_undo_15 (by decide) ?_
    refine lv_isub hx hb dX9_undo_16 ?_
    obtain ⟨zI2, ezI2⟩ : ∃ y : Im, y = pF I 149 zx0 ((gF I 149 zx0) - (1 : Int32)) := ⟨_, rfl⟩
    have hf := lt_at hf ezI2
    refine xp_9_5 C0 hz hw zt0 rfl rfl wd609 dX9_undo_17 ezI2 (fun H locs hw => ?_)
    refine lv_iconst (v := (0 : Int32)) hx hb dX9_undo_20 (by decide) ?_
    refine lv_istore_n (lv' := [(1, .int (0 : Int32)), (0, .ref zx0)]) hx hb dX9_undo_21 rfl hl (by decide) rfl (fun ls hl => ?_)
    exact w9_undo_22 C0 hr hz fl fl zI2 _ _ _ zx0 (0 : Int32) zt0 hw (lv_sub hl [1, 0] rfl) hf
  · have hf := ite_t hf zc1
    refine lv_bipush (v := (-5 : Int32)) hx hb dX9_undo_7 (by decide) ?_
    obtain rfl := Option.some.inj hf
    exact x_iret C0 hr hw dX9_undo_9
noncomputable def m9_save_21b (fl : Nat) (len : Nat → Nat) (X : Xm) (zr21 : Im → Nat → Int32 → Int32 → Nat → Option (Int32 × Im)) (I : Im) (zx0 : Nat) (zx1 : Int32) (zx2 : Int32) (p_147 : Nat) : Option (Int32 × Im) :=
  if (1620 : Int32) ≤ zx2 then
    nn (gR X 144 zx0) fun zv2 =>
    ck (inb (5 : Int32) (len zv2) = true) <|
    some ((gA I zv2 ((5 : Int32)).toNatClampNeg), I)
  else
    nn (gR X 146 zx0) fun zv4 =>
    nn (gR X 144 zx0) fun zv5 =>
    ck (inb zx2 (len zv5) = true) <|
    ck (inb (((1620 : Int32) * zx1) + zx2) (len zv4) = true) <|
    lt (pA I zv4 ((((1620 : Int32) * zx1) + zx2)).toNatClampNeg (gA I zv5 (zx2).toNatClampNeg)) fun zI8 =>
    lt (zx2 + 1) fun zv9 =>
    zr21 zI8 zx0 zx1 zv9 p_147
noncomputable def m9_save_21 (fl : Nat) (len : Nat → Nat) (X : Xm) (n : Nat) : Im → Nat → Int32 → Int32 → Nat → Option (Int32 × Im) :=
  Nat.rec (fun _ _ _ _ _ => none) (fun _ r => m9_save_21b fl len X r) n
set_option maxHeartbeats 4000000 in
set_option maxRecDepth 100000 in
theorem w9_save_21b {p : Program} {l : Launch} {e : Env} {s : State} {m : MethodId} {args : Array Value} {below : List Frame} {meth : Method} {c : Code} {E : EN} {G : GM} {X : Xm} (C0 : CX p s m args meth c E cX9_save RX9 3) (hr : meth.sig.returnType = (some .int)) (hz : s.heap.size + 0 ≤ eB E + G.1) {rr : Int32 × Im} (fl : Nat) (zr21 : Im → Nat → Int32 → Int32 → Nat → Option (Int32 × Im)) (zhr21 : ∀ (I : Im) (H : Heap) (locs : List Loc) (ls : Array Slot) (zx0 : Nat) (zx1 : Int32) (zx2 : Int32) (p_147 : Nat) (zt0 : okA E G 9 zx0) (ep_147 : gR X 147 zx0 = some p_147) (tp_147 : okA E G 12 p_147), WD E G I X s.heap H locs → lv_has ls 3 [(0, .ref zx0), (1, .int zx1), (2, .int zx2)] → zr21 I zx0 zx1 zx2 p_147 = some rr → W p l e ({ frames := 1, cells := 0, slots := 0, locals := 22 } : Room) s m args below meth c H locs 0 0 (MQ below (QI E G rr.1 rr.2 X) args s 0 0 (eA E)) (F0 m 21 ls [])) : ∀ (I : Im) (H : Heap) (locs : List Loc) (ls : Array Slot) (zx0 : Nat) (zx1 : Int32) (zx2 : Int32) (p_147 : Nat) (zt0 : okA E G 9 zx0) (ep_147 : gR X 147 zx0 = some p_147) (tp_147 : okA E G 12 p_147), WD E G I X s.heap H locs → lv_has ls 3 [(0, .ref zx0), (1, .int zx1), (2, .int zx2)] → m9_save_21b fl G.2.2 X zr21 I zx0 zx1 zx2 p_147 = some rr → W p l e ({ frames := 1, cells := 0, slots := 0, locals := 22 } : Room) s m args below meth c H locs 0 0 (MQ below (QI E G rr.1 rr.2 X) args s 0 0 (eA E)) (F0 m 21 ls []) := by
  intro I H locs ls zx0 zx1 zx2 p_147 zt0 ep_147 tp_147 hw hl hf
  unfold m9_save_21b at hf
  have hx := C0.1; have hb := C0.2.1; have hml := C0.2.2.1; have hown := C0.2.2.2.1; have hts := C0.2.2.2.2.1
  refine lv_iload_n hx hb dX9_save_21 rfl (lv_at hl 2 rfl) ?_
  refine lv_sipush (v := (1620 : Int32)) hx hb dX9_save_22 (by decide) ?_
  refine lv_icmp_ge (tgt := 52) hx hb dX9_save_25 (by decide) (fun zc1 => ?_) (fun zc1 => ?_)
  · have hf := ite_t hf zc1
    refine lv_aload_n hx hb dX9_save_52 rfl (lv_at hl 0 rfl) ?_
    obtain ⟨zv2, ezv2, hf⟩ := nn_some hf
    have tzv2 : okA E G 11 zv2 := wt_r hw ezv2
    refine xg_9_0 C0 hw zt0 wd601 ezv2 dX9_save_53 ?_
    refine lv_iconst (v := (5 : Int32)) hx hb dX9_save_56 (by decide) ?_
    obtain ⟨zhb3, hf⟩ := ck_some hf
    refine x_iald C0 hw tzv2 zhb3 dX9_save_57 ?_
    obtain rfl := Option.some.inj hf
    exact x_iret C0 hr hw dX9_save_58
  · have hf := ite_f hf zc1
    refine lv_aload_n hx hb dX9_save_28 rfl (lv_at hl 0 rfl) ?_
    obtain ⟨zv4, ezv4, hf⟩ := nn_some hf
    have tzv4 : okA E G 11 zv4 := wt_r hw ezv4
    refine xg_9_2 C0 hw zt0 wd603 ezv4 dX9_save_29 ?_
    refine lv_sipush (v := (1620 : Int32)) hx hb dX9_save_32 (by decide) ?_
    refine lv_iload_n hx hb dX9_save_35 rfl (lv_at hl 1 rfl) ?_
    refine lv_imul hx hb dX9_save_36 ?_
    refine lv_iload_n hx hb dX9_save_37 rfl (lv_at hl 2 rfl) ?_
    refine lv_iadd hx hb dX9_save_38 ?_
    refine lv_aload_n hx hb dX9_save_39 rfl (lv_at hl 0 rfl) ?_
    obtain ⟨zv5, ezv5, hf⟩ := nn_some hf
    have tzv5 : okA E G 11 zv5 := wt_r hw ezv5
    refine xg_9_0 C0 hw zt0 wd601 ezv5 dX9_save_40 ?_
    refine lv_iload_n hx hb dX9_save_43 rfl (lv_at hl 2 rfl) ?_
    obtain ⟨zhb6, hf⟩ := ck_some hf
    refine x_iald C0 hw tzv5 zhb6 dX9_save_44 ?_
    obtain ⟨zhb7, hf⟩ := ck_some hf
    obtain ⟨zI8, ezI8⟩ : ∃ y : Im, y = pA I zv4 ((((1620 : Int32) * zx1) + zx2)).toNatClampNeg (gA I zv5 (zx2).toNatClampNeg) := ⟨_, rfl⟩
    have hf := lt_at hf ezI8
    refine x_iast C0 hz hw tzv4 zhb7 dX9_save_45 ezI8 (fun H locs hw => ?_)
    obtain ⟨zv9, ezv9⟩ : ∃ y : Int32, y = zx2 + 1 := ⟨_, rfl⟩
    have hf := lt_at hf ezv9
    refine lv_iinc (v := zv9) (lv' := [(2, .int zv9), (0, .ref zx0), (1, .int zx1)]) hx hb dX9_save_46 hl (k := 2) rfl (by rw [ezv9]; rfl) (by decide) rfl (fun ls hl => ?_)
    refine lv_goto (tgt := 21) hx hb dX9_save_49 (by decide) ?_
    exact zhr21 zI8 _ _ _ zx0 zx1 zv9 p_147 zt0 ep_147 tp_147 hw (lv_sub hl [1, 2, 0] rfl) hf
theorem w9_save_21 {p : Program} {l : Launch} {e : Env} {s : State} {m : MethodId} {args : Array Value} {below : List Frame} {meth : Method} {c : Code} {E : EN} {G : GM} {X : Xm} (C0 : CX p s m args meth c E cX9_save RX9 3) (hr : meth.sig.returnType = (some .int)) (hz : s.heap.size + 0 ≤ eB E + G.1) {rr : Int32 × Im} (fl : Nat) : ∀ (n : Nat) (I : Im) (H : Heap) (locs : List Loc) (ls : Array Slot) (zx0 : Nat) (zx1 : Int32) (zx2 : Int32) (p_147 : Nat) (zt0 : okA E G 9 zx0) (ep_147 : gR X 147 zx0 = some p_147) (tp_147 : okA E G 12 p_147), WD E G I X s.heap H locs → lv_has ls 3 [(0, .ref zx0), (1, .int zx1), (2, .int zx2)] → m9_save_21 fl G.2.2 X n I zx0 zx1 zx2 p_147 = some rr → W p l e ({ frames := 1, cells := 0, slots := 0, locals := 22 } : Room) s m args below meth c H locs 0 0 (MQ below (QI E G rr.1 rr.2 X) args s 0 0 (eA E)) (F0 m 21 ls []) := by
  intro n
  induction n with
  | zero => intro I H locs ls zx0 zx1 zx2 p_147 zt0 ep_147 tp_147 hw hl hf; exact absurd (show (none : Option (Int32 × Im)) = some rr from hf) (by simp)
  | succ n ih => intro I H locs ls zx0 zx1 zx2 p_147 zt0 ep_147 tp_147 hw hl hf; exact w9_save_21b C0 hr hz fl _ ih I H locs ls zx0 zx1 zx2 p_147 zt0 ep_147 tp_147 hw hl hf
noncomputable def m9_save (fl : Nat) (len : Nat → Nat) (X : Xm) (I : Im) (zx0 : Nat) (zx1 : Int32) : Option (Int32 × Im) :=
  nn (m9_in fl len X I zx1 (0 : Int32) (1 : Int32)) fun zv1 =>
  if zv1 = 0 then
    some ((-2 : Int32), I)
  else
    nn (gR X 147 zx0) fun zv4 =>
    ck (inb zx1 (len zv4) = true) <|
    lt (pA I zv4 (zx1).toNatClampNeg (1 : Int32)) fun zI6 =>
    m9_save_21 fl len X fl zI6 zx0 zx1 (0 : Int32) zv4
theorem hy9_save : yX9_save.cls = RX9 ∧ yX9_save.cls ≠ "java/lang/invoke/MethodHandle" ∧ yX9_save.cls ≠ "java/lang/invoke/VarHandle" ∧ (parseMethodDescriptor yX9_save.desc).map (fun d => d.parameters.length) = some 1 := ⟨rfl, by decide +kernel, by decide +kernel, by decide +kernel⟩
set_option maxHeartbeats 4000000 in
set_option maxRecDepth 100000 in
theorem c9_save (l : Launch) (E : EN) (G : GM) (fl : Nat) (X : Xm) (I : Im) (zx0 : Nat) (zx1 : Int32) (zt0 : okA E G 9 zx0) {rr : Int32 × Im} (hf : m9_save fl G.2.2 X I zx0 zx1 = some rr) : MT l yX9_save cX9_save 3 (some .int) ({ frames := 1, cells := 0, slots := 0, locals := 22 } : Room) E G I X [.ref zx0, .int zx1] (QI E G rr.1 rr.2 X) 0 0 := by
  refine Met.ofW (cc := cX9_save) (maxL := 3) (ret := (some .int)) (by decide +kernel) rfl ?_
  intro p e s m args below meth c s₁ B hml hv
  obtain ⟨rfl, hw0, hSE⟩ := hv
  have C0 : CX p s m ([.ref zx0, .int zx1] : List Value).toArray meth c E cX9_save RX9 3 := ⟨B.exec, B.bytes, hml, findClass_of_methodNamed B.named, fun w hw => atoms_spec (ws := WS yX9_save cX9_save 3 (some .int)) B.pre w (List.mem_cons_of_mem _ hw), B.notSynchronized, hSE⟩
  have hz : s.heap.size + 0 ≤ eB E + G.1 := Nat.le_of_eq hw0.2.1
  have hw : WD E G I X s.heap s.heap [] := ⟨hw0, va_S.rf⟩
  have hr := B.returns
  have hx := C0.1; have hb := C0.2.1; have hml := C0.2.2.1; have hown := C0.2.2.2.1; have hts := C0.2.2.2.2.1
  have hl := lv_entry ([.ref zx0, .int zx1]) (n := 3) (Nat.le_of_ble_eq_true rfl)
  rw [lg_entry_eq]
  generalize (lg_sl ([.ref zx0, .int zx1]) ++ List.replicate (3 - (lg_sl ([.ref zx0, .int zx1])).length) Slot.unset).toArray = ls at hl ⊢
  have hl : lv_has ls 3 [(0, .ref zx0), (1, .int zx1)] := hl
  unfold m9_save at hf
  refine lv_iload_n hx hb dX9_save_0 rfl (lv_at hl 1 rfl) ?_
  refine lv_iconst (v := (0 : Int32)) hx hb dX9_save_1 (by decide) ?_
  refine lv_iconst (v := (1 : Int32)) hx hb dX9_save_2 (by decide) ?_
  obtain ⟨zv1, ze2, hf⟩ := nn_some hf
  refine x_ci (r := zv1) (I1 := I) (X1 := X) (x_runS (As := [.int zx1, .int (0 : Int32), .int (1 : Int32)]) (rest := []) C0 (c9_in l E G fl X I zx1 (0 : Int32) (1 : Int32) ze2) hw wd113 wd610 wd611 wd612 ⟨rfl, rfl⟩ hy9_in ⟨Nat.le_of_ble_eq_true rfl, Nat.le_of_ble_eq_true rfl⟩ rfl hl.1 (Nat.le_of_ble_eq_true rfl) ⟨Nat.zero_le _, Nat.zero_le _⟩ dX9_save_3) hw (fun H locs hw => ?_)
  refine lv_if_ne (tgt := 12) hx hb dX9_save_6 (by decide) (fun zc3 => ?_) (fun zc3 => ?_)
  · have hf := ite_f hf zc3
    refine lv_aload_n hx hb dX9_save_12 rfl (lv_at hl 0 rfl) ?_
    obtain ⟨zv4, ezv4, hf⟩ := nn_some hf
    have tzv4 : okA E G 12 zv4 := wt_r hw ezv4
    refine xg_9_3 C0 hw zt0 wd604 ezv4 dX9_save_13 ?_
    refine lv_iload_n hx hb dX9_save_16 rfl (lv_at hl 1 rfl) ?_
    refine lv_iconst (v := (1 : Int32)) hx hb dX9_save_17 (by decide) ?_
    obtain ⟨zhb5, hf⟩ := ck_some hf
    obtain ⟨zI6, ezI6⟩ : ∃ y : Im, y = pA I zv4 (zx1).toNatClampNeg (1 : Int32) := ⟨_, rfl⟩
    have hf := lt_at hf ezI6
    refine x_zast C0 hz hw tzv4 zhb5 (by decide) dX9_save_18 ezI6 (fun H locs hw => ?_)
    refine lv_iconst (v := (0 : Int32)) hx hb dX9_save_19 (by decide) ?_
    refine lv_istore_n (lv' := [(2, .int (0 : Int32)), (0, .ref zx0), (1, .int zx1)]) hx hb dX9_save_20 rfl hl (by decide) rfl (fun ls hl => ?_)
    exact w9_save_21 C0 hr hz fl fl zI6 _ _ _ zx0 zx1 (0 : Int32) zv4 zt0 ezv4 tzv4 hw (lv_sub hl [1, 2, 0] rfl) hf
  · have hf := ite_t hf zc3
    refine lv_bipush (v := (-2 : Int32)) hx hb dX9_save_9 (by decide) ?_
    obtain rfl := Option.some.inj hf
    exact x_iret C0 hr hw dX9_save_11
noncomputable def m9_restore_30b (fl : Nat) (len : Nat → Nat) (X : Xm) (zr30 : Im → Nat → Int32 → Int32 → Nat → Option (Int32 × Im)) (I : Im) (zx0 : Nat) (zx1 : Int32) (zx2 : Int32) (p_147 : Nat) : Option (Int32 × Im) :=
  if (1620 : Int32) ≤ zx2 then
    nn (gR X 144 zx0) fun zv2 =>
    ck (inb (5 : Int32) (len zv2) = true) <|
    some ((gA I zv2 ((5 : Int32)).toNatClampNeg), I)
  else
    nn (gR X 144 zx0) fun zv4 =>
    nn (gR X 146 zx0) fun zv5 =>
    ck (inb (((1620 : Int32) * zx1) + zx2) (len zv5) = true) <|
    ck (inb zx2 (len zv4) = true) <|
    lt (pA I zv4 (zx2).toNatClampNeg (gA I zv5 ((((1620 : Int32) * zx1) + zx2)).toNatClampNeg)) fun zI8 =>
    lt (zx2 + 1) fun zv9 =>
    zr30 zI8 zx0 zx1 zv9 p_147
noncomputable def m9_restore_30 (fl : Nat) (len : Nat → Nat) (X : Xm) (n : Nat) : Im → Nat → Int32 → Int32 → Nat → Option (Int32 × Im) :=
  Nat.rec (fun _ _ _ _ _ => none) (fun _ r => m9_restore_30b fl len X r) n
set_option maxHeartbeats 4000000 in
set_option maxRecDepth 100000 in
theorem w9_restore_30b {p : Program} {l : Launch} {e : Env} {s : State} {m : MethodId} {args : Array Value} {below : List Frame} {meth : Method} {c : Code} {E : EN} {G : GM} {X : Xm} (C0 : CX p s m args meth c E cX9_restore RX9 3) (hr : meth.sig.returnType = (some .int)) (hz : s.heap.size + 0 ≤ eB E + G.1) {rr : Int32 × Im} (fl : Nat) (zr30 : Im → Nat → Int32 → Int32 → Nat → Option (Int32 × Im)) (zhr30 : ∀ (I : Im) (H : Heap) (locs : List Loc) (ls : Array Slot) (zx0 : Nat) (zx1 : Int32) (zx2 : Int32) (p_147 : Nat) (zt0 : okA E G 9 zx0) (ep_147 : gR X 147 zx0 = some p_147) (tp_147 : okA E G 12 p_147), WD E G I X s.heap H locs → lv_has ls 3 [(0, .ref zx0), (1, .int zx1), (2, .int zx2)] → zr30 I zx0 zx1 zx2 p_147 = some rr → W p l e ({ frames := 1, cells := 0, slots := 0, locals := 22 } : Room) s m args below meth c H locs 0 0 (MQ below (QI E G rr.1 rr.2 X) args s 0 0 (eA E)) (F0 m 30 ls [])) : ∀ (I : Im) (H : Heap) (locs : List Loc) (ls : Array Slot) (zx0 : Nat) (zx1 : Int32) (zx2 : Int32) (p_147 : Nat) (zt0 : okA E G 9 zx0) (ep_147 : gR X 147 zx0 = some p_147) (tp_147 : okA E G 12 p_147), WD E G I X s.heap H locs → lv_has ls 3 [(0, .ref zx0), (1, .int zx1), (2, .int zx2)] → m9_restore_30b fl G.2.2 X zr30 I zx0 zx1 zx2 p_147 = some rr → W p l e ({ frames := 1, cells := 0, slots := 0, locals := 22 } : Room) s m args below meth c H locs 0 0 (MQ below (QI E G rr.1 rr.2 X) args s 0 0 (eA E)) (F0 m 30 ls []) := by
  intro I H locs ls zx0 zx1 zx2 p_147 zt0 ep_147 tp_147 hw hl hf
  unfold m9_restore_30b at hf
  have hx := C0.1; have hb := C0.2.1; have hml := C0.2.2.1; have hown := C0.2.2.2.1; have hts := C0.2.2.2.2.1
  refine lv_iload_n hx hb dX9_restore_30 rfl (lv_at hl 2 rfl) ?_
  refine lv_sipush (v := (1620 : Int32)) hx hb dX9_restore_31 (by decide) ?_
  refine lv_icmp_ge (tgt := 61) hx hb dX9_restore_34 (by decide) (fun zc1 => ?_) (fun zc1 => ?_)
  · have hf := ite_t hf zc1
    refine lv_aload_n hx hb dX9_restore_61 rfl (lv_at hl 0 rfl) ?_
    obtain ⟨zv2, ezv2, hf⟩ := nn_some hf
    have tzv2 : okA E G 11 zv2 := wt_r hw ezv2
    refine xg_9_0 C0 hw zt0 wd601 ezv2 dX9_restore_62 ?_
    refine lv_iconst (v := (5 : Int32)) hx hb dX9_restore_65 (by decide) ?_
    obtain ⟨zhb3, hf⟩ := ck_some hf
    refine x_iald C0 hw tzv2 zhb3 dX9_restore_66 ?_
    obtain rfl := Option.some.inj hf
    exact x_iret C0 hr hw dX9_restore_67
  · have hf := ite_f hf zc1
    refine lv_aload_n hx hb dX9_restore_37 rfl (lv_at hl 0 rfl) ?_
    obtain ⟨zv4, ezv4, hf⟩ := nn_some hf
    have tzv4 : okA E G 11 zv4 := wt_r hw ezv4
    refine xg_9_0 C0 hw zt0 wd601 ezv4 dX9_restore_38 ?_
    refine lv_iload_n hx hb dX9_restore_41 rfl (lv_at hl 2 rfl) ?_
    refine lv_aload_n hx hb dX9_restore_42 rfl (lv_at hl 0 rfl) ?_
    obtain ⟨zv5, ezv5, hf⟩ := nn_some hf
    have tzv5 : okA E G 11 zv5 := wt_r hw ezv5
    refine xg_9_2 C0 hw zt0 wd603 ezv5 dX9_restore_43 ?_
    refine lv_sipush (v := (1620 : Int32)) hx hb dX9_restore_46 (by decide) ?_
    refine lv_iload_n hx hb dX9_restore_49 rfl (lv_at hl 1 rfl) ?_
    refine lv_imul hx hb dX9_restore_50 ?_
    refine lv_iload_n hx hb dX9_restore_51 rfl (lv_at hl 2 rfl) ?_
    refine lv_iadd hx hb dX9_restore_52 ?_
    obtain ⟨zhb6, hf⟩ := ck_some hf
    refine x_iald C0 hw tzv5 zhb6 dX9_restore_53 ?_
    obtain ⟨zhb7, hf⟩ := ck_some hf
    obtain ⟨zI8, ezI8⟩ : ∃ y : Im, y = pA I zv4 (zx2).toNatClampNeg (gA I zv5 ((((1620 : Int32) * zx1) + zx2)).toNatClampNeg) := ⟨_, rfl⟩
    have hf := lt_at hf ezI8
    refine x_iast C0 hz hw tzv4 zhb7 dX9_restore_54 ezI8 (fun H locs hw => ?_)
    obtain ⟨zv9, ezv9⟩ : ∃ y : Int32, y = zx2 + 1 := ⟨_, rfl⟩
    have hf := lt_at hf ezv9
    refine lv_iinc (v := zv9) (lv' := [(2, .int zv9), (0, .ref zx0), (1, .int zx1)]) hx hb dX9_restore_55 hl (k := 2) rfl (by rw [ezv9]; rfl) (by decide) rfl (fun ls hl => ?_)
    refine lv_goto (tgt := 30) hx hb dX9_restore_58 (by decide) ?_
    exact zhr30 zI8 _ _ _ zx0 zx1 zv9 p_147 zt0 ep_147 tp_147 hw (lv_sub hl [1, 2, 0] rfl) hf
theorem w9_restore_30 {p : Program} {l : Launch} {e : Env} {s : State} {m : MethodId} {args : Array Value} {below : List Frame} {meth : Method} {c : Code} {E : EN} {G : GM} {X : Xm} (C0 : CX p s m args meth c E cX9_restore RX9 3) (hr : meth.sig.returnType = (some .int)) (hz : s.heap.size + 0 ≤ eB E + G.1) {rr : Int32 × Im} (fl : Nat) : ∀ (n : Nat) (I : Im) (H : Heap) (locs : List Loc) (ls : Array Slot) (zx0 : Nat) (zx1 : Int32) (zx2 : Int32) (p_147 : Nat) (zt0 : okA E G 9 zx0) (ep_147 : gR X 147 zx0 = some p_147) (tp_147 : okA E G 12 p_147), WD E G I X s.heap H locs → lv_has ls 3 [(0, .ref zx0), (1, .int zx1), (2, .int zx2)] → m9_restore_30 fl G.2.2 X n I zx0 zx1 zx2 p_147 = some rr → W p l e ({ frames := 1, cells := 0, slots := 0, locals := 22 } : Room) s m args below meth c H locs 0 0 (MQ below (QI E G rr.1 rr.2 X) args s 0 0 (eA E)) (F0 m 30 ls []) := by
  intro n
  induction n with
  | zero => intro I H locs ls zx0 zx1 zx2 p_147 zt0 ep_147 tp_147 hw hl hf; exact absurd (show (none : Option (Int32 × Im)) = some rr from hf) (by simp)
  | succ n ih => intro I H locs ls zx0 zx1 zx2 p_147 zt0 ep_147 tp_147 hw hl hf; exact w9_restore_30b C0 hr hz fl _ ih I H locs ls zx0 zx1 zx2 p_147 zt0 ep_147 tp_147 hw hl hf
noncomputable def m9_restore (fl : Nat) (len : Nat → Nat) (X : Xm) (I : Im) (zx0 : Nat) (zx1 : Int32) : Option (Int32 × Im) :=
  nn (m9_in fl len X I zx1 (0 : Int32) (1 : Int32)) fun zv1 =>
  if zv1 = 0 then
    some ((-2 : Int32), I)
  else
    nn (gR X 147 zx0) fun zv4 =>
    ck (inb zx1 (len zv4) = true) <|
    if (gA I zv4 (zx1).toNatClampNeg) = 0 then
      some ((-5 : Int32), I)
    else
      nn (m9_changes fl len X I zx0) fun zI7 =>
      m9_restore_30 fl len X fl zI7 zx0 zx1 (0 : Int32) zv4
theorem hy9_restore : yX9_restore.cls = RX9 ∧ yX9_restore.cls ≠ "java/lang/invoke/MethodHandle" ∧ yX9_restore.cls ≠ "java/lang/invoke/VarHandle" ∧ (parseMethodDescriptor yX9_restore.desc).map (fun d => d.parameters.length) = some 1 := ⟨rfl, by decide +kernel, by decide +kernel, by decide +kernel⟩
set_option maxHeartbeats 4000000 in
set_option maxRecDepth 100000 in
theorem c9_restore (l : Launch) (E : EN) (G : GM) (fl : Nat) (X : Xm) (I : Im) (zx0 : Nat) (zx1 : Int32) (zt0 : okA E G 9 zx0) {rr : Int32 × Im} (hf : m9_restore fl G.2.2 X I zx0 zx1 = some rr) : MT l yX9_restore cX9_restore 3 (some .int) ({ frames := 1, cells := 0, slots := 0, locals := 22 } : Room) E G I X [.ref zx0, .int zx1] (QI E G rr.1 rr.2 X) 0 0 := by
  refine Met.ofW (cc := cX9_restore) (maxL := 3) (ret := (some .int)) (by decide +kernel) rfl ?_
  intro p e s m args below meth c s₁ B hml hv
  obtain ⟨rfl, hw0, hSE⟩ := hv
  have C0 : CX p s m ([.ref zx0, .int zx1] : List Value).toArray meth c E cX9_restore RX9 3 := ⟨B.exec, B.bytes, hml, findClass_of_methodNamed B.named, fun w hw => atoms_spec (ws := WS yX9_restore cX9_restore 3 (some .int)) B.pre w (List.mem_cons_of_mem _ hw), B.notSynchronized, hSE⟩
  have hz : s.heap.size + 0 ≤ eB E + G.1 := Nat.le_of_eq hw0.2.1
  have hw : WD E G I X s.heap s.heap [] := ⟨hw0, va_S.rf⟩
  have hr := B.returns
  have hx := C0.1; have hb := C0.2.1; have hml := C0.2.2.1; have hown := C0.2.2.2.1; have hts := C0.2.2.2.2.1
  have hl := lv_entry ([.ref zx0, .int zx1]) (n := 3) (Nat.le_of_ble_eq_true rfl)
  rw [lg_entry_eq]
  generalize (lg_sl ([.ref zx0, .int zx1]) ++ List.replicate (3 - (lg_sl ([.ref zx0, .int zx1])).length) Slot.unset).toArray = ls at hl ⊢
  have hl : lv_has ls 3 [(0, .ref zx0), (1, .int zx1)] := hl
  unfold m9_restore at hf
  refine lv_iload_n hx hb dX9_restore_0 rfl (lv_at hl 1 rfl) ?_
  refine lv_iconst (v := (0 : Int32)) hx hb dX9_restore_1 (by decide) ?_
  refine lv_iconst (v := (1 : Int32)) hx hb dX9_restore_2 (by decide) ?_
  obtain ⟨zv1, ze2, hf⟩ := nn_some hf
  refine x_ci (r := zv1) (I1 := I) (X1 := X) (x_runS (As := [.int zx1, .int (0 : Int32), .int (1 : Int32)]) (rest := []) C0 (c9_in l E G fl X I zx1 (0 : Int32) (1 : Int32) ze2) hw wd113 wd610 wd611 wd612 ⟨rfl, rfl⟩ hy9_in ⟨Nat.le_of_ble_eq_true rfl, Nat.le_of_ble_eq_true rfl⟩ rfl hl.1 (Nat.le_of_ble_eq_true rfl) ⟨Nat.zero_le _, Nat.zero_le _⟩ dX9_restore_3) hw (fun H locs hw => ?_)
  refine lv_if_ne (tgt := 12) hx hb dX9_restore_6 (by decide) (fun zc3 => ?_) (fun zc3 => ?_)
  · have hf := ite_f hf zc3
    refine lv_aload_n hx hb dX9_restore_12 rfl (lv_at hl 0 rfl) ?_
    obtain ⟨zv4, ezv4, hf⟩ := nn_some hf
    have tzv4 : okA E G 12 zv4 := wt_r hw ezv4
    refine xg_9_3 C0 hw zt0 wd604 ezv4 dX9_restore_13 ?_
    refine lv_iload_n hx hb dX9_restore_16 rfl (lv_at hl 1 rfl) ?_
    obtain ⟨zhb5, hf⟩ := ck_some hf
    refine x_zald C0 hw tzv4 zhb5 dX9_restore_17 ?_
    refine lv_if_ne (tgt := 24) hx hb dX9_restore_18 (by decide) (fun zc6 => ?_) (fun zc6 => ?_)
    · have hf := ite_f hf zc6
      refine lv_aload_n hx hb dX9_restore_24 rfl (lv_at hl 0 rfl) ?_
      obtain ⟨zI7, ze8, hf⟩ := nn_some hf
      refine x_cv (I1 := zI7) (X1 := X) (x_runV (As := []) (rest := []) C0 (c9_changes l E G fl X I zx0 zt0 ze8) hw 9 zt0 (by decide) rfl wd114 wd662 wd663 wd664 wd612 ⟨rfl, rfl⟩ hy9_changes ⟨Nat.le_of_ble_eq_true rfl, Nat.le_of_ble_eq_true rfl⟩ rfl hl.1 (Nat.le_of_ble_eq_true rfl) ⟨Nat.zero_le _, Nat.zero_le _⟩ dX9_restore_25) hw (fun H locs hw => ?_)
      refine lv_iconst (v := (0 : Int32)) hx hb dX9_restore_28 (by decide) ?_
      refine lv_istore_n (lv' := [(2, .int (0 : Int32)), (0, .ref zx0), (1, .int zx1)]) hx hb dX9_restore_29 rfl hl (by decide) rfl (fun ls hl => ?_)
      exact w9_restore_30 C0 hr hz fl fl zI7 _ _ _ zx0 zx1 (0 : Int32) zv4 zt0 ezv4 tzv4 hw (lv_sub hl [1, 2, 0] rfl) hf
    · have hf := ite_t hf zc6
      refine lv_bipush (v := (-5 : Int32)) hx hb dX9_restore_21 (by decide) ?_
      obtain rfl := Option.some.inj hf
      exact x_iret C0 hr hw dX9_restore_23
  · have hf := ite_t hf zc3
    refine lv_bipush (v := (-2 : Int32)) hx hb dX9_restore_9 (by decide) ?_
    obtain rfl := Option.some.inj hf
    exact x_iret C0 hr hw dX9_restore_11
