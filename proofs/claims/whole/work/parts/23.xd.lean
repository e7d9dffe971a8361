noncomputable def m8_holdState_35 (fl : Nat) (len : Nat → Nat) (X : Xm) (I : Im) : Option (Im) :=
  some (I)
set_option maxHeartbeats 4000000 in
set_option maxRecDepth 100000 in
theorem w8_holdState_35 {p : Program} {l : Launch} {e : Env} {s : State} {m : MethodId} {args : Array Value} {below : List Frame} {meth : Method} {c : Code} {E : EN} {G : GM} {X : Xm} (C0 : CX p s m args meth c E cX8_holdState RX8 1) (hr : meth.sig.returnType = none) (hz : s.heap.size + 0 ≤ eB E + G.1) {rr : Im} (fl : Nat) : ∀ (I : Im) (H : Heap) (locs : List Loc) (ls : Array Slot) , WD E G I X s.heap H locs → lv_has ls 1 [] → m8_holdState_35 fl G.2.2 X I = some rr → W p l e ({ frames := 3, cells := 0, slots := 0, locals := 70 } : Room) s m args below meth c H locs 0 0 (MQ below (QV E G rr X) args s 0 0 (eA E)) (F0 m 35 ls []) := by
  intro I H locs ls hw hl hf
  unfold m8_holdState_35 at hf
  have hx := C0.1; have hb := C0.2.1; have hml := C0.2.2.1; have hown := C0.2.2.2.1; have hts := C0.2.2.2.2.1
  obtain rfl := Option.some.inj hf
  exact x_vret C0 hr hw dX8_holdState_35
noncomputable def m8_holdState (fl : Nat) (len : Nat → Nat) (X : Xm) (I : Im) (zx0 : Nat) : Option (Im) :=
  if (gF I 131 zx0) < 0 then
    m8_holdState_35 fl len X I
  else
    nn (gR X 130 zx0) fun zv2 =>
    if (nI (len zv2)) ≤ (gF I 131 zx0) then
      m8_holdState_35 fl len X I
    else
      ck (inb (gF I 131 zx0) (len zv2) = true) <|
      nn (gQ X zv2 ((gF I 131 zx0)).toNatClampNeg) fun zv5 =>
      nn (gR X 128 zx0) fun zv6 =>
      nn (m4_copyFrom fl len X I zv5 zv6) fun zI7 =>
      m8_holdState_35 fl len X zI7
theorem hy8_holdState : yX8_holdState.cls = RX8 ∧ yX8_holdState.cls ≠ "java/lang/invoke/MethodHandle" ∧ yX8_holdState.cls ≠ "java/lang/invoke/VarHandle" ∧ (parseMethodDescriptor yX8_holdState.desc).map (fun d => d.parameters.length) = some 0 := ⟨rfl, by decide +kernel, by decide +kernel, by decide +kernel⟩
set_option maxHeartbeats 4000000 in
set_option maxRecDepth 100000 in
theorem c8_holdState (l : Launch) (E : EN) (G : GM) (fl : Nat) (X : Xm) (I : Im) (zx0 : Nat) (zt0 : okA E G 8 zx0) {rr : Im} (hf : m8_holdState fl G.2.2 X I zx0 = some rr) : MT l yX8_holdState cX8_holdState 1 none ({ frames := 3, cells := 0, slots := 0, locals := 70 } : Room) E G I X [.ref zx0] (QV E G rr X) 0 0 := by
  refine Met.ofW (cc := cX8_holdState) (maxL := 1) (ret := none) (by decide +kernel) rfl ?_
  intro p e s m args below meth c s₁ B hml hv
  obtain ⟨rfl, hw0, hSE⟩ := hv
  have C0 : CX p s m ([.ref zx0] : List Value).toArray meth c E cX8_holdState RX8 1 := ⟨B.exec, B.bytes, hml, findClass_of_methodNamed B.named, fun w hw => atoms_spec (ws := WS yX8_holdState cX8_holdState 1 none) B.pre w (List.mem_cons_of_mem _ hw), B.notSynchronized, hSE⟩
  have hz : s.heap.size + 0 ≤ eB E + G.1 := Nat.le_of_eq hw0.2.1
  have hw : WD E G I X s.heap s.heap [] := ⟨hw0, va_S.rf⟩
  have hr := B.returns
  have hx := C0.1; have hb := C0.2.1; have hml := C0.2.2.1; have hown := C0.2.2.2.1; have hts := C0.2.2.2.2.1
  have hl := lv_entry ([.ref zx0]) (n := 1) (Nat.le_of_ble_eq_true rfl)
  rw [lg_entry_eq]
  generalize (lg_sl ([.ref zx0]) ++ List.replicate (1 - (lg_sl ([.ref zx0])).length) Slot.unset).toArray = ls at hl ⊢
  have hl : lv_has ls 1 [(0, .ref zx0)] := hl
  unfold m8_holdState at hf
  refine lv_aload_n hx hb dX8_holdState_0 rfl (lv_at hl 0 rfl) ?_
  refine xg_8_3 C0 hw zt0 wd491 dX8_holdState_1 ?_
  refine lv_if_lt (tgt := 35) hx hb dX8_holdState_4 (by decide) (fun zc1 => ?_) (fun zc1 => ?_)
  · have hf := ite_t hf zc1
    exact w8_holdState_35 C0 hr hz fl I _ _ _ hw (lv_sub hl [] rfl) hf
  · have hf := ite_f hf zc1
    refine lv_aload_n hx hb dX8_holdState_7 rfl (lv_at hl 0 rfl) ?_
    refine xg_8_3 C0 hw zt0 wd491 dX8_holdState_8 ?_
    refine lv_aload_n hx hb dX8_holdState_11 rfl (lv_at hl 0 rfl) ?_
    obtain ⟨zv2, ezv2, hf⟩ := nn_some hf
    have tzv2 : okA E G 15 zv2 := wt_r hw ezv2
    refine xg_8_2 C0 hw zt0 wd481 ezv2 dX8_holdState_12 ?_
    refine x_alen C0 hw 15 tzv2 (by decide) rfl dX8_holdState_15 ?_
    refine lv_icmp_ge (tgt := 35) hx hb dX8_holdState_16 (by decide) (fun zc3 => ?_) (fun zc3 => ?_)
    · have hf := ite_t hf zc3
      exact w8_holdState_35 C0 hr hz fl I _ _ _ hw (lv_sub hl [] rfl) hf
    · have hf := ite_f hf zc3
      refine lv_aload_n hx hb dX8_holdState_19 rfl (lv_at hl 0 rfl) ?_
      refine xg_8_2 C0 hw zt0 wd481 ezv2 dX8_holdState_20 ?_
      refine lv_aload_n hx hb dX8_holdState_23 rfl (lv_at hl 0 rfl) ?_
      refine xg_8_3 C0 hw zt0 wd491 dX8_holdState_24 ?_
      obtain ⟨zhb4, hf⟩ := ck_some hf
      obtain ⟨zv5, ezv5, hf⟩ := nn_some hf
      have tzv5 : okA E G 4 zv5 := wt_q hw tzv2 ezv5
      refine x_qald C0 hw 15 tzv2 (by decide) rfl zhb4 ezv5 dX8_holdState_27 ?_
      refine lv_aload_n hx hb dX8_holdState_28 rfl (lv_at hl 0 rfl) ?_
      obtain ⟨zv6, ezv6, hf⟩ := nn_some hf
      have tzv6 : okA E G 4 zv6 := wt_r hw ezv6
      refine xg_8_0 C0 hw zt0 wd479 ezv6 dX8_holdState_29 ?_
      obtain ⟨zI7, ze8, hf⟩ := nn_some hf
      refine x_cv (I1 := zI7) (X1 := X) (x_runV (As := [.ref zv6]) (rest := []) C0 (c4_copyFrom l E G fl X I zv5 zv6 tzv5 tzv6 ze8) hw 4 tzv5 (by decide) rfl wd40 wd492 wd493 wd494 wd356 ⟨rfl, rfl⟩ hy4_copyFrom ⟨Nat.le_of_ble_eq_true rfl, Nat.le_of_ble_eq_true rfl⟩ rfl hl.1 (Nat.le_of_ble_eq_true rfl) ⟨Nat.zero_le _, Nat.zero_le _⟩ dX8_holdState_32) hw (fun H locs hw => ?_)
      exact w8_holdState_35 C0 hr hz fl zI7 _ _ _ hw (lv_sub hl [] rfl) hf
noncomputable def m8_dropOldestState_9b (fl : Nat) (len : Nat → Nat) (zr9 : Im → Xm → Nat → Nat → Int32 → Option (Im × Xm)) (I : Im) (X : Xm) (zx0 : Nat) (zx1 : Nat) (zx2 : Int32) : Option (Im × Xm) :=
  nn (gR X 130 zx0) fun zv1 =>
  if (nI (len zv1)) ≤ zx2 then
    ck (inb ((nI (len zv1)) - (1 : Int32)) (len zv1) = true) <|
    lt (pQ X zv1 (((nI (len zv1)) - (1 : Int32))).toNatClampNeg (some zx1)) fun zX4 =>
    lt (pF I 131 zx0 (6 : Int32)) fun zI5 =>
    some (zI5, zX4)
  else
    ck (inb zx2 (len zv1) = true) <|
    nn (gQ X zv1 (zx2).toNatClampNeg) fun zv7 =>
    ck (inb (zx2 - (1 : Int32)) (len zv1) = true) <|
    lt (pQ X zv1 ((zx2 - (1 : Int32))).toNatClampNeg (some zv7)) fun zX9 =>
    lt (zx2 + 1) fun zv10 =>
    zr9 I zX9 zx0 zx1 zv10
noncomputable def m8_dropOldestState_9 (fl : Nat) (len : Nat → Nat) (n : Nat) : Im → Xm → Nat → Nat → Int32 → Option (Im × Xm) :=
  Nat.rec (fun _ _ _ _ _ => none) (fun _ r => m8_dropOldestState_9b fl len r) n
set_option maxHeartbeats 4000000 in
set_option maxRecDepth 100000 in
theorem w8_dropOldestState_9b {p : Program} {l : Launch} {e : Env} {s : State} {m : MethodId} {args : Array Value} {below : List Frame} {meth : Method} {c : Code} {E : EN} {G : GM} (C0 : CX p s m args meth c E cX8_dropOldestState RX8 3) (hr : meth.sig.returnType = none) (hz : s.heap.size + 0 ≤ eB E + G.1) {rr : Im × Xm} (fl : Nat) (zr9 : Im → Xm → Nat → Nat → Int32 → Option (Im × Xm)) (zhr9 : ∀ (I : Im) (X : Xm) (H : Heap) (locs : List Loc) (ls : Array Slot) (zx0 : Nat) (zx1 : Nat) (zx2 : Int32) (zt0 : okA E G 8 zx0) (zt1 : okA E G 4 zx1), WD E G I X s.heap H locs → lv_has ls 3 [(0, .ref zx0), (1, .ref zx1), (2, .int zx2)] → zr9 I X zx0 zx1 zx2 = some rr → W p l e ({ frames := 0, cells := 0, slots := 0, locals := 0 } : Room) s m args below meth c H locs 0 0 (MQ below (QV E G rr.1 rr.2) args s 0 0 (eA E)) (F0 m 9 ls [])) : ∀ (I : Im) (X : Xm) (H : Heap) (locs : List Loc) (ls : Array Slot) (zx0 : Nat) (zx1 : Nat) (zx2 : Int32) (zt0 : okA E G 8 zx0) (zt1 : okA E G 4 zx1), WD E G I X s.heap H locs → lv_has ls 3 [(0, .ref zx0), (1, .ref zx1), (2, .int zx2)] → m8_dropOldestState_9b fl G.2.2 zr9 I X zx0 zx1 zx2 = some rr → W p l e ({ frames := 0, cells := 0, slots := 0, locals := 0 } : Room) s m args below meth c H locs 0 0 (MQ below (QV E G rr.1 rr.2) args s 0 0 (eA E)) (F0 m 9 ls []) := by
  intro I X H locs ls zx0 zx1 zx2 zt0 zt1 hw hl hf
  unfold m8_dropOldestState_9b at hf
  have hx := C0.1; have hb := C0.2.1; have hml := C0.2.2.1; have hown := C0.2.2.2.1; have hts := C0.2.2.2.2.1
  refine lv_iload_n hx hb dX8_dropOldestState_9 rfl (lv_at hl 2 rfl) ?_
  refine lv_aload_n hx hb dX8_dropOldestState_10 rfl (lv_at hl 0 rfl) ?_
  obtain ⟨zv1, ezv1, hf⟩ := nn_some hf
  have tzv1 : okA E G 15 zv1 := wt_r hw ezv1
  refine xg_8_2 C0 hw zt0 wd481 ezv1 dX8_dropOldestState_11 ?_
  refine x_alen C0 hw 15 tzv1 (by decide) rfl dX8_dropOldestState_14 ?_
  refine lv_icmp_ge (tgt := 38) hx hb dX8_dropOldestState_15 (by decide) (fun zc2 => ?_) (fun zc2 => ?_)
  · have hf := ite_t hf zc2
    refine lv_aload_n hx hb dX8_dropOldestState_38 rfl (lv_at hl 0 rfl) ?_
    refine xg_8_2 C0 hw zt0 wd481 ezv1 dX8_dropOldestState_39 ?_
    refine lv_aload_n hx hb dX8_dropOldestState_42 rfl (lv_at hl 0 rfl) ?_
    refine xg_8_2 C0 hw zt0 wd481 ezv1 dX8_dropOldestState_43 ?_
    refine x_alen C0 hw 15 tzv1 (by decide) rfl dX8_dropOldestState_46 ?_
    refine lv_iconst (v := (1 : Int32)) hx hb dX8_dropOldestState_47 (by decide) ?_
    refine lv_isub hx hb dX8_dropOldestState_48 ?_
    refine lv_aload_n hx hb dX8_dropOldestState_49 rfl (lv_at hl 1 rfl) ?_
    obtain ⟨zhb3, hf⟩ := ck_some hf
    obtain ⟨zX4, ezX4⟩ : ∃ y : Xm, y = pQ X zv1 (((nI (G.2.2 zv1)) - (1 : Int32))).toNatClampNeg (some zx1) := ⟨_, rfl⟩
    have hf := lt_at hf ezX4
    refine x_qast C0 hz hw 15 tzv1 (by decide) zt1 (by decide) rfl rfl zhb3 dX8_dropOldestState_50 ezX4 (fun H locs hw => ?_)
    refine lv_aload_n hx hb dX8_dropOldestState_51 rfl (lv_at hl 0 rfl) ?_
    refine lv_bipush (v := (6 : Int32)) hx hb dX8_dropOldestState_52 (by decide) ?_
    obtain ⟨zI5, ezI5⟩ : ∃ y : Im, y = pF I 131 zx0 (6 : Int32) := ⟨_, rfl⟩
    have hf := lt_at hf ezI5
    refine xp_8_3 C0 hz hw zt0 rfl rfl wd491 dX8_dropOldestState_54 ezI5 (fun H locs hw => ?_)
    obtain rfl := Option.some.inj hf
    exact x_vret C0 hr hw dX8_dropOldestState_57
  · have hf := ite_f hf zc2
    refine lv_aload_n hx hb dX8_dropOldestState_18 rfl (lv_at hl 0 rfl) ?_
    refine xg_8_2 C0 hw zt0 wd481 ezv1 dX8_dropOldestState_19 ?_
    refine lv_iload_n hx hb dX8_dropOldestState_22 rfl (lv_at hl 2 rfl) ?_
    refine lv_iconst (v := (1 : Int32)) hx hb dX8_dropOldestState_23 (by decide) ?_
    refine lv_isub hx hb dX8_dropOldestState_24 ?_
    refine lv_aload_n hx hb dX8_dropOldestState_25 rfl (lv_at hl 0 rfl) ?_
    refine xg_8_2 C0 hw zt0 wd481 ezv1 dX8_dropOldestState_26 ?_
    refine lv_iload_n hx hb dX8_dropOldestState_29 rfl (lv_at hl 2 rfl) ?_
    obtain ⟨zhb6, hf⟩ := ck_some hf
    obtain ⟨zv7, ezv7, hf⟩ := nn_some hf
    have tzv7 : okA E G 4 zv7 := wt_q hw tzv1 ezv7
    refine x_qald C0 hw 15 tzv1 (by decide) rfl zhb6 ezv7 dX8_dropOldestState_30 ?_
    obtain ⟨zhb8, hf⟩ := ck_some hf
    obtain ⟨zX9, ezX9⟩ : ∃ y : Xm, y = pQ X zv1 ((zx2 - (1 : Int32))).toNatClampNeg (some zv7) := ⟨_, rfl⟩
    have hf := lt_at hf ezX9
    refine x_qast C0 hz hw 15 tzv1 (by decide) tzv7 (by decide) rfl rfl zhb8 dX8_dropOldestState_31 ezX9 (fun H locs hw => ?_)
    obtain ⟨zv10, ezv10⟩ : ∃ y : Int32, y = zx2 + 1 := ⟨_, rfl⟩
    have hf := lt_at hf ezv10
    refine lv_iinc (v := zv10) (lv' := [(2, .int zv10), (0, .ref zx0), (1, .ref zx1)]) hx hb dX8_dropOldestState_32 hl (k := 2) rfl (by rw [ezv10]; rfl) (by decide) rfl (fun ls hl => ?_)
    refine lv_goto (tgt := 9) hx hb dX8_dropOldestState_35 (by decide) ?_
    exact zhr9 I zX9 _ _ _ zx0 zx1 zv10 zt0 zt1 hw (lv_sub hl [1, 2, 0] rfl) hf
theorem w8_dropOldestState_9 {p : Program} {l : Launch} {e : Env} {s : State} {m : MethodId} {args : Array Value} {below : List Frame} {meth : Method} {c : Code} {E : EN} {G : GM} (C0 : CX p s m args meth c E cX8_dropOldestState RX8 3) (hr : meth.sig.returnType = none) (hz : s.heap.size + 0 ≤ eB E + G.1) {rr : Im × Xm} (fl : Nat) : ∀ (n : Nat) (I : Im) (X : Xm) (H : Heap) (locs : List Loc) (ls : Array Slot) (zx0 : Nat) (zx1 : Nat) (zx2 : Int32) (zt0 : okA E G 8 zx0) (zt1 : okA E G 4 zx1), WD E G I X s.heap H locs → lv_has ls 3 [(0, .ref zx0), (1, .ref zx1), (2, .int zx2)] → m8_dropOldestState_9 fl G.2.2 n I X zx0 zx1 zx2 = some rr → W p l e ({ frames := 0, cells := 0, slots := 0, locals := 0 } : Room) s m args below meth c H locs 0 0 (MQ below (QV E G rr.1 rr.2) args s 0 0 (eA E)) (F0 m 9 ls []) := by
  intro n
  induction n with
  | zero => intro I X H locs ls zx0 zx1 zx2 zt0 zt1 hw hl hf; exact absurd (show (none : Option (Im × Xm)) = some rr from hf) (by simp)
  | succ n ih => intro I X H locs ls zx0 zx1 zx2 zt0 zt1 hw hl hf; exact w8_dropOldestState_9b C0 hr hz fl _ ih I X H locs ls zx0 zx1 zx2 zt0 zt1 hw hl hf
noncomputable def m8_dropOldestState (fl : Nat) (len : Nat → Nat) (X : Xm) (I : Im) (zx0 : Nat) : Option (Im × Xm) :=
  nn (gR X 130 zx0) fun zv1 =>
  ck (inb (0 : Int32) (len zv1) = true) <|
  nn (gQ X zv1 ((0 : Int32)).toNatClampNeg) fun zv3 =>
  m8_dropOldestState_9 fl len fl I X zx0 zv3 (1 : Int32)
theorem hy8_dropOldestState : yX8_dropOldestState.cls = RX8 ∧ yX8_dropOldestState.cls ≠ "java/lang/invoke/MethodHandle" ∧ yX8_dropOldestState.cls ≠ "java/lang/invoke/VarHandle" ∧ (parseMethodDescriptor yX8_dropOldestState.desc).map (fun d => d.parameters.length) = some 0 := ⟨rfl, by decide +kernel, by decide +kernel, by decide +kernel⟩
set_option maxHeartbeats 4000000 in
set_option maxRecDepth 100000 in
theorem c8_dropOldestState (l : Launch) (E : EN) (G : GM) (fl : Nat) (X : Xm) (I : Im) (zx0 : Nat) (zt0 : okA E G 8 zx0) {rr : Im × Xm} (hf : m8_dropOldestState fl G.2.2 X I zx0 = some rr) : MT l yX8_dropOldestState cX8_dropOldestState 3 none ({ frames := 0, cells := 0, slots := 0, locals := 0 } : Room) E G I X [.ref zx0] (QV E G rr.1 rr.2) 0 0 := by
  refine Met.ofW (cc := cX8_dropOldestState) (maxL := 3) (ret := none) (by decide +kernel) rfl ?_
  intro p e s m args below meth c s₁ B hml hv
  obtain ⟨rfl, hw0, hSE⟩ := hv
  have C0 : CX p s m ([.ref zx0] : List Value).toArray meth c E cX8_dropOldestState RX8 3 := ⟨B.exec, B.bytes, hml, findClass_of_methodNamed B.named, fun w hw => atoms_spec (ws := WS yX8_dropOldestState cX8_dropOldestState 3 none) B.pre w (List.mem_cons_of_mem _ hw), B.notSynchronized, hSE⟩
  have hz : s.heap.size + 0 ≤ eB E + G.1 := Nat.le_of_eq hw0.2.1
  have hw : WD E G I X s.heap s.heap [] := ⟨hw0, va_S.rf⟩
  have hr := B.returns
  have hx := C0.1; have hb := C0.2.1; have hml := C0.2.2.1; have hown := C0.2.2.2.1; have hts := C0.2.2.2.2.1
  have hl := lv_entry ([.ref zx0]) (n := 3) (Nat.le_of_ble_eq_true rfl)
  rw [lg_entry_eq]
  generalize (lg_sl ([.ref zx0]) ++ List.replicate (3 - (lg_sl ([.ref zx0])).length) Slot.unset).toArray = ls at hl ⊢
  have hl : lv_has ls 3 [(0, .ref zx0)] := hl
  unfold m8_dropOldestState at hf
  refine lv_aload_n hx hb dX8_dropOldestState_0 rfl (lv_at hl 0 rfl) ?_
  obtain ⟨zv1, ezv1, hf⟩ := nn_some hf
  have tzv1 : okA E G 15 zv1 := wt_r hw ezv1
  refine xg_8_2 C0 hw zt0 wd481 ezv1 dX8_dropOldestState_1 ?_
  refine lv_iconst (v := (0 : Int32)) hx hb dX8_dropOldestState_4 (by decide) ?_
  obtain ⟨zhb2, hf⟩ := ck_some hf
  obtain ⟨zv3, ezv3, hf⟩ := nn_some hf
  have tzv3 : okA E G 4 zv3 := wt_q hw tzv1 ezv3
  refine x_qald C0 hw 15 tzv1 (by decide) rfl zhb2 ezv3 dX8_dropOldestState_5 ?_
  refine lv_astore_n (lv' := [(1, .ref zv3), (0, .ref zx0)]) hx hb dX8_dropOldestState_6 rfl hl (by decide) rfl (fun ls hl => ?_)
  refine lv_iconst (v := (1 : Int32)) hx hb dX8_dropOldestState_7 (by decide) ?_
  refine lv_istore_n (lv' := [(2, .int (1 : Int32)), (1, .ref zv3), (0, .ref zx0)]) hx hb dX8_dropOldestState_8 rfl hl (by decide) rfl (fun ls hl => ?_)
  exact w8_dropOldestState_9 C0 hr hz fl fl I X _ _ _ zx0 zv3 (1 : Int32) zt0 tzv3 hw (lv_sub hl [2, 1, 0] rfl) hf
noncomputable def m8_recorded_29 (fl : Nat) (len : Nat → Nat) (I : Im) (X : Xm) (zx1 : Int32) : Option (Int32 × Im × Xm) :=
  some (zx1, I, X)
set_option maxHeartbeats 4000000 in
set_option maxRecDepth 100000 in
theorem w8_recorded_29 {p : Program} {l : Launch} {e : Env} {s : State} {m : MethodId} {args : Array Value} {below : List Frame} {meth : Method} {c : Code} {E : EN} {G : GM} (C0 : CX p s m args meth c E cX8_recorded RX8 2) (hr : meth.sig.returnType = (some .int)) (hz : s.heap.size + 0 ≤ eB E + G.1) {rr : Int32 × Im × Xm} (fl : Nat) : ∀ (I : Im) (X : Xm) (H : Heap) (locs : List Loc) (ls : Array Slot) (zx1 : Int32) , WD E G I X s.heap H locs → lv_has ls 2 [(1, .int zx1)] → m8_recorded_29 fl G.2.2 I X zx1 = some rr → W p l e ({ frames := 1, cells := 0, slots := 0, locals := 22 } : Room) s m args below meth c H locs 0 0 (MQ below (QI E G rr.1 rr.2.1 rr.2.2) args s 0 0 (eA E)) (F0 m 29 ls []) := by
  intro I X H locs ls zx1 hw hl hf
  unfold m8_recorded_29 at hf
  have hx := C0.1; have hb := C0.2.1; have hml := C0.2.2.1; have hown := C0.2.2.2.1; have hts := C0.2.2.2.2.1
  refine lv_iload_n hx hb dX8_recorded_29 rfl (lv_at hl 0 rfl) ?_
  obtain rfl := Option.some.inj hf
  exact x_iret C0 hr hw dX8_recorded_30
noncomputable def m8_recorded (fl : Nat) (len : Nat → Nat) (X : Xm) (I : Im) (zx0 : Nat) (zx1 : Int32) : Option (Int32 × Im × Xm) :=
  if 0 ≤ zx1 then
    lt (pF I 131 zx0 ((gF I 131 zx0) + (1 : Int32))) fun zI2 =>
    if (gF zI2 131 zx0) ≤ (6 : Int32) then
      m8_recorded_29 fl len zI2 X zx1
    else
      nn (m8_dropOldestState fl len X zI2 zx0) fun ⟨zI4, zX5⟩ =>
      m8_recorded_29 fl len zI4 zX5 zx1
  else
    some (zx1, I, X)
theorem hy8_recorded : yX8_recorded.cls = RX8 ∧ yX8_recorded.cls ≠ "java/lang/invoke/MethodHandle" ∧ yX8_recorded.cls ≠ "java/lang/invoke/VarHandle" ∧ (parseMethodDescriptor yX8_recorded.desc).map (fun d => d.parameters.length) = some 1 := ⟨rfl, by decide +kernel, by decide +kernel, by decide +kernel⟩
set_option maxHeartbeats 4000000 in
set_option maxRecDepth 100000 in
theorem c8_recorded (l : Launch) (E : EN) (G : GM) (fl : Nat) (X : Xm) (I : Im) (zx0 : Nat) (zx1 : Int32) (zt0 : okA E G 8 zx0) {rr : Int32 × Im × Xm} (hf : m8_recorded fl G.2.2 X I zx0 zx1 = some rr) : MT l yX8_recorded cX8_recorded 2 (some .int) ({ frames := 1, cells := 0, slots := 0, locals := 22 } : Room) E G I X [.ref zx0, .int zx1] (QI E G rr.1 rr.2.1 rr.2.2) 0 0 := by
  refine Met.ofW (cc := cX8_recorded) (maxL := 2) (ret := (some .int)) (by decide +kernel) rfl ?_
  intro p e s m args below meth c s₁ B hml hv
  obtain ⟨rfl, hw0, hSE⟩ := hv
  have C0 : CX p s m ([.ref zx0, .int zx1] : List Value).toArray meth c E cX8_recorded RX8 2 := ⟨B.exec, B.bytes, hml, findClass_of_methodNamed B.named, fun w hw => atoms_spec (ws := WS yX8_recorded cX8_recorded 2 (some .int)) B.pre w (List.mem_cons_of_mem _ hw), B.notSynchronized, hSE⟩
  have hz : s.heap.size + 0 ≤ eB E + G.1 := Nat.le_of_eq hw0.2.1
  have hw : WD E G I X s.heap s.heap [] := ⟨hw0, va_S.rf⟩
  have hr := B.returns
  have hx := C0.1; have hb := C0.2.1; have hml := C0.2.2.1; have hown := C0.2.2.2.1; have hts := C0.2.2.2.2.1
  have hl := lv_entry ([.ref zx0, .int zx1]) (n := 2) (Nat.le_of_ble_eq_true rfl)
  rw [lg_entry_eq]
  generalize (lg_sl ([.ref zx0, .int zx1]) ++ List.replicate (2 - (lg_sl ([.ref zx0, .int zx1])).length) Slot.unset).toArray = ls at hl ⊢
  have hl : lv_has ls 2 [(0, .ref zx0), (1, .int zx1)] := hl
  unfold m8_recorded at hf
  refine lv_iload_n hx hb dX8_recorded_0 rfl (lv_at hl 1 rfl) ?_
  refine lv_if_ge (tgt := 6) hx hb dX8_recorded_1 (by decide) (fun zc1 => ?_) (fun zc1 => ?_)
  · have hf := ite_t hf zc1
    refine lv_aload_n hx hb dX8_recorded_6 rfl (lv_at hl 0 rfl) ?_
    refine lv_dup hx hb dX8_recorded_7 rfl ?_
    refine xg_8_3 C0 hw zt0 wd491 dX8_recorded_8 ?_
    refine lv_iconst (v := (1 : Int32)) hx hb dX8_recorded_11 (by decide) ?_
    refine lv_iadd hx hb dX8_recorded_12 ?_
    obtain ⟨zI2, ezI2⟩ : ∃ y : Im, y = pF I 131 zx0 ((gF I 131 zx0) + (1 : Int32)) := ⟨_, rfl⟩
    have hf := lt_at hf ezI2
    refine xp_8_3 C0 hz hw zt0 rfl rfl wd491 dX8_recorded_13 ezI2 (fun H locs hw => ?_)
    refine lv_aload_n hx hb dX8_recorded_16 rfl (lv_at hl 0 rfl) ?_
    refine xg_8_3 C0 hw zt0 wd491 dX8_recorded_17 ?_
    refine lv_bipush (v := (6 : Int32)) hx hb dX8_recorded_20 (by decide) ?_
    refine lv_icmp_le (tgt := 29) hx hb dX8_recorded_22 (by decide) (fun zc3 => ?_) (fun zc3 => ?_)
    · have hf := ite_t hf zc3
      exact w8_recorded_29 C0 hr hz fl zI2 X _ _ _ zx1 hw (lv_sub hl [1] rfl) hf
    · have hf := ite_f hf zc3
      refine lv_aload_n hx hb dX8_recorded_25 rfl (lv_at hl 0 rfl) ?_
      obtain ⟨⟨zI4, zX5⟩, ze6, hf⟩ := nn_some hf
      refine x_cv (I1 := zI4) (X1 := zX5) (x_runV (As := []) (rest := []) C0 (c8_dropOldestState l E G fl X zI2 zx0 zt0 ze6) hw 8 zt0 (by decide) rfl wd80 wd495 wd496 wd497 wd197 ⟨rfl, rfl⟩ hy8_dropOldestState ⟨Nat.le_of_ble_eq_true rfl, Nat.le_of_ble_eq_true rfl⟩ rfl hl.1 (Nat.le_of_ble_eq_true rfl) ⟨Nat.zero_le _, Nat.zero_le _⟩ dX8_recorded_26) hw (fun H locs hw => ?_)
      exact w8_recorded_29 C0 hr hz fl zI4 zX5 _ _ _ zx1 hw (lv_sub hl [1] rfl) hf
  · have hf := ite_f hf zc1
    refine lv_iload_n hx hb dX8_recorded_4 rfl (lv_at hl 1 rfl) ?_
    obtain rfl := Option.some.inj hf
    exact x_iret C0 hr hw dX8_recorded_5
noncomputable def m8_set (fl : Nat) (len : Nat → Nat) (X : Xm) (I : Im) (zx0 : Nat) (zx1 : Int32) (zx2 : Int32) : Option (Int32 × Im × Xm) :=
  nn (m8_holdState fl len X I zx0) fun zI1 =>
  nn (gR X 128 zx0) fun zv3 =>
  nn (m4_changeSetting fl len X zI1 zv3 zx1 zx2) fun ⟨zv4, zI5⟩ =>
  nn (m8_recorded fl len X zI5 zx0 zv4) fun ⟨zv7, zI8, zX9⟩ =>
  some (zv7, zI8, zX9)
theorem hy8_set : yX8_set.cls = RX8 ∧ yX8_set.cls ≠ "java/lang/invoke/MethodHandle" ∧ yX8_set.cls ≠ "java/lang/invoke/VarHandle" ∧ (parseMethodDescriptor yX8_set.desc).map (fun d => d.parameters.length) = some 2 := ⟨rfl, by decide +kernel, by decide +kernel, by decide +kernel⟩
set_option maxHeartbeats 4000000 in
set_option maxRecDepth 100000 in
theorem c8_set (l : Launch) (E : EN) (G : GM) (fl : Nat) (X : Xm) (I : Im) (zx0 : Nat) (zx1 : Int32) (zx2 : Int32) (zt0 : okA E G 8 zx0) {rr : Int32 × Im × Xm} (hf : m8_set fl G.2.2 X I zx0 zx1 zx2 = some rr) : MT l yX8_set cX8_set 3 (some .int) ({ frames := 4, cells := 0, slots := 0, locals := 90 } : Room) E G I X [.ref zx0, .int zx1, .int zx2] (QI E G rr.1 rr.2.1 rr.2.2) 0 0 := by
  refine Met.ofW (cc := cX8_set) (maxL := 3) (ret := (some .int)) (by decide +kernel) rfl ?_
  intro p e s m args below meth c s₁ B hml hv
  obtain ⟨rfl, hw0, hSE⟩ := hv
  have C0 : CX p s m ([.ref zx0, .int zx1, .int zx2] : List Value).toArray meth c E cX8_set RX8 3 := ⟨B.exec, B.bytes, hml, findClass_of_methodNamed B.named, fun w hw => atoms_spec (ws := WS yX8_set cX8_set 3 (some .int)) B.pre w (List.mem_cons_of_mem _ hw), B.notSynchronized, hSE⟩
  have hz : s.heap.size + 0 ≤ eB E + G.1 := Nat.le_of_eq hw0.2.1
  have hw : WD E G I X s.heap s.heap [] := ⟨hw0, va_S.rf⟩
  have hr := B.returns
  have hx := C0.1; have hb := C0.2.1; have hml := C0.2.2.1; have hown := C0.2.2.2.1; have hts := C0.2.2.2.2.1
  have hl := lv_entry ([.ref zx0, .int zx1, .int zx2]) (n := 3) (Nat.le_of_ble_eq_true rfl)
  rw [lg_entry_eq]
  generalize (lg_sl ([.ref zx0, .int zx1, .int zx2]) ++ List.replicate (3 - (lg_sl ([.ref zx0, .int zx1, .int zx2])).length) Slot.unset).toArray = ls at hl ⊢
  have hl : lv_has ls 3 [(0, .ref zx0), (1, .int zx1), (2, .int zx2)] := hl
  unfold m8_set at hf
  refine lv_aload_n hx hb dX8_set_0 rfl (lv_at hl 0 rfl) ?_
  obtain ⟨zI1, ze2, hf⟩ := nn_some hf
  refine x_cv (I1 := zI1) (X1 := X) (x_runV (As := []) (rest := []) C0 (c8_holdState l E G fl X I zx0 zt0 ze2) hw 8 zt0 (by decide) rfl wd79 wd498 wd499 wd500 wd197 ⟨rfl, rfl⟩ hy8_holdState ⟨Nat.le_of_ble_eq_true rfl, Nat.le_of_ble_eq_true rfl⟩ rfl hl.1 (Nat.le_of_ble_eq_true rfl) ⟨Nat.zero_le _, Nat.zero_le _⟩ dX8_set_1) hw (fun H locs hw => ?_)
  refine lv_aload_n hx hb dX8_set_4 rfl (lv_at hl 0 rfl) ?_
  refine lv_aload_n hx hb dX8_set_5 rfl (lv_at hl 0 rfl) ?_
  obtain ⟨zv3, ezv3, hf⟩ := nn_some hf
  have tzv3 : okA E G 4 zv3 := wt_r hw ezv3
  refine xg_8_0 C0 hw zt0 wd479 ezv3 dX8_set_6 ?_
  refine lv_iload_n hx hb dX8_set_9 rfl (lv_at hl 1 rfl) ?_
  refine lv_iload_n hx hb dX8_set_10 rfl (lv_at hl 2 rfl) ?_
  obtain ⟨⟨zv4, zI5⟩, ze6, hf⟩ := nn_some hf
  refine x_ci (r := zv4) (I1 := zI5) (X1 := X) (x_runV (As := [.int zx1, .int zx2]) (rest := [.ref zx0]) C0 (c4_changeSetting l E G fl X zI1 zv3 zx1 zx2 tzv3 ze6) hw 4 tzv3 (by decide) rfl wd42 wd501 wd502 wd503 wd356 ⟨rfl, rfl⟩ hy4_changeSetting ⟨Nat.le_of_ble_eq_true rfl, Nat.le_of_ble_eq_true rfl⟩ rfl hl.1 (Nat.le_of_ble_eq_true rfl) ⟨Nat.zero_le _, Nat.zero_le _⟩ dX8_set_11) hw (fun H locs hw => ?_)
  obtain ⟨⟨zv7, zI8, zX9⟩, ze10, hf⟩ := nn_some hf
  refine x_ci (r := zv7) (I1 := zI8) (X1 := zX9) (x_runV (As := [.int zv4]) (rest := []) C0 (c8_recorded l E G fl X zI5 zx0 zv4 zt0 ze10) hw 8 zt0 (by decide) rfl wd81 wd504 wd505 wd506 wd197 ⟨rfl, rfl⟩ hy8_recorded ⟨Nat.le_of_ble_eq_true rfl, Nat.le_of_ble_eq_true rfl⟩ rfl hl.1 (Nat.le_of_ble_eq_true rfl) ⟨Nat.zero_le _, Nat.zero_le _⟩ dX8_set_14) hw (fun H locs hw => ?_)
  obtain rfl := Option.some.inj hf
  exact x_iret C0 hr hw dX8_set_17
noncomputable def m8_sound (fl : Nat) (len : Nat → Nat) (X : Xm) (I : Im) (zx0 : Nat) (zx1 : Int32) (zx2 : Int32) (zx3 : Int32) : Option (Int32 × Im × Xm) :=
  nn (m8_holdState fl len X I zx0) fun zI1 =>
  nn (gR X 128 zx0) fun zv3 =>
  nn (m4_addSound fl len X zI1 zv3 zx1 zx2 zx3) fun ⟨zv4, zI5⟩ =>
  nn (m8_recorded fl len X zI5 zx0 zv4) fun ⟨zv7, zI8, zX9⟩ =>
  some (zv7, zI8, zX9)
theorem hy8_sound : yX8_sound.cls = RX8 ∧ yX8_sound.cls ≠ "java/lang/invoke/MethodHandle" ∧ yX8_sound.cls ≠ "java/lang/invoke/VarHandle" ∧ (parseMethodDescriptor yX8_sound.desc).map (fun d => d.parameters.length) = some 3 := ⟨rfl, by decide +kernel, by decide +kernel, by decide +kernel⟩
set_option maxHeartbeats 4000000 in
set_option maxRecDepth 100000 in
theorem c8_sound (l : Launch) (E : EN) (G : GM) (fl : Nat) (X : Xm) (I : Im) (zx0 : Nat) (zx1 : Int32) (zx2 : Int32) (zx3 : Int32) (zt0 : okA E G 8 zx0) {rr : Int32 × Im × Xm} (hf : m8_sound fl G.2.2 X I zx0 zx1 zx2 zx3 = some rr) : MT l yX8_sound cX8_sound 4 (some .int) ({ frames := 4, cells := 0, slots := 0, locals := 90 } : Room) E G I X [.ref zx0, .int zx1, .int zx2, .int zx3] (QI E G rr.1 rr.2.1 rr.2.2) 0 0 := by
  refine Met.ofW (cc := cX8_sound) (maxL := 4) (ret := (some .int)) (by decide +kernel) rfl ?_
  intro p e s m args below meth c s₁ B hml hv
  obtain ⟨rfl, hw0, hSE⟩ := hv
  have C0 : CX p s m ([.ref zx0, .int zx1, .int zx2, .int zx3] : List Value).toArray meth c E cX8_sound RX8 4 := ⟨B.exec, B.bytes, hml, findClass_of_methodNamed B.named, fun w hw => atoms_spec (ws := WS yX8_sound cX8_sound 4 (some .int)) B.pre w (List.mem_cons_of_mem _ hw), B.notSynchronized, hSE⟩
  have hz : s.heap.size + 0 ≤ eB E + G.1 := Nat.le_of_eq hw0.2.1
  have hw : WD E G I X s.heap s.heap [] := ⟨hw0, va_S.rf⟩
  have hr := B.returns
  have hx := C0.1; have hb := C0.2.1; have hml := C0.2.2.1; have hown := C0.2.2.2.1; have hts := C0.2.2.2.2.1
  have hl := lv_entry ([.ref zx0, .int zx1, .int zx2, .int zx3]) (n := 4) (Nat.le_of_ble_eq_true rfl)
  rw [lg_entry_eq]
  generalize (lg_sl ([.ref zx0, .int zx1, .int zx2, .int zx3]) ++ List.replicate (4 - (lg_sl ([.ref zx0, .int zx1, .int zx2, .int zx3])).length) Slot.unset).toArray = ls at hl ⊢
  have hl : lv_has ls 4 [(0, .ref zx0), (1, .int zx1), (2, .int zx2), (3, .int zx3)] := hl
  unfold m8_sound at hf
  refine lv_aload_n hx hb dX8_sound_0 rfl (lv_at hl 0 rfl) ?_
  obtain ⟨zI1, ze2, hf⟩ := nn_some hf
  refine x_cv (I1 := zI1) (X1 := X) (x_runV (As := []) (rest := []) C0 (c8_holdState l E G fl X I zx0 zt0 ze2) hw 8 zt0 (by decide) rfl wd79 wd498 wd499 wd500 wd197 ⟨rfl, rfl⟩ hy8_holdState ⟨Nat.le_of_ble_eq_true rfl, Nat.le_of_ble_eq_true rfl⟩ rfl hl.1 (Nat.le_of_ble_eq_true rfl) ⟨Nat.zero_le _, Nat.zero_le _⟩ dX8_sound_1) hw (fun H locs hw => ?_)
  refine lv_aload_n hx hb dX8_sound_4 rfl (lv_at hl 0 rfl) ?_
  refine lv_aload_n hx hb dX8_sound_5 rfl (lv_at hl 0 rfl) ?_
  obtain ⟨zv3, ezv3, hf⟩ := nn_some hf
  have tzv3 : okA E G 4 zv3 := wt_r hw ezv3
  refine xg_8_0 C0 hw zt0 wd479 ezv3 dX8_sound_6 ?_
  refine lv_iload_n hx hb dX8_sound_9 rfl (lv_at hl 1 rfl) ?_
  refine lv_iload_n hx hb dX8_sound_10 rfl (lv_at hl 2 rfl) ?_
  refine lv_iload_n hx hb dX8_sound_11 rfl (lv_at hl 3 rfl) ?_
  obtain ⟨⟨zv4, zI5⟩, ze6, hf⟩ := nn_some hf
  refine x_ci (r := zv4) (I1 := zI5) (X1 := X) (x_runV (As := [.int zx1, .int zx2, .int zx3]) (rest := [.ref zx0]) C0 (c4_addSound l E G fl X zI1 zv3 zx1 zx2 zx3 tzv3 ze6) hw 4 tzv3 (by decide) rfl wd47 wd507 wd508 wd509 wd356 ⟨rfl, rfl⟩ hy4_addSound ⟨Nat.le_of_ble_eq_true rfl, Nat.le_of_ble_eq_true rfl⟩ rfl hl.1 (Nat.le_of_ble_eq_true rfl) ⟨Nat.zero_le _, Nat.zero_le _⟩ dX8_sound_12) hw (fun H locs hw => ?_)
  obtain ⟨⟨zv7, zI8, zX9⟩, ze10, hf⟩ := nn_some hf
  refine x_ci (r := zv7) (I1 := zI8) (X1 := zX9) (x_runV (As := [.int zv4]) (rest := []) C0 (c8_recorded l E G fl X zI5 zx0 zv4 zt0 ze10) hw 8 zt0 (by decide) rfl wd81 wd504 wd505 wd506 wd197 ⟨rfl, rfl⟩ hy8_recorded ⟨Nat.le_of_ble_eq_true rfl, Nat.le_of_ble_eq_true rfl⟩ rfl hl.1 (Nat.le_of_ble_eq_true rfl) ⟨Nat.zero_le _, Nat.zero_le _⟩ dX8_sound_15) hw (fun H locs hw => ?_)
  obtain rfl := Option.some.inj hf
  exact x_iret C0 hr hw dX8_sound_18
noncomputable def m8_cue (fl : Nat) (len : Nat → Nat) (X : Xm) (I : Im) (zx0 : Nat) (zx1 : Int32) (zx2 : Int32) (zx3 : Int32) (zx4 : Int32) : Option (Int32 × Im × Xm) :=
  nn (m8_holdState fl len X I zx0) fun zI1 =>
  nn (gR X 128 zx0) fun zv3 =>
  nn (m4_addCue fl len X zI1 zv3 zx1 zx2 zx3 zx4) fun ⟨zv4, zI5, zX6⟩ =>
  nn (m8_recorded fl len zX6 zI5 zx0 zv4) fun ⟨zv8, zI9, zX10⟩ =>
  some (zv8, zI9, zX10)
theorem hy8_cue : yX8_cue.cls = RX8 ∧ yX8_cue.cls ≠ "java/lang/invoke/MethodHandle" ∧ yX8_cue.cls ≠ "java/lang/invoke/VarHandle" ∧ (parseMethodDescriptor yX8_cue.desc).map (fun d => d.parameters.length) = some 4 := ⟨rfl, by decide +kernel, by decide +kernel, by decide +kernel⟩
set_option maxHeartbeats 4000000 in
set_option maxRecDepth 100000 in
theorem c8_cue (l : Launch) (E : EN) (G : GM) (fl : Nat) (X : Xm) (I : Im) (zx0 : Nat) (zx1 : Int32) (zx2 : Int32) (zx3 : Int32) (zx4 : Int32) (zt0 : okA E G 8 zx0) {rr : Int32 × Im × Xm} (hf : m8_cue fl G.2.2 X I zx0 zx1 zx2 zx3 zx4 = some rr) : MT l yX8_cue cX8_cue 5 (some .int) ({ frames := 4, cells := 0, slots := 0, locals := 92 } : Room) E G I X [.ref zx0, .int zx1, .int zx2, .int zx3, .int zx4] (QI E G rr.1 rr.2.1 rr.2.2) 0 0 := by
  refine Met.ofW (cc := cX8_cue) (maxL := 5) (ret := (some .int)) (by decide +kernel) rfl ?_
  intro p e s m args below meth c s₁ B hml hv
  obtain ⟨rfl, hw0, hSE⟩ := hv
  have C0 : CX p s m ([.ref zx0, .int zx1, .int zx2, .int zx3, .int zx4] : List Value).toArray meth c E cX8_cue RX8 5 := ⟨B.exec, B.bytes, hml, findClass_of_methodNamed B.named, fun w hw => atoms_spec (ws := WS yX8_cue cX8_cue 5 (some .int)) B.pre w (List.mem_cons_of_mem _ hw), B.notSynchronized, hSE⟩
  have hz : s.heap.size + 0 ≤ eB E + G.1 := Nat.le_of_eq hw0.2.1
  have hw : WD E G I X s.heap s.heap [] := ⟨hw0, va_S.rf⟩
  have hr := B.returns
  have hx := C0.1; have hb := C0.2.1; have hml := C0.2.2.1; have hown := C0.2.2.2.1; have hts := C0.2.2.2.2.1
  have hl := lv_entry ([.ref zx0, .int zx1, .int zx2, .int zx3, .int zx4]) (n := 5) (Nat.le_of_ble_eq_true rfl)
  rw [lg_entry_eq]
  generalize (lg_sl ([.ref zx0, .int zx1, .int zx2, .int zx3, .int zx4]) ++ List.replicate (5 - (lg_sl ([.ref zx0, .int zx1, .int zx2, .int zx3, .int zx4])).length) Slot.unset).toArray = ls at hl ⊢
  have hl : lv_has ls 5 [(0, .ref zx0), (1, .int zx1), (2, .int zx2), (3, .int zx3), (4, .int zx4)] := hl
  unfold m8_cue at hf
  refine lv_aload_n hx hb dX8_cue_0 rfl (lv_at hl 0 rfl) ?_
  obtain ⟨zI1, ze2, hf⟩ := nn_some hf
  refine x_cv (I1 := zI1) (X1 := X) (x_runV (As := []) (rest := []) C0 (c8_holdState l E G fl X I zx0 zt0 ze2) hw 8 zt0 (by decide) rfl wd79 wd498 wd499 wd500 wd197 ⟨rfl, rfl⟩ hy8_holdState ⟨Nat.le_of_ble_eq_true rfl, Nat.le_of_ble_eq_true rfl⟩ rfl hl.1 (Nat.le_of_ble_eq_true rfl) ⟨Nat.zero_le _, Nat.zero_le _⟩ dX8_cue_1) hw (fun H locs hw => ?_)
  refine lv_aload_n hx hb dX8_cue_4 rfl (lv_at hl 0 rfl) ?_
  refine lv_aload_n hx hb dX8_cue_5 rfl (lv_at hl 0 rfl) ?_
  obtain ⟨zv3, ezv3, hf⟩ := nn_some hf
  have tzv3 : okA E G 4 zv3 := wt_r hw ezv3
  refine xg_8_0 C0 hw zt0 wd479 ezv3 dX8_cue_6 ?_
  refine lv_iload_n hx hb dX8_cue_9 rfl (lv_at hl 1 rfl) ?_
  refine lv_iload_n hx hb dX8_cue_10 rfl (lv_at hl 2 rfl) ?_
  refine lv_iload_n hx hb dX8_cue_11 rfl (lv_at hl 3 rfl) ?_
  refine lv_iload hx hb dX8_cue_12 (lv_at hl 4 rfl) ?_
  obtain ⟨⟨zv4, zI5, zX6⟩, ze7, hf⟩ := nn_some hf
  refine x_ci (r := zv4) (I1 := zI5) (X1 := zX6) (x_runV (As := [.int zx1, .int zx2, .int zx3, .int zx4]) (rest := [.ref zx0]) C0 (c4_addCue l E G fl X zI1 zv3 zx1 zx2 zx3 zx4 tzv3 ze7) hw 4 tzv3 (by decide) rfl wd52 wd510 wd511 wd512 wd356 ⟨rfl, rfl⟩ hy4_addCue ⟨Nat.le_of_ble_eq_true rfl, Nat.le_of_ble_eq_true rfl⟩ rfl hl.1 (Nat.le_of_ble_eq_true rfl) ⟨Nat.zero_le _, Nat.zero_le _⟩ dX8_cue_14) hw (fun H locs hw => ?_)
  obtain ⟨⟨zv8, zI9, zX10⟩, ze11, hf⟩ := nn_some hf
  refine x_ci (r := zv8) (I1 := zI9) (X1 := zX10) (x_runV (As := [.int zv4]) (rest := []) C0 (c8_recorded l E G fl zX6 zI5 zx0 zv4 zt0 ze11) hw 8 zt0 (by decide) rfl wd81 wd504 wd505 wd506 wd197 ⟨rfl, rfl⟩ hy8_recorded ⟨Nat.le_of_ble_eq_true rfl, Nat.le_of_ble_eq_true rfl⟩ rfl hl.1 (Nat.le_of_ble_eq_true rfl) ⟨Nat.zero_le _, Nat.zero_le _⟩ dX8_cue_17) hw (fun H locs hw => ?_)
  obtain rfl := Option.some.inj hf
  exact x_iret C0 hr hw dX8_cue_20
noncomputable def m8_takeOut (fl : Nat) (len : Nat → Nat) (X : Xm) (I : Im) (zx0 : Nat) (zx1 : Int32) : Option (Int32 × Im × Xm) :=
  nn (m8_holdState fl len X I zx0) fun zI1 =>
  nn (gR X 128 zx0) fun zv3 =>
  nn (gR X 65 zv3) fun zv4 =>
  nn (m6_removeCue fl len X zI1 zv4 zx1) fun ⟨zv5, zI6, zX7⟩ =>
  nn (m8_recorded fl len zX7 zI6 zx0 zv5) fun ⟨zv9, zI10, zX11⟩ =>
  some (zv9, zI10, zX11)
theorem hy8_takeOut : yX8_takeOut.cls = RX8 ∧ yX8_takeOut.cls ≠ "java/lang/invoke/MethodHandle" ∧ yX8_takeOut.cls ≠ "java/lang/invoke/VarHandle" ∧ (parseMethodDescriptor yX8_takeOut.desc).map (fun d => d.parameters.length) = some 1 := ⟨rfl, by decide +kernel, by decide +kernel, by decide +kernel⟩
set_option maxHeartbeats 4000000 in
set_option maxRecDepth 100000 in
theorem c8_takeOut (l : Launch) (E : EN) (G : GM) (fl : Nat) (X : Xm) (I : Im) (zx0 : Nat) (zx1 : Int32) (zt0 : okA E G 8 zx0) {rr : Int32 × Im × Xm} (hf : m8_takeOut fl G.2.2 X I zx0 zx1 = some rr) : MT l yX8_takeOut cX8_takeOut 2 (some .int) ({ frames := 4, cells := 0, slots := 0, locals := 90 } : Room) E G I X [.ref zx0, .int zx1] (QI E G rr.1 rr.2.1 rr.2.2) 0 0 := by
  refine Met.ofW (cc := cX8_takeOut) (maxL := 2) (ret := (some .int)) (by decide +kernel) rfl ?_
  intro p e s m args below meth c s₁ B hml hv
  obtain ⟨rfl, hw0, hSE⟩ := hv
  have C0 : CX p s m ([.ref zx0, .int zx1] : List Value).toArray meth c E cX8_takeOut RX8 2 := ⟨B.exec, B.bytes, hml, findClass_of_methodNamed B.named, fun w hw => atoms_spec (ws := WS yX8_takeOut cX8_takeOut 2 (some .int)) B.pre w (List.mem_cons_of_mem _ hw), B.notSynchronized, hSE⟩
  have hz : s.heap.size + 0 ≤ eB E + G.1 := Nat.le_of_eq hw0.2.1
  have hw : WD E G I X s.heap s.heap [] := ⟨hw0, va_S.rf⟩
  have hr := B.returns
  have hx := C0.1; have hb := C0.2.1; have hml := C0.2.2.1; have hown := C0.2.2.2.1; have hts := C0.2.2.2.2.1
  have hl := lv_entry ([.ref zx0, .int zx1]) (n := 2) (Nat.le_of_ble_eq_true rfl)
  rw [lg_entry_eq]
  generalize (lg_sl ([.ref zx0, .int zx1]) ++ List.replicate (2 - (lg_sl ([.ref zx0, .int zx1])).length) Slot.unset).toArray = ls at hl ⊢
  have hl : lv_has ls 2 [(0, .ref zx0), (1, .int zx1)] := hl
  unfold m8_takeOut at hf
  refine lv_aload_n hx hb dX8_takeOut_0 rfl (lv_at hl 0 rfl) ?_
  obtain ⟨zI1, ze2, hf⟩ := nn_some hf
  refine x_cv (I1 := zI1) (X1 := X) (x_runV (As := []) (rest := []) C0 (c8_holdState l E G fl X I zx0 zt0 ze2) hw 8 zt0 (by decide) rfl wd79 wd498 wd499 wd500 wd197 ⟨rfl, rfl⟩ hy8_holdState ⟨Nat.le_of_ble_eq_true rfl, Nat.le_of_ble_eq_true rfl⟩ rfl hl.1 (Nat.le_of_ble_eq_true rfl) ⟨Nat.zero_le _, Nat.zero_le _⟩ dX8_takeOut_1) hw (fun H locs hw => ?_)
  refine lv_aload_n hx hb dX8_takeOut_4 rfl (lv_at hl 0 rfl) ?_
  refine lv_aload_n hx hb dX8_takeOut_5 rfl (lv_at hl 0 rfl) ?_
  obtain ⟨zv3, ezv3, hf⟩ := nn_some hf
  have tzv3 : okA E G 4 zv3 := wt_r hw ezv3
  refine xg_8_0 C0 hw zt0 wd479 ezv3 dX8_takeOut_6 ?_
  obtain ⟨zv4, ezv4, hf⟩ := nn_some hf
  have tzv4 : okA E G 6 zv4 := wt_r hw ezv4
  refine xg_4_1 C0 hw tzv3 wd513 ezv4 dX8_takeOut_9 ?_
  refine lv_iload_n hx hb dX8_takeOut_12 rfl (lv_at hl 1 rfl) ?_
  obtain ⟨⟨zv5, zI6, zX7⟩, ze8, hf⟩ := nn_some hf
  refine x_ci (r := zv5) (I1 := zI6) (X1 := zX7) (x_runV (As := [.int zx1]) (rest := [.ref zx0]) C0 (c6_removeCue l E G fl X zI1 zv4 zx1 tzv4 ze8) hw 6 tzv4 (by decide) rfl wd77 wd514 wd515 wd516 wd300 ⟨rfl, rfl⟩ hy6_removeCue ⟨Nat.le_of_ble_eq_true rfl, Nat.le_of_ble_eq_true rfl⟩ rfl hl.1 (Nat.le_of_ble_eq_true rfl) ⟨Nat.zero_le _, Nat.zero_le _⟩ dX8_takeOut_13) hw (fun H locs hw => ?_)
  obtain ⟨⟨zv9, zI10, zX11⟩, ze12, hf⟩ := nn_some hf
  refine x_ci (r := zv9) (I1 := zI10) (X1 := zX11) (x_runV (As := [.int zv5]) (rest := []) C0 (c8_recorded l E G fl zX7 zI6 zx0 zv5 zt0 ze12) hw 8 zt0 (by decide) rfl wd81 wd504 wd505 wd506 wd197 ⟨rfl, rfl⟩ hy8_recorded ⟨Nat.le_of_ble_eq_true rfl, Nat.le_of_ble_eq_true rfl⟩ rfl hl.1 (Nat.le_of_ble_eq_true rfl) ⟨Nat.zero_le _, Nat.zero_le _⟩ dX8_takeOut_16) hw (fun H locs hw => ?_)
  obtain rfl := Option.some.inj hf
  exact x_iret C0 hr hw dX8_takeOut_19
noncomputable def m8_move (fl : Nat) (len : Nat → Nat) (X : Xm) (I : Im) (zx0 : Nat) (zx1 : Int32) (zx2 : Int32) : Option (Int32 × Im × Xm) :=
  nn (m8_holdState fl len X I zx0) fun zI1 =>
  nn (gR X 128 zx0) fun zv3 =>
  nn (m4_moveCue fl len X zI1 zv3 zx1 zx2) fun ⟨zv4, zI5, zX6⟩ =>
  nn (m8_recorded fl len zX6 zI5 zx0 zv4) fun ⟨zv8, zI9, zX10⟩ =>
  some (zv8, zI9, zX10)
theorem hy8_move : yX8_move.cls = RX8 ∧ yX8_move.cls ≠ "java/lang/invoke/MethodHandle" ∧ yX8_move.cls ≠ "java/lang/invoke/VarHandle" ∧ (parseMethodDescriptor yX8_move.desc).map (fun d => d.parameters.length) = some 2 := ⟨rfl, by decide +kernel, by decide +kernel, by decide +kernel⟩
set_option maxHeartbeats 4000000 in
set_option maxRecDepth 100000 in
theorem c8_move (l : Launch) (E : EN) (G : GM) (fl : Nat) (X : Xm) (I : Im) (zx0 : Nat) (zx1 : Int32) (zx2 : Int32) (zt0 : okA E G 8 zx0) {rr : Int32 × Im × Xm} (hf : m8_move fl G.2.2 X I zx0 zx1 zx2 = some rr) : MT l yX8_move cX8_move 3 (some .int) ({ frames := 4, cells := 0, slots := 0, locals := 90 } : Room) E G I X [.ref zx0, .int zx1, .int zx2] (QI E G rr.1 rr.2.1 rr.2.2) 0 0 := by
  refine Met.ofW (cc := cX8_move) (maxL := 3) (ret := (some .int)) (by decide +kernel) rfl ?_
  intro p e s m args below meth c s₁ B hml hv
  obtain ⟨rfl, hw0, hSE⟩ := hv
  have C0 : CX p s m ([.ref zx0, .int zx1, .int zx2] : List Value).toArray meth c E cX8_move RX8 3 := ⟨B.exec, B.bytes, hml, findClass_of_methodNamed B.named, fun w hw => atoms_spec (ws := WS yX8_move cX8_move 3 (some .int)) B.pre w (List.mem_cons_of_mem _ hw), B.notSynchronized, hSE⟩
  have hz : s.heap.size + 0 ≤ eB E + G.1 := Nat.le_of_eq hw0.2.1
  have hw : WD E G I X s.heap s.heap [] := ⟨hw0, va_S.rf⟩
  have hr := B.returns
  have hx := C0.1; have hb := C0.2.1; have hml := C0.2.2.1; have hown := C0.2.2.2.1; have hts := C0.2.2.2.2.1
  have hl := lv_entry ([.ref zx0, .int zx1, .int zx2]) (n := 3) (Nat.le_of_ble_eq_true rfl)
  rw [lg_entry_eq]
  generalize (lg_sl ([.ref zx0, .int zx1, .int zx2]) ++ List.replicate (3 - (lg_sl ([.ref zx0, .int zx1, .int zx2])).length) Slot.unset).toArray = ls at hl ⊢
  have hl : lv_has ls 3 [(0, .ref zx0), (1, .int zx1), (2, .int zx2)] := hl
  unfold m8_move at hf
  refine lv_aload_n hx hb dX8_move_0 rfl (lv_at hl 0 rfl) ?_
  obtain ⟨zI1, ze2, hf⟩ := nn_some hf
  refine x_cv (I1 := zI1) (X1 := X) (x_runV (As := []) (rest := []) C0 (c8_holdState l E G fl X I zx0 zt0 ze2) hw 8 zt0 (by decide) rfl wd79 wd498 wd499 wd500 wd197 ⟨rfl, rfl⟩ hy8_holdState ⟨Nat.le_of_ble_eq_true rfl, Nat.le_of_ble_eq_true rfl⟩ rfl hl.1 (Nat.le_of_ble_eq_true rfl) ⟨Nat.zero_le _, Nat.zero_le _⟩ dX8_move_1) hw (fun H locs hw => ?_)
  refine lv_aload_n hx hb dX8_move_4 rfl (lv_at hl 0 rfl) ?_
  refine lv_aload_n hx hb dX8_move_5 rfl (lv_at hl 0 rfl) ?_
  obtain ⟨zv3, ezv3, hf⟩ := nn_some hf
  have tzv3 : okA E G 4 zv3 := wt_r hw ezv3
  refine xg_8_0 C0 hw zt0 wd479 ezv3 dX8_move_6 ?_
  refine lv_iload_n hx hb dX8_move_9 rfl (lv_at hl 1 rfl) ?_
  refine lv_iload_n hx hb dX8_move_10 rfl (lv_at hl 2 rfl) ?_
  obtain ⟨⟨zv4, zI5, zX6⟩, ze7, hf⟩ := nn_some hf
  refine x_ci (r := zv4) (I1 := zI5) (X1 := zX6) (x_runV (As := [.int zx1, .int zx2]) (rest := [.ref zx0]) C0 (c4_moveCue l E G fl X zI1 zv3 zx1 zx2 tzv3 ze7) hw 4 tzv3 (by decide) rfl wd54 wd517 wd518 wd519 wd356 ⟨rfl, rfl⟩ hy4_moveCue ⟨Nat.le_of_ble_eq_true rfl, Nat.le_of_ble_eq_true rfl⟩ rfl hl.1 (Nat.le_of_ble_eq_true rfl) ⟨Nat.zero_le _, Nat.zero_le _⟩ dX8_move_11) hw (fun H locs hw => ?_)
  obtain ⟨⟨zv8, zI9, zX10⟩, ze11, hf⟩ := nn_some hf
  refine x_ci (r := zv8) (I1 := zI9) (X1 := zX10) (x_runV (As := [.int zv4]) (rest := []) C0 (c8_recorded l E G fl zX6 zI5 zx0 zv4 zt0 ze11) hw 8 zt0 (by decide) rfl wd81 wd504 wd505 wd506 wd197 ⟨rfl, rfl⟩ hy8_recorded ⟨Nat.le_of_ble_eq_true rfl, Nat.le_of_ble_eq_true rfl⟩ rfl hl.1 (Nat.le_of_ble_eq_true rfl) ⟨Nat.zero_le _, Nat.zero_le _⟩ dX8_move_14) hw (fun H locs hw => ?_)
  obtain rfl := Option.some.inj hf
  exact x_iret C0 hr hw dX8_move_17
noncomputable def m8_goal (fl : Nat) (len : Nat → Nat) (X : Xm) (I : Im) (zx0 : Nat) (zx1 : Int32) (zx2 : Int32) : Option (Int32 × Im × Xm) :=
  nn (m8_holdState fl len X I zx0) fun zI1 =>
  nn (gR X 128 zx0) fun zv3 =>
  nn (m4_putGoal fl len X zI1 zv3 zx1 zx2) fun ⟨zv4, zI5⟩ =>
  nn (m8_recorded fl len X zI5 zx0 zv4) fun ⟨zv7, zI8, zX9⟩ =>
  some (zv7, zI8, zX9)
theorem hy8_goal : yX8_goal.cls = RX8 ∧ yX8_goal.cls ≠ "java/lang/invoke/MethodHandle" ∧ yX8_goal.cls ≠ "java/lang/invoke/VarHandle" ∧ (parseMethodDescriptor yX8_goal.desc).map (fun d => d.parameters.length) = some 2 := ⟨rfl, by decide +kernel, by decide +kernel, by decide +kernel⟩
set_option maxHeartbeats 4000000 in
set_option maxRecDepth 100000 in
theorem c8_goal (l : Launch) (E : EN) (G : GM) (fl : Nat) (X : Xm) (I : Im) (zx0 : Nat) (zx1 : Int32) (zx2 : Int32) (zt0 : okA E G 8 zx0) {rr : Int32 × Im × Xm} (hf : m8_goal fl G.2.2 X I zx0 zx1 zx2 = some rr) : MT l yX8_goal cX8_goal 3 (some .int) ({ frames := 4, cells := 0, slots := 0, locals := 90 } : Room) E G I X [.ref zx0, .int zx1, .int zx2] (QI E G rr.1 rr.2.1 rr.2.2) 0 0 := by
  refine Met.ofW (cc := cX8_goal) (maxL := 3) (ret := (some .int)) (by decide +kernel) rfl ?_
  intro p e s m args below meth c s₁ B hml hv
  obtain ⟨rfl, hw0, hSE⟩ := hv
  have C0 : CX p s m ([.ref zx0, .int zx1, .int zx2] : List Value).toArray meth c E cX8_goal RX8 3 := ⟨B.exec, B.bytes, hml, findClass_of_methodNamed B.named, fun w hw => atoms_spec (ws := WS yX8_goal cX8_goal 3 (some .int)) B.pre w (List.mem_cons_of_mem _ hw), B.notSynchronized, hSE⟩
  have hz : s.heap.size + 0 ≤ eB E + G.1 := Nat.le_of_eq hw0.2.1
  have hw : WD E G I X s.heap s.heap [] := ⟨hw0, va_S.rf⟩
  have hr := B.returns
  have hx := C0.1; have hb := C0.2.1; have hml := C0.2.2.1; have hown := C0.2.2.2.1; have hts := C0.2.2.2.2.1
  have hl := lv_entry ([.ref zx0, .int zx1, .int zx2]) (n := 3) (Nat.le_of_ble_eq_true rfl)
  rw [lg_entry_eq]
  generalize (lg_sl ([.ref zx0, .int zx1, .int zx2]) ++ List.replicate (3 - (lg_sl ([.ref zx0, .int zx1, .int zx2])).length) Slot.unset).toArray = ls at hl ⊢
  have hl : lv_has ls 3 [(0, .ref zx0), (1, .int zx1), (2, .int zx2)] := hl
  unfold m8_goal at hf
  refine lv_aload_n hx hb dX8_goal_0 rfl (lv_at hl 0 rfl) ?_
  obtain ⟨zI1, ze2, hf⟩ := nn_some hf
  refine x_cv (I1 := zI1) (X1 := X) (x_runV (As := []) (rest := []) C0 (c8_holdState l E G fl X I zx0 zt0 ze2) hw 8 zt0 (by decide) rfl wd79 wd498 wd499 wd500 wd197 ⟨rfl, rfl⟩ hy8_holdState ⟨Nat.le_of_ble_eq_true rfl, Nat.le_of_ble_eq_true rfl⟩ rfl hl.1 (Nat.le_of_ble_eq_true rfl) ⟨Nat.zero_le _, Nat.zero_le _⟩ dX8_goal_1) hw (fun H locs hw => ?_)
  refine lv_aload_n hx hb dX8_goal_4 rfl (lv_at hl 0 rfl) ?_
  refine lv_aload_n hx hb dX8_goal_5 rfl (lv_at hl 0 rfl) ?_
  obtain ⟨zv3, ezv3, hf⟩ := nn_some hf
  have tzv3 : okA E G 4 zv3 := wt_r hw ezv3
  refine xg_8_0 C0 hw zt0 wd479 ezv3 dX8_goal_6 ?_
  refine lv_iload_n hx hb dX8_goal_9 rfl (lv_at hl 1 rfl) ?_
  refine lv_iload_n hx hb dX8_goal_10 rfl (lv_at hl 2 rfl) ?_
  obtain ⟨⟨zv4, zI5⟩, ze6, hf⟩ := nn_some hf
  refine x_ci (r := zv4) (I1 := zI5) (X1 := X) (x_runV (As := [.int zx1, .int zx2]) (rest := [.ref zx0]) C0 (c4_putGoal l E G fl X zI1 zv3 zx1 zx2 tzv3 ze6) hw 4 tzv3 (by decide) rfl wd56 wd520 wd431 wd432 wd356 ⟨rfl, rfl⟩ hy4_putGoal ⟨Nat.le_of_ble_eq_true rfl, Nat.le_of_ble_eq_true rfl⟩ rfl hl.1 (Nat.le_of_ble_eq_true rfl) ⟨Nat.zero_le _, Nat.zero_le _⟩ dX8_goal_11) hw (fun H locs hw => ?_)
  obtain ⟨⟨zv7, zI8, zX9⟩, ze10, hf⟩ := nn_some hf
  refine x_ci (r := zv7) (I1 := zI8) (X1 := zX9) (x_runV (As := [.int zv4]) (rest := []) C0 (c8_recorded l E G fl X zI5 zx0 zv4 zt0 ze10) hw 8 zt0 (by decide) rfl wd81 wd504 wd505 wd506 wd197 ⟨rfl, rfl⟩ hy8_recorded ⟨Nat.le_of_ble_eq_true rfl, Nat.le_of_ble_eq_true rfl⟩ rfl hl.1 (Nat.le_of_ble_eq_true rfl) ⟨Nat.zero_le _, Nat.zero_le _⟩ dX8_goal_14) hw (fun H locs hw => ?_)
  obtain rfl := Option.some.inj hf
  exact x_iret C0 hr hw dX8_goal_17
noncomputable def m8_begin (fl : Nat) (len : Nat → Nat) (X : Xm) (I : Im) (zx0 : Nat) : Option (Int32 × Im × Xm) :=
  nn (m8_holdState fl len X I zx0) fun zI1 =>
  nn (gR X 128 zx0) fun zv3 =>
  nn (m4_beginAnew fl len X zI1 zv3) fun ⟨zv4, zI5⟩ =>
  nn (m8_recorded fl len X zI5 zx0 zv4) fun ⟨zv7, zI8, zX9⟩ =>
  some (zv7, zI8, zX9)
theorem hy8_begin : yX8_begin.cls = RX8 ∧ yX8_begin.cls ≠ "java/lang/invoke/MethodHandle" ∧ yX8_begin.cls ≠ "java/lang/invoke/VarHandle" ∧ (parseMethodDescriptor yX8_begin.desc).map (fun d => d.parameters.length) = some 0 := ⟨rfl, by decide +kernel, by decide +kernel, by decide +kernel⟩
set_option maxHeartbeats 4000000 in
set_option maxRecDepth 100000 in
theorem c8_begin (l : Launch) (E : EN) (G : GM) (fl : Nat) (X : Xm) (I : Im) (zx0 : Nat) (zt0 : okA E G 8 zx0) {rr : Int32 × Im × Xm} (hf : m8_begin fl G.2.2 X I zx0 = some rr) : MT l yX8_begin cX8_begin 1 (some .int) ({ frames := 4, cells := 0, slots := 0, locals := 90 } : Room) E G I X [.ref zx0] (QI E G rr.1 rr.2.1 rr.2.2) 0 0 := by
  refine Met.ofW (cc := cX8_begin) (maxL := 1) (ret := (some .int)) (by decide +kernel) rfl ?_
  intro p e s m args below meth c s₁ B hml hv
  obtain ⟨rfl, hw0, hSE⟩ := hv
  have C0 : CX p s m ([.ref zx0] : List Value).toArray meth c E cX8_begin RX8 1 := ⟨B.exec, B.bytes, hml, findClass_of_methodNamed B.named, fun w hw => atoms_spec (ws := WS yX8_begin cX8_begin 1 (some .int)) B.pre w (List.mem_cons_of_mem _ hw), B.notSynchronized, hSE⟩
  have hz : s.heap.size + 0 ≤ eB E + G.1 := Nat.le_of_eq hw0.2.1
  have hw : WD E G I X s.heap s.heap [] := ⟨hw0, va_S.rf⟩
  have hr := B.returns
  have hx := C0.1; have hb := C0.2.1; have hml := C0.2.2.1; have hown := C0.2.2.2.1; have hts := C0.2.2.2.2.1
  have hl := lv_entry ([.ref zx0]) (n := 1) (Nat.le_of_ble_eq_true rfl)
  rw [lg_entry_eq]
  generalize (lg_sl ([.ref zx0]) ++ List.replicate (1 - (lg_sl ([.ref zx0])).length) Slot.unset).toArray = ls at hl ⊢
  have hl : lv_has ls 1 [(0, .ref zx0)] := hl
  unfold m8_begin at hf
  refine lv_aload_n hx hb dX8_begin_0 rfl (lv_at hl 0 rfl) ?_
  obtain ⟨zI1, ze2, hf⟩ := nn_some hf
  refine x_cv (I1 := zI1) (X1 := X) (x_runV (As := []) (rest := []) C0 (c8_holdState l E G fl X I zx0 zt0 ze2) hw 8 zt0 (by decide) rfl wd79 wd498 wd499 wd500 wd197 ⟨rfl, rfl⟩ hy8_holdState ⟨Nat.le_of_ble_eq_true rfl, Nat.le_of_ble_eq_true rfl⟩ rfl hl.1 (Nat.le_of_ble_eq_true rfl) ⟨Nat.zero_le _, Nat.zero_le _⟩ dX8_begin_1) hw (fun H locs hw => ?_)
  refine lv_aload_n hx hb dX8_begin_4 rfl (lv_at hl 0 rfl) ?_
  refine lv_aload_n hx hb dX8_begin_5 rfl (lv_at hl 0 rfl) ?_
  obtain ⟨zv3, ezv3, hf⟩ := nn_some hf
  have tzv3 : okA E G 4 zv3 := wt_r hw ezv3
  refine xg_8_0 C0 hw zt0 wd479 ezv3 dX8_begin_6 ?_
  obtain ⟨⟨zv4, zI5⟩, ze6, hf⟩ := nn_some hf
  refine x_ci (r := zv4) (I1 := zI5) (X1 := X) (x_runV (As := []) (rest := [.ref zx0]) C0 (c4_beginAnew l E G fl X zI1 zv3 tzv3 ze6) hw 4 tzv3 (by decide) rfl wd59 wd521 wd522 wd523 wd356 ⟨rfl, rfl⟩ hy4_beginAnew ⟨Nat.le_of_ble_eq_true rfl, Nat.le_of_ble_eq_true rfl⟩ rfl hl.1 (Nat.le_of_ble_eq_true rfl) ⟨Nat.zero_le _, Nat.zero_le _⟩ dX8_begin_9) hw (fun H locs hw => ?_)
  obtain ⟨⟨zv7, zI8, zX9⟩, ze10, hf⟩ := nn_some hf
  refine x_ci (r := zv7) (I1 := zI8) (X1 := zX9) (x_runV (As := [.int zv4]) (rest := []) C0 (c8_recorded l E G fl X zI5 zx0 zv4 zt0 ze10) hw 8 zt0 (by decide) rfl wd81 wd504 wd505 wd506 wd197 ⟨rfl, rfl⟩ hy8_recorded ⟨Nat.le_of_ble_eq_true rfl, Nat.le_of_ble_eq_true rfl⟩ rfl hl.1 (Nat.le_of_ble_eq_true rfl) ⟨Nat.zero_le _, Nat.zero_le _⟩ dX8_begin_12) hw (fun H locs hw => ?_)
  obtain rfl := Option.some.inj hf
  exact x_iret C0 hr hw dX8_begin_15
noncomputable def m8_pass (fl : Nat) (len : Nat → Nat) (X : Xm) (I : Im) (zx0 : Nat) (zx1 : Int32) : Option (Int32 × Im × Xm) :=
  nn (m8_holdState fl len X I zx0) fun zI1 =>
  nn (gR X 128 zx0) fun zv3 =>
  nn (m4_runSeconds fl len X zI1 zv3 zx1) fun ⟨zv4, zI5⟩ =>
  nn (m8_recorded fl len X zI5 zx0 zv4) fun ⟨zv7, zI8, zX9⟩ =>
  some (zv7, zI8, zX9)
theorem hy8_pass : yX8_pass.cls = RX8 ∧ yX8_pass.cls ≠ "java/lang/invoke/MethodHandle" ∧ yX8_pass.cls ≠ "java/lang/invoke/VarHandle" ∧ (parseMethodDescriptor yX8_pass.desc).map (fun d => d.parameters.length) = some 1 := ⟨rfl, by decide +kernel, by decide +kernel, by decide +kernel⟩
set_option maxHeartbeats 4000000 in
set_option maxRecDepth 100000 in
theorem c8_pass (l : Launch) (E : EN) (G : GM) (fl : Nat) (X : Xm) (I : Im) (zx0 : Nat) (zx1 : Int32) (zt0 : okA E G 8 zx0) {rr : Int32 × Im × Xm} (hf : m8_pass fl G.2.2 X I zx0 zx1 = some rr) : MT l yX8_pass cX8_pass 2 (some .int) ({ frames := 5, cells := 0, slots := 0, locals := 113 } : Room) E G I X [.ref zx0, .int zx1] (QI E G rr.1 rr.2.1 rr.2.2) 0 0 := by
  refine Met.ofW (cc := cX8_pass) (maxL := 2) (ret := (some .int)) (by decide +kernel) rfl ?_
  intro p e s m args below meth c s₁ B hml hv
  obtain ⟨rfl, hw0, hSE⟩ := hv
  have C0 : CX p s m ([.ref zx0, .int zx1] : List Value).toArray meth c E cX8_pass RX8 2 := ⟨B.exec, B.bytes, hml, findClass_of_methodNamed B.named, fun w hw => atoms_spec (ws := WS yX8_pass cX8_pass 2 (some .int)) B.pre w (List.mem_cons_of_mem _ hw), B.notSynchronized, hSE⟩
  have hz : s.heap.size + 0 ≤ eB E + G.1 := Nat.le_of_eq hw0.2.1
  have hw : WD E G I X s.heap s.heap [] := ⟨hw0, va_S.rf⟩
  have hr := B.returns
  have hx := C0.1; have hb := C0.2.1; have hml := C0.2.2.1; have hown := C0.2.2.2.1; have hts := C0.2.2.2.2.1
  have hl := lv_entry ([.ref zx0, .int zx1]) (n := 2) (Nat.le_of_ble_eq_true rfl)
  rw [lg_entry_eq]
  generalize (lg_sl ([.ref zx0, .int zx1]) ++ List.replicate (2 - (lg_sl ([.ref zx0, .int zx1])).length) Slot.unset).toArray = ls at hl ⊢
  have hl : lv_has ls 2 [(0, .ref zx0), (1, .int zx1)] := hl
  unfold m8_pass at hf
  refine lv_aload_n hx hb dX8_pass_0 rfl (lv_at hl 0 rfl) ?_
  obtain ⟨zI1, ze2, hf⟩ := nn_some hf
  refine x_cv (I1 := zI1) (X1 := X) (x_runV (As := []) (rest := []) C0 (c8_holdState l E G fl X I zx0 zt0 ze2) hw 8 zt0 (by decide) rfl wd79 wd498 wd499 wd500 wd197 ⟨rfl, rfl⟩ hy8_holdState ⟨Nat.le_of_ble_eq_true rfl, Nat.le_of_ble_eq_true rfl⟩ rfl hl.1 (Nat.le_of_ble_eq_true rfl) ⟨Nat.zero_le _, Nat.zero_le _⟩ dX8_pass_1) hw (fun H locs hw => ?_)
  refine lv_aload_n hx hb dX8_pass_4 rfl (lv_at hl 0 rfl) ?_
  refine lv_aload_n hx hb dX8_pass_5 rfl (lv_at hl 0 rfl) ?_
  obtain ⟨zv3, ezv3, hf⟩ := nn_some hf
  have tzv3 : okA E G 4 zv3 := wt_r hw ezv3
  refine xg_8_0 C0 hw zt0 wd479 ezv3 dX8_pass_6 ?_
  refine lv_iload_n hx hb dX8_pass_9 rfl (lv_at hl 1 rfl) ?_
  obtain ⟨⟨zv4, zI5⟩, ze6, hf⟩ := nn_some hf
  refine x_ci (r := zv4) (I1 := zI5) (X1 := X) (x_runV (As := [.int zx1]) (rest := [.ref zx0]) C0 (c4_runSeconds l E G fl X zI1 zv3 zx1 tzv3 ze6) hw 4 tzv3 (by decide) rfl wd71 wd524 wd525 wd526 wd356 ⟨rfl, rfl⟩ hy4_runSeconds ⟨Nat.le_of_ble_eq_true rfl, Nat.le_of_ble_eq_true rfl⟩ rfl hl.1 (Nat.le_of_ble_eq_true rfl) ⟨Nat.zero_le _, Nat.zero_le _⟩ dX8_pass_10) hw (fun H locs hw => ?_)
  obtain ⟨⟨zv7, zI8, zX9⟩, ze10, hf⟩ := nn_some hf
  refine x_ci (r := zv7) (I1 := zI8) (X1 := zX9) (x_runV (As := [.int zv4]) (rest := []) C0 (c8_recorded l E G fl X zI5 zx0 zv4 zt0 ze10) hw 8 zt0 (by decide) rfl wd81 wd504 wd505 wd506 wd197 ⟨rfl, rfl⟩ hy8_recorded ⟨Nat.le_of_ble_eq_true rfl, Nat.le_of_ble_eq_true rfl⟩ rfl hl.1 (Nat.le_of_ble_eq_true rfl) ⟨Nat.zero_le _, Nat.zero_le _⟩ dX8_pass_13) hw (fun H locs hw => ?_)
  obtain rfl := Option.some.inj hf
  exact x_iret C0 hr hw dX8_pass_16
noncomputable def m8_ofCue (fl : Nat) (len : Nat → Nat) (X : Xm) (I : Im) (zx0 : Nat) (zx1 : Int32) (zx2 : Int32) : Option (Int32) :=
  nn (gR X 128 zx0) fun zv1 =>
  nn (gR X 65 zv1) fun zv2 =>
  nn (m6_cueAt fl len X I zv2 zx1) fun zv3 =>
  if zv3 = none then
    some ((-1 : Int32))
  else
    if zx2 = (0 : Int32) then
      nn zv3 fun zb7 =>
      some ((gF I 16 zb7))
    else
      if zx2 = (1 : Int32) then
        nn zv3 fun zb9 =>
        some ((gF I 17 zb9))
      else
        if zx2 = (2 : Int32) then
          nn zv3 fun zb11 =>
          some ((gF I 18 zb11))
        else
          if zx2 = (3 : Int32) then
            nn zv3 fun zb13 =>
            some ((gF I 19 zb13))
          else
            if zx2 = (4 : Int32) then
              nn zv3 fun zb15 =>
              some ((gF I 20 zb15))
            else
              some ((-2 : Int32))
theorem hy8_ofCue : yX8_ofCue.cls = RX8 ∧ yX8_ofCue.cls ≠ "java/lang/invoke/MethodHandle" ∧ yX8_ofCue.cls ≠ "java/lang/invoke/VarHandle" ∧ (parseMethodDescriptor yX8_ofCue.desc).map (fun d => d.parameters.length) = some 2 := ⟨rfl, by decide +kernel, by decide +kernel, by decide +kernel⟩
set_option maxHeartbeats 4000000 in
set_option maxRecDepth 100000 in
theorem c8_ofCue (l : Launch) (E : EN) (G : GM) (fl : Nat) (X : Xm) (I : Im) (zx0 : Nat) (zx1 : Int32) (zx2 : Int32) (zt0 : okA E G 8 zx0) {rr : Int32} (hf : m8_ofCue fl G.2.2 X I zx0 zx1 zx2 = some rr) : MT l yX8_ofCue cX8_ofCue 4 (some .int) ({ frames := 1, cells := 0, slots := 0, locals := 21 } : Room) E G I X [.ref zx0, .int zx1, .int zx2] (QI E G rr I X) 0 0 := by
  refine Met.ofW (cc := cX8_ofCue) (maxL := 4) (ret := (some .int)) (by decide +kernel) rfl ?_
  intro p e s m args below meth c s₁ B hml hv
  obtain ⟨rfl, hw0, hSE⟩ := hv
  have C0 : CX p s m ([.ref zx0, .int zx1, .int zx2] : List Value).toArray meth c E cX8_ofCue RX8 4 := ⟨B.exec, B.bytes, hml, findClass_of_methodNamed B.named, fun w hw => atoms_spec (ws := WS yX8_ofCue cX8_ofCue 4 (some .int)) B.pre w (List.mem_cons_of_mem _ hw), B.notSynchronized, hSE⟩
  have hz : s.heap.size + 0 ≤ eB E + G.1 := Nat.le_of_eq hw0.2.1
  have hw : WD E G I X s.heap s.heap [] := ⟨hw0, va_S.rf⟩
  have hr := B.returns
  have hx := C0.1; have hb := C0.2.1; have hml := C0.2.2.1; have hown := C0.2.2.2.1; have hts := C0.2.2.2.2.1
  have hl := lv_entry ([.ref zx0, .int zx1, .int zx2]) (n := 4) (Nat.le_of_ble_eq_true rfl)
  rw [lg_entry_eq]
  generalize (lg_sl ([.ref zx0, .int zx1, .int zx2]) ++ List.replicate (4 - (lg_sl ([.ref zx0, .int zx1, .int zx2])).length) Slot.unset).toArray = ls at hl ⊢
  have hl : lv_has ls 4 [(0, .ref zx0), (1, .int zx1), (2, .int zx2)] := hl
  unfold m8_ofCue at hf
  refine lv_aload_n hx hb dX8_ofCue_0 rfl (lv_at hl 0 rfl) ?_
  obtain ⟨zv1, ezv1, hf⟩ := nn_some hf
  have tzv1 : okA E G 4 zv1 := wt_r hw ezv1
  refine xg_8_0 C0 hw zt0 wd479 ezv1 dX8_ofCue_1 ?_
  obtain ⟨zv2, ezv2, hf⟩ := nn_some hf
  have tzv2 : okA E G 6 zv2 := wt_r hw ezv2
  refine xg_4_1 C0 hw tzv1 wd513 ezv2 dX8_ofCue_4 ?_
  refine lv_iload_n hx hb dX8_ofCue_7 rfl (lv_at hl 1 rfl) ?_
  obtain ⟨zv3, ze4, hf⟩ := nn_some hf
  refine x_co (r := zv3) (I1 := I) (X1 := X) (x_runV (As := [.int zx1]) (rest := []) C0 (c6_cueAt l E G fl X I zv2 zx1 tzv2 ze4) hw 6 tzv2 (by decide) rfl wd49 wd532 wd377 wd378 wd300 ⟨rfl, rfl⟩ hy6_cueAt ⟨Nat.le_of_ble_eq_true rfl, Nat.le_of_ble_eq_true rfl⟩ rfl hl.1 (Nat.le_of_ble_eq_true rfl) ⟨Nat.zero_le _, Nat.zero_le _⟩ dX8_ofCue_8) hw (fun H locs hw tzv3 => ?_)
  refine x_astore_n (lv' := [(3, va_rf zv3), (0, .ref zx0), (1, .int zx1), (2, .int zx2)]) C0 dX8_ofCue_11 rfl hl (by decide) rfl (fun ls hl => ?_)
  refine x_aload_n C0 dX8_ofCue_12 rfl (lv_at hl 0 rfl) ?_
  refine x_ifnonnull (tgt := 18) C0 dX8_ofCue_13 (by decide) (fun zc5 => ?_) (fun zc5 => ?_)
  · have hf := ite_f hf zc5
    refine lv_iload_n hx hb dX8_ofCue_18 rfl (lv_at hl 3 rfl) ?_
    by_cases zc6 : zx2 = (0 : Int32)
    · have hf := ite_t hf zc6
      refine lv_tableIn (off := 33) (tgt := 52) hx hb dX8_ofCue_19 (by rw [zc6]; decide) (by rw [zc6]; decide) (by rw [zc6]; rfl) (by decide) ?_
      refine x_aload_n C0 dX8_ofCue_52 rfl (lv_at hl 0 rfl) ?_
      obtain ⟨zb7, ezb7, hfzb7⟩ := nn_some hf
      have tzb7 : okA E G 1 zb7 := tzv3 _ ezb7
      subst ezb7
      have hf := hfzb7
      refine xg_1_0 C0 hw tzb7 wd527 dX8_ofCue_53 ?_
      obtain rfl := Option.some.inj hf
      exact x_iret C0 hr hw dX8_ofCue_56
    · have hf := ite_f hf zc6
      by_cases zc8 : zx2 = (1 : Int32)
      · have hf := ite_t hf zc8
        refine lv_tableIn (off := 38) (tgt := 57) hx hb dX8_ofCue_19 (by rw [zc8]; decide) (by rw [zc8]; decide) (by rw [zc8]; rfl) (by decide) ?_
        refine x_aload_n C0 dX8_ofCue_57 rfl (lv_at hl 0 rfl) ?_
        obtain ⟨zb9, ezb9, hfzb9⟩ := nn_some hf
        have tzb9 : okA E G 1 zb9 := tzv3 _ ezb9
        subst ezb9
        have hf := hfzb9
        refine xg_1_1 C0 hw tzb9 wd528 dX8_ofCue_58 ?_
        obtain rfl := Option.some.inj hf
        exact x_iret C0 hr hw dX8_ofCue_61
      · have hf := ite_f hf zc8
        by_cases zc10 : zx2 = (2 : Int32)
        · have hf := ite_t hf zc10
          refine lv_tableIn (off := 43) (tgt := 62) hx hb dX8_ofCue_19 (by rw [zc10]; decide) (by rw [zc10]; decide) (by rw [zc10]; rfl) (by decide) ?_
          refine x_aload_n C0 dX8_ofCue_62 rfl (lv_at hl 0 rfl) ?_
          obtain ⟨zb11, ezb11, hfzb11⟩ := nn_some hf
          have tzb11 : okA E G 1 zb11 := tzv3 _ ezb11
          subst ezb11
          have hf := hfzb11
          refine xg_1_2 C0 hw tzb11 wd529 dX8_ofCue_63 ?_
          obtain rfl := Option.some.inj hf
          exact x_iret C0 hr hw dX8_ofCue_66
        · have hf := ite_f hf zc10
          by_cases zc12 : zx2 = (3 : Int32)
          · have hf := ite_t hf zc12
            refine lv_tableIn (off := 48) (tgt := 67) hx hb dX8_ofCue_19 (by rw [zc12]; decide) (by rw [zc12]; decide) (by rw [zc12]; rfl) (by decide) ?_
            refine x_aload_n C0 dX8_ofCue_67 rfl (lv_at hl 0 rfl) ?_
            obtain ⟨zb13, ezb13, hfzb13⟩ := nn_some hf
            have tzb13 : okA E G 1 zb13 := tzv3 _ ezb13
            subst ezb13
            have hf := hfzb13
            refine xg_1_3 C0 hw tzb13 wd530 dX8_ofCue_68 ?_
            obtain rfl := Option.some.inj hf
            exact x_iret C0 hr hw dX8_ofCue_71
          · have hf := ite_f hf zc12
            by_cases zc14 : zx2 = (4 : Int32)
            · have hf := ite_t hf zc14
              refine lv_tableIn (off := 53) (tgt := 72) hx hb dX8_ofCue_19 (by rw [zc14]; decide) (by rw [zc14]; decide) (by rw [zc14]; rfl) (by decide) ?_
              refine x_aload_n C0 dX8_ofCue_72 rfl (lv_at hl 0 rfl) ?_
              obtain ⟨zb15, ezb15, hfzb15⟩ := nn_some hf
              have tzb15 : okA E G 1 zb15 := tzv3 _ ezb15
              subst ezb15
              have hf := hfzb15
              refine xg_1_4 C0 hw tzb15 wd531 dX8_ofCue_73 ?_
              obtain rfl := Option.some.inj hf
              exact x_iret C0 hr hw dX8_ofCue_76
            · have hf := ite_f hf zc14
              have zq0 := tsw_ne _ zc6 (show ((0 : Int32)).toInt = 0 by decide)
              have zq1 := tsw_ne _ zc8 (show ((1 : Int32)).toInt = 1 by decide)
              have zq2 := tsw_ne _ zc10 (show ((2 : Int32)).toInt = 2 by decide)
              have zq3 := tsw_ne _ zc12 (show ((3 : Int32)).toInt = 3 by decide)
              have zq4 := tsw_ne _ zc14 (show ((4 : Int32)).toInt = 4 by decide)
              refine lv_tableOut (tgt := 77) hx hb dX8_ofCue_19 (by omega) (by decide) ?_
              refine lv_bipush (v := (-2 : Int32)) hx hb dX8_ofCue_77 (by decide) ?_
              obtain rfl := Option.some.inj hf
              exact x_iret C0 hr hw dX8_ofCue_79
  · have hf := ite_t hf zc5
    refine lv_iconst (v := (-1 : Int32)) hx hb dX8_ofCue_16 (by decide) ?_
    obtain rfl := Option.some.inj hf
    exact x_iret C0 hr hw dX8_ofCue_17
noncomputable def m8_ofReel (fl : Nat) (len : Nat → Nat) (X : Xm) (I : Im) (zx0 : Nat) (zx1 : Int32) (zx2 : Int32) : Option (Int32) :=
  nn (gR X 128 zx0) fun zv1 =>
  nn (m4_reelAt fl len X I zv1 zx1) fun zv2 =>
  if zv2 = none then
    some ((-1 : Int32))
  else
    if zx2 = (0 : Int32) then
      nn zv2 fun zb6 =>
      some ((gF I 82 zb6))
    else
      if zx2 = (1 : Int32) then
        nn zv2 fun zb8 =>
        some ((gF I 83 zb8))
      else
        if zx2 = (2 : Int32) then
          nn zv2 fun zb10 =>
          some ((gF I 84 zb10))
        else
          if zx2 = (3 : Int32) then
            nn zv2 fun zb12 =>
            some ((gF I 81 zb12))
          else
            if zx2 = (4 : Int32) then
              nn zv2 fun zb14 =>
              nn (m5_tapeLength fl len X I zb14) fun zv15 =>
              some (zv15)
            else
              if zx2 = (5 : Int32) then
                nn (gR X 65 zv1) fun zv18 =>
                nn (m6_nextFor fl len X I zv18 zx1) fun zv19 =>
                some (zv19)
              else
                some ((-2 : Int32))
theorem hy8_ofReel : yX8_ofReel.cls = RX8 ∧ yX8_ofReel.cls ≠ "java/lang/invoke/MethodHandle" ∧ yX8_ofReel.cls ≠ "java/lang/invoke/VarHandle" ∧ (parseMethodDescriptor yX8_ofReel.desc).map (fun d => d.parameters.length) = some 2 := ⟨rfl, by decide +kernel, by decide +kernel, by decide +kernel⟩
set_option maxHeartbeats 4000000 in
set_option maxRecDepth 100000 in
theorem c8_ofReel (l : Launch) (E : EN) (G : GM) (fl : Nat) (X : Xm) (I : Im) (zx0 : Nat) (zx1 : Int32) (zx2 : Int32) (zt0 : okA E G 8 zx0) {rr : Int32} (hf : m8_ofReel fl G.2.2 X I zx0 zx1 zx2 = some rr) : MT l yX8_ofReel cX8_ofReel 4 (some .int) ({ frames := 2, cells := 0, slots := 0, locals := 43 } : Room) E G I X [.ref zx0, .int zx1, .int zx2] (QI E G rr I X) 0 0 := by
  refine Met.ofW (cc := cX8_ofReel) (maxL := 4) (ret := (some .int)) (by decide +kernel) rfl ?_
  intro p e s m args below meth c s₁ B hml hv
  obtain ⟨rfl, hw0, hSE⟩ := hv
  have C0 : CX p s m ([.ref zx0, .int zx1, .int zx2] : List Value).toArray meth c E cX8_ofReel RX8 4 := ⟨B.exec, B.bytes, hml, findClass_of_methodNamed B.named, fun w hw => atoms_spec (ws := WS yX8_ofReel cX8_ofReel 4 (some .int)) B.pre w (List.mem_cons_of_mem _ hw), B.notSynchronized, hSE⟩
  have hz : s.heap.size + 0 ≤ eB E + G.1 := Nat.le_of_eq hw0.2.1
  have hw : WD E G I X s.heap s.heap [] := ⟨hw0, va_S.rf⟩
  have hr := B.returns
  have hx := C0.1; have hb := C0.2.1; have hml := C0.2.2.1; have hown := C0.2.2.2.1; have hts := C0.2.2.2.2.1
  have hl := lv_entry ([.ref zx0, .int zx1, .int zx2]) (n := 4) (Nat.le_of_ble_eq_true rfl)
  rw [lg_entry_eq]
  generalize (lg_sl ([.ref zx0, .int zx1, .int zx2]) ++ List.replicate (4 - (lg_sl ([.ref zx0, .int zx1, .int zx2])).length) Slot.unset).toArray = ls at hl ⊢
  have hl : lv_has ls 4 [(0, .ref zx0), (1, .int zx1), (2, .int zx2)] := hl
  unfold m8_ofReel at hf
  refine lv_aload_n hx hb dX8_ofReel_0 rfl (lv_at hl 0 rfl) ?_
  obtain ⟨zv1, ezv1, hf⟩ := nn_some hf
  have tzv1 : okA E G 4 zv1 := wt_r hw ezv1
  refine xg_8_0 C0 hw zt0 wd479 ezv1 dX8_ofReel_1 ?_
  refine lv_iload_n hx hb dX8_ofReel_4 rfl (lv_at hl 1 rfl) ?_
  obtain ⟨zv2, ze3, hf⟩ := nn_some hf
  refine x_co (r := zv2) (I1 := I) (X1 := X) (x_runV (As := [.int zx1]) (rest := []) C0 (c4_reelAt l E G fl X I zv1 zx1 tzv1 ze3) hw 4 tzv1 (by decide) rfl wd43 wd537 wd369 wd370 wd356 ⟨rfl, rfl⟩ hy4_reelAt ⟨Nat.le_of_ble_eq_true rfl, Nat.le_of_ble_eq_true rfl⟩ rfl hl.1 (Nat.le_of_ble_eq_true rfl) ⟨Nat.zero_le _, Nat.zero_le _⟩ dX8_ofReel_5) hw (fun H locs hw tzv2 => ?_)
  refine x_astore_n (lv' := [(3, va_rf zv2), (0, .ref zx0), (1, .int zx1), (2, .int zx2)]) C0 dX8_ofReel_8 rfl hl (by decide) rfl (fun ls hl => ?_)
  refine x_aload_n C0 dX8_ofReel_9 rfl (lv_at hl 0 rfl) ?_
  refine x_ifnonnull (tgt := 15) C0 dX8_ofReel_10 (by decide) (fun zc4 => ?_) (fun zc4 => ?_)
  · have hf := ite_f hf zc4
    refine lv_iload_n hx hb dX8_ofReel_15 rfl (lv_at hl 3 rfl) ?_
    by_cases zc5 : zx2 = (0 : Int32)
    · have hf := ite_t hf zc5
      refine lv_tableIn (off := 40) (tgt := 56) hx hb dX8_ofReel_16 (by rw [zc5]; decide) (by rw [zc5]; decide) (by rw [zc5]; rfl) (by decide) ?_
      refine x_aload_n C0 dX8_ofReel_56 rfl (lv_at hl 0 rfl) ?_
      obtain ⟨zb6, ezb6, hfzb6⟩ := nn_some hf
      have tzb6 : okA E G 5 zb6 := tzv2 _ ezb6
      subst ezb6
      have hf := hfzb6
      refine xg_5_2 C0 hw tzb6 wd533 dX8_ofReel_57 ?_
      obtain rfl := Option.some.inj hf
      exact x_iret C0 hr hw dX8_ofReel_60
    · have hf := ite_f hf zc5
      by_cases zc7 : zx2 = (1 : Int32)
      · have hf := ite_t hf zc7
        refine lv_tableIn (off := 45) (tgt := 61) hx hb dX8_ofReel_16 (by rw [zc7]; decide) (by rw [zc7]; decide) (by rw [zc7]; rfl) (by decide) ?_
        refine x_aload_n C0 dX8_ofReel_61 rfl (lv_at hl 0 rfl) ?_
        obtain ⟨zb8, ezb8, hfzb8⟩ := nn_some hf
        have tzb8 : okA E G 5 zb8 := tzv2 _ ezb8
        subst ezb8
        have hf := hfzb8
        refine xg_5_3 C0 hw tzb8 wd534 dX8_ofReel_62 ?_
        obtain rfl := Option.some.inj hf
        exact x_iret C0 hr hw dX8_ofReel_65
      · have hf := ite_f hf zc7
        by_cases zc9 : zx2 = (2 : Int32)
        · have hf := ite_t hf zc9
          refine lv_tableIn (off := 50) (tgt := 66) hx hb dX8_ofReel_16 (by rw [zc9]; decide) (by rw [zc9]; decide) (by rw [zc9]; rfl) (by decide) ?_
          refine x_aload_n C0 dX8_ofReel_66 rfl (lv_at hl 0 rfl) ?_
          obtain ⟨zb10, ezb10, hfzb10⟩ := nn_some hf
          have tzb10 : okA E G 5 zb10 := tzv2 _ ezb10
          subst ezb10
          have hf := hfzb10
          refine xg_5_4 C0 hw tzb10 wd535 dX8_ofReel_67 ?_
          obtain rfl := Option.some.inj hf
          exact x_iret C0 hr hw dX8_ofReel_70
        · have hf := ite_f hf zc9
          by_cases zc11 : zx2 = (3 : Int32)
          · have hf := ite_t hf zc11
            refine lv_tableIn (off := 55) (tgt := 71) hx hb dX8_ofReel_16 (by rw [zc11]; decide) (by rw [zc11]; decide) (by rw [zc11]; rfl) (by decide) ?_
            refine x_aload_n C0 dX8_ofReel_71 rfl (lv_at hl 0 rfl) ?_
            obtain ⟨zb12, ezb12, hfzb12⟩ := nn_some hf
            have tzb12 : okA E G 5 zb12 := tzv2 _ ezb12
            subst ezb12
            have hf := hfzb12
            refine xg_5_1 C0 hw tzb12 wd536 dX8_ofReel_72 ?_
            obtain rfl := Option.some.inj hf
            exact x_iret C0 hr hw dX8_ofReel_75
          · have hf := ite_f hf zc11
            by_cases zc13 : zx2 = (4 : Int32)
            · have hf := ite_t hf zc13
              refine lv_tableIn (off := 60) (tgt := 76) hx hb dX8_ofReel_16 (by rw [zc13]; decide) (by rw [zc13]; decide) (by rw [zc13]; rfl) (by decide) ?_
              refine x_aload_n C0 dX8_ofReel_76 rfl (lv_at hl 0 rfl) ?_
              obtain ⟨zb14, ezb14, hfzb14⟩ := nn_some hf
              have tzb14 : okA E G 5 zb14 := tzv2 _ ezb14
              subst ezb14
              have hf := hfzb14
              obtain ⟨zv15, ze16, hf⟩ := nn_some hf
              refine x_ci (r := zv15) (I1 := I) (X1 := X) (x_runV (As := []) (rest := []) C0 (c5_tapeLength l E G fl X I zb14 tzb14 ze16) hw 5 tzb14 (by decide) rfl wd45 wd538 wd366 wd367 wd313 ⟨rfl, rfl⟩ hy5_tapeLength ⟨Nat.le_of_ble_eq_true rfl, Nat.le_of_ble_eq_true rfl⟩ rfl hl.1 (Nat.le_of_ble_eq_true rfl) ⟨Nat.zero_le _, Nat.zero_le _⟩ dX8_ofReel_77) hw (fun H locs hw => ?_)
              obtain rfl := Option.some.inj hf
              exact x_iret C0 hr hw dX8_ofReel_80
            · have hf := ite_f hf zc13
              by_cases zc17 : zx2 = (5 : Int32)
              · have hf := ite_t hf zc17
                refine lv_tableIn (off := 65) (tgt := 81) hx hb dX8_ofReel_16 (by rw [zc17]; decide) (by rw [zc17]; decide) (by rw [zc17]; rfl) (by decide) ?_
                refine lv_aload_n hx hb dX8_ofReel_81 rfl (lv_at hl 1 rfl) ?_
                refine xg_8_0 C0 hw zt0 wd479 ezv1 dX8_ofReel_82 ?_
                obtain ⟨zv18, ezv18, hf⟩ := nn_some hf
                have tzv18 : okA E G 6 zv18 := wt_r hw ezv18
                refine xg_4_1 C0 hw tzv1 wd513 ezv18 dX8_ofReel_85 ?_
                refine lv_iload_n hx hb dX8_ofReel_88 rfl (lv_at hl 2 rfl) ?_
                obtain ⟨zv19, ze20, hf⟩ := nn_some hf
                refine x_ci (r := zv19) (I1 := I) (X1 := X) (x_runV (As := [.int zx1]) (rest := []) C0 (c6_nextFor l E G fl X I zv18 zx1 tzv18 ze20) hw 6 tzv18 (by decide) rfl wd68 wd539 wd440 wd441 wd300 ⟨rfl, rfl⟩ hy6_nextFor ⟨Nat.le_of_ble_eq_true rfl, Nat.le_of_ble_eq_true rfl⟩ rfl hl.1 (Nat.le_of_ble_eq_true rfl) ⟨Nat.zero_le _, Nat.zero_le _⟩ dX8_ofReel_89) hw (fun H locs hw => ?_)
                obtain rfl := Option.some.inj hf
                exact x_iret C0 hr hw dX8_ofReel_92
              · have hf := ite_f hf zc17
                have zq0 := tsw_ne _ zc5 (show ((0 : Int32)).toInt = 0 by decide)
                have zq1 := tsw_ne _ zc7 (show ((1 : Int32)).toInt = 1 by decide)
                have zq2 := tsw_ne _ zc9 (show ((2 : Int32)).toInt = 2 by decide)
                have zq3 := tsw_ne _ zc11 (show ((3 : Int32)).toInt = 3 by decide)
                have zq4 := tsw_ne _ zc13 (show ((4 : Int32)).toInt = 4 by decide)
                have zq5 := tsw_ne _ zc17 (show ((5 : Int32)).toInt = 5 by decide)
                refine lv_tableOut (tgt := 93) hx hb dX8_ofReel_16 (by omega) (by decide) ?_
                refine lv_bipush (v := (-2 : Int32)) hx hb dX8_ofReel_93 (by decide) ?_
                obtain rfl := Option.some.inj hf
                exact x_iret C0 hr hw dX8_ofReel_95
  · have hf := ite_t hf zc4
    refine lv_iconst (v := (-1 : Int32)) hx hb dX8_ofReel_13 (by decide) ?_
    obtain rfl := Option.some.inj hf
    exact x_iret C0 hr hw dX8_ofReel_14
noncomputable def m8_ofSound (fl : Nat) (len : Nat → Nat) (X : Xm) (I : Im) (zx0 : Nat) (zx1 : Int32) (zx2 : Int32) (zx3 : Int32) : Option (Int32) :=
  nn (gR X 128 zx0) fun zv1 =>
  nn (m4_soundAt fl len X I zv1 zx1 zx2) fun zv2 =>
  if zv2 = none then
    some ((-1 : Int32))
  else
    if zx3 = (0 : Int32) then
      nn zv2 fun zb6 =>
      some ((gF I 112 zb6))
    else
      if zx3 = (1 : Int32) then
        nn zv2 fun zb8 =>
        some ((gF I 113 zb8))
      else
        if zx3 = (2 : Int32) then
          nn zv2 fun zb10 =>
          some ((gF I 114 zb10))
        else
          if zx3 = (3 : Int32) then
            nn zv2 fun zb12 =>
            some ((gF I 115 zb12))
          else
            some ((-2 : Int32))
theorem hy8_ofSound : yX8_ofSound.cls = RX8 ∧ yX8_ofSound.cls ≠ "java/lang/invoke/MethodHandle" ∧ yX8_ofSound.cls ≠ "java/lang/invoke/VarHandle" ∧ (parseMethodDescriptor yX8_ofSound.desc).map (fun d => d.parameters.length) = some 3 := ⟨rfl, by decide +kernel, by decide +kernel, by decide +kernel⟩
set_option maxHeartbeats 4000000 in
set_option maxRecDepth 100000 in
theorem c8_ofSound (l : Launch) (E : EN) (G : GM) (fl : Nat) (X : Xm) (I : Im) (zx0 : Nat) (zx1 : Int32) (zx2 : Int32) (zx3 : Int32) (zt0 : okA E G 8 zx0) {rr : Int32} (hf : m8_ofSound fl G.2.2 X I zx0 zx1 zx2 zx3 = some rr) : MT l yX8_ofSound cX8_ofSound 5 (some .int) ({ frames := 2, cells := 0, slots := 0, locals := 44 } : Room) E G I X [.ref zx0, .int zx1, .int zx2, .int zx3] (QI E G rr I X) 0 0 := by
  refine Met.ofW (cc := cX8_ofSound) (maxL := 5) (ret := (some .int)) (by decide +kernel) rfl ?_
  intro p e s m args below meth c s₁ B hml hv
  obtain ⟨rfl, hw0, hSE⟩ := hv
  have C0 : CX p s m ([.ref zx0, .int zx1, .int zx2, .int zx3] : List Value).toArray meth c E cX8_ofSound RX8 5 := ⟨B.exec, B.bytes, hml, findClass_of_methodNamed B.named, fun w hw => atoms_spec (ws := WS yX8_ofSound cX8_ofSound 5 (some .int)) B.pre w (List.mem_cons_of_mem _ hw), B.notSynchronized, hSE⟩
  have hz : s.heap.size + 0 ≤ eB E + G.1 := Nat.le_of_eq hw0.2.1
  have hw : WD E G I X s.heap s.heap [] := ⟨hw0, va_S.rf⟩
  have hr := B.returns
  have hx := C0.1; have hb := C0.2.1; have hml := C0.2.2.1; have hown := C0.2.2.2.1; have hts := C0.2.2.2.2.1
  have hl := lv_entry ([.ref zx0, .int zx1, .int zx2, .int zx3]) (n := 5) (Nat.le_of_ble_eq_true rfl)
  rw [lg_entry_eq]
  generalize (lg_sl ([.ref zx0, .int zx1, .int zx2, .int zx3]) ++ List.replicate (5 - (lg_sl ([.ref zx0, .int zx1, .int zx2, .int zx3])).length) Slot.unset).toArray = ls at hl ⊢
  have hl : lv_has ls 5 [(0, .ref zx0), (1, .int zx1), (2, .int zx2), (3, .int zx3)] := hl
  unfold m8_ofSound at hf
  refine lv_aload_n hx hb dX8_ofSound_0 rfl (lv_at hl 0 rfl) ?_
  obtain ⟨zv1, ezv1, hf⟩ := nn_some hf
  have tzv1 : okA E G 4 zv1 := wt_r hw ezv1
  refine xg_8_0 C0 hw zt0 wd479 ezv1 dX8_ofSound_1 ?_
  refine lv_iload_n hx hb dX8_ofSound_4 rfl (lv_at hl 1 rfl) ?_
  refine lv_iload_n hx hb dX8_ofSound_5 rfl (lv_at hl 2 rfl) ?_
  obtain ⟨zv2, ze3, hf⟩ := nn_some hf
  refine x_co (r := zv2) (I1 := I) (X1 := X) (x_runV (As := [.int zx1, .int zx2]) (rest := []) C0 (c4_soundAt l E G fl X I zv1 zx1 zx2 tzv1 ze3) hw 4 tzv1 (by decide) rfl wd48 wd544 wd387 wd388 wd356 ⟨rfl, rfl⟩ hy4_soundAt ⟨Nat.le_of_ble_eq_true rfl, Nat.le_of_ble_eq_true rfl⟩ rfl hl.1 (Nat.le_of_ble_eq_true rfl) ⟨Nat.zero_le _, Nat.zero_le _⟩ dX8_ofSound_6) hw (fun H locs hw tzv2 => ?_)
  refine x_astore (lv' := [(4, va_rf zv2), (0, .ref zx0), (1, .int zx1), (2, .int zx2), (3, .int zx3)]) C0 dX8_ofSound_9 hl (by decide) rfl (fun ls hl => ?_)
  refine x_aload C0 dX8_ofSound_11 (lv_at hl 0 rfl) ?_
  refine x_ifnonnull (tgt := 18) C0 dX8_ofSound_13 (by decide) (fun zc4 => ?_) (fun zc4 => ?_)
  · have hf := ite_f hf zc4
    refine lv_iload_n hx hb dX8_ofSound_18 rfl (lv_at hl 4 rfl) ?_
    by_cases zc5 : zx3 = (0 : Int32)
    · have hf := ite_t hf zc5
      refine lv_tableIn (off := 29) (tgt := 48) hx hb dX8_ofSound_19 (by rw [zc5]; decide) (by rw [zc5]; decide) (by rw [zc5]; rfl) (by decide) ?_
      refine x_aload C0 dX8_ofSound_48 (lv_at hl 0 rfl) ?_
      obtain ⟨zb6, ezb6, hfzb6⟩ := nn_some hf
      have tzb6 : okA E G 7 zb6 := tzv2 _ ezb6
      subst ezb6
      have hf := hfzb6
      refine xg_7_0 C0 hw tzb6 wd540 dX8_ofSound_50 ?_
      obtain rfl := Option.some.inj hf
      exact x_iret C0 hr hw dX8_ofSound_53
    · have hf := ite_f hf zc5
      by_cases zc7 : zx3 = (1 : Int32)
      · have hf := ite_t hf zc7
        refine lv_tableIn (off := 35) (tgt := 54) hx hb dX8_ofSound_19 (by rw [zc7]; decide) (by rw [zc7]; decide) (by rw [zc7]; rfl) (by decide) ?_
        refine x_aload C0 dX8_ofSound_54 (lv_at hl 0 rfl) ?_
        obtain ⟨zb8, ezb8, hfzb8⟩ := nn_some hf
        have tzb8 : okA E G 7 zb8 := tzv2 _ ezb8
        subst ezb8
        have hf := hfzb8
        refine xg_7_1 C0 hw tzb8 wd541 dX8_ofSound_56 ?_
        obtain rfl := Option.some.inj hf
        exact x_iret C0 hr hw dX8_ofSound_59
      · have hf := ite_f hf zc7
        by_cases zc9 : zx3 = (2 : Int32)
        · have hf := ite_t hf zc9
          refine lv_tableIn (off := 41) (tgt := 60) hx hb dX8_ofSound_19 (by rw [zc9]; decide) (by rw [zc9]; decide) (by rw [zc9]; rfl) (by decide) ?_
          refine x_aload C0 dX8_ofSound_60 (lv_at hl 0 rfl) ?_
          obtain ⟨zb10, ezb10, hfzb10⟩ := nn_some hf
          have tzb10 : okA E G 7 zb10 := tzv2 _ ezb10
          subst ezb10
          have hf := hfzb10
          refine xg_7_2 C0 hw tzb10 wd542 dX8_ofSound_62 ?_
          obtain rfl := Option.some.inj hf
          exact x_iret C0 hr hw dX8_ofSound_65
        · have hf := ite_f hf zc9
          by_cases zc11 : zx3 = (3 : Int32)
          · have hf := ite_t hf zc11
            refine lv_tableIn (off := 47) (tgt := 66) hx hb dX8_ofSound_19 (by rw [zc11]; decide) (by rw [zc11]; decide) (by rw [zc11]; rfl) (by decide) ?_
            refine x_aload C0 dX8_ofSound_66 (lv_at hl 0 rfl) ?_
            obtain ⟨zb12, ezb12, hfzb12⟩ := nn_some hf
            have tzb12 : okA E G 7 zb12 := tzv2 _ ezb12
            subst ezb12
            have hf := hfzb12
            refine xg_7_3 C0 hw tzb12 wd543 dX8_ofSound_68 ?_
            obtain rfl := Option.some.inj hf
            exact x_iret C0 hr hw dX8_ofSound_71
          · have hf := ite_f hf zc11
            have zq0 := tsw_ne _ zc5 (show ((0 : Int32)).toInt = 0 by decide)
            have zq1 := tsw_ne _ zc7 (show ((1 : Int32)).toInt = 1 by decide)
            have zq2 := tsw_ne _ zc9 (show ((2 : Int32)).toInt = 2 by decide)
            have zq3 := tsw_ne _ zc11 (show ((3 : Int32)).toInt = 3 by decide)
            refine lv_tableOut (tgt := 72) hx hb dX8_ofSound_19 (by omega) (by decide) ?_
            refine lv_bipush (v := (-2 : Int32)) hx hb dX8_ofSound_72 (by decide) ?_
            obtain rfl := Option.some.inj hf
            exact x_iret C0 hr hw dX8_ofSound_74
  · have hf := ite_t hf zc4
    refine lv_iconst (v := (-1 : Int32)) hx hb dX8_ofSound_16 (by decide) ?_
    obtain rfl := Option.some.inj hf
    exact x_iret C0 hr hw dX8_ofSound_17
noncomputable def m8_played_27 (fl : Nat) (len : Nat → Nat) (X : Xm) (I : Im) : Option (Int32) :=
  some ((-1 : Int32))
set_option maxHeartbeats 4000000 in
set_option maxRecDepth 100000 in
theorem w8_played_27 {p : Program} {l : Launch} {e : Env} {s : State} {m : MethodId} {args : Array Value} {below : List Frame} {meth : Method} {c : Code} {E : EN} {G : GM} {X : Xm} {I : Im} (C0 : CX p s m args meth c E cX8_played RX8 6) (hr : meth.sig.returnType = (some .int)) (hz : s.heap.size + 0 ≤ eB E + G.1) {rr : Int32} (fl : Nat) : ∀ (H : Heap) (locs : List Loc) (ls : Array Slot) , WD E G I X s.heap H locs → lv_has ls 6 [] → m8_played_27 fl G.2.2 X I = some rr → W p l e ({ frames := 2, cells := 0, slots := 0, locals := 44 } : Room) s m args below meth c H locs 0 0 (MQ below (QI E G rr I X) args s 0 0 (eA E)) (F0 m 27 ls []) := by
  intro H locs ls hw hl hf
  unfold m8_played_27 at hf
  have hx := C0.1; have hb := C0.2.1; have hml := C0.2.2.1; have hown := C0.2.2.2.1; have hts := C0.2.2.2.2.1
  refine lv_iconst (v := (-1 : Int32)) hx hb dX8_played_27 (by decide) ?_
  obtain rfl := Option.some.inj hf
  exact x_iret C0 hr hw dX8_played_28
noncomputable def m8_played (fl : Nat) (len : Nat → Nat) (X : Xm) (I : Im) (zx0 : Nat) (zx1 : Int32) (zx2 : Int32) : Option (Int32) :=
  if zx1 < 0 then
    m8_played_27 fl len X I 
  else
    nn (gR X 128 zx0) fun zv2 =>
    if (gF I 70 zv2) ≤ zx1 then
      m8_played_27 fl len X I 
    else
      nn (gR X 69 zv2) fun zv4 =>
      if zx1 < (nI (len zv4)) then
        ck (inb zx1 (len zv4) = true) <|
        lt (((gA I zv4 (zx1).toNatClampNeg) / (6 : Int32))) fun zv7 =>
        lt (((gA I zv4 (zx1).toNatClampNeg) - (gA I zv4 (zx1).toNatClampNeg) / (6 : Int32) * (6 : Int32))) fun zv8 =>
        nn (m4_soundAt fl len X I zv2 zv7 zv8) fun zv9 =>
        if zv9 = none then
          some ((-1 : Int32))
        else
          if zx2 = (0 : Int32) then
            some (zv7)
          else
            if zx2 = (1 : Int32) then
              some (zv8)
            else
              if zx2 = (2 : Int32) then
                nn zv9 fun zb15 =>
                some ((gF I 115 zb15))
              else
                some ((-2 : Int32))
      else
        m8_played_27 fl len X I 
theorem hy8_played : yX8_played.cls = RX8 ∧ yX8_played.cls ≠ "java/lang/invoke/MethodHandle" ∧ yX8_played.cls ≠ "java/lang/invoke/VarHandle" ∧ (parseMethodDescriptor yX8_played.desc).map (fun d => d.parameters.length) = some 2 := ⟨rfl, by decide +kernel, by decide +kernel, by decide +kernel⟩
set_option maxHeartbeats 4000000 in
set_option maxRecDepth 100000 in
theorem c8_played (l : Launch) (E : EN) (G : GM) (fl : Nat) (X : Xm) (I : Im) (zx0 : Nat) (zx1 : Int32) (zx2 : Int32) (zt0 : okA E G 8 zx0) {rr : Int32} (hf : m8_played fl G.2.2 X I zx0 zx1 zx2 = some rr) : MT l yX8_played cX8_played 6 (some .int) ({ frames := 2, cells := 0, slots := 0, locals := 44 } : Room) E G I X [.ref zx0, .int zx1, .int zx2] (QI E G rr I X) 0 0 := by
  refine Met.ofW (cc := cX8_played) (maxL := 6) (ret := (some .int)) (by decide +kernel) rfl ?_
  intro p e s m args below meth c s₁ B hml hv
  obtain ⟨rfl, hw0, hSE⟩ := hv
  have C0 : CX p s m ([.ref zx0, .int zx1, .int zx2] : List Value).toArray meth c E cX8_played RX8 6 := ⟨B.exec, B.bytes, hml, findClass_of_methodNamed B.named, fun w hw => atoms_spec (ws := WS yX8_played cX8_played 6 (some .int)) B.pre w (List.mem_cons_of_mem _ hw), B.notSynchronized, hSE⟩
  have hz : s.heap.size + 0 ≤ eB E + G.1 := Nat.le_of_eq hw0.2.1
  have hw : WD E G I X s.heap s.heap [] := ⟨hw0, va_S.rf⟩
  have hr := B.returns
  have hx := C0.1; have hb := C0.2.1; have hml := C0.2.2.1; have hown := C0.2.2.2.1; have hts := C0.2.2.2.2.1
  have hl := lv_entry ([.ref zx0, .int zx1, .int zx2]) (n := 6) (Nat.le_of_ble_eq_true rfl)
  rw [lg_entry_eq]
  generalize (lg_sl ([.ref zx0, .int zx1, .int zx2]) ++ List.replicate (6 - (lg_sl ([.ref zx0, .int zx1, .int zx2])).length) Slot.unset).toArray = ls at hl ⊢
  have hl : lv_has ls 6 [(0, .ref zx0), (1, .int zx1), (2, .int zx2)] := hl
  unfold m8_played at hf
  refine lv_iload_n hx hb dX8_played_0 rfl (lv_at hl 1 rfl) ?_
  refine lv_if_lt (tgt := 27) hx hb dX8_played_1 (by decide) (fun zc1 => ?_) (fun zc1 => ?_)
  · have hf := ite_t hf zc1
    exact w8_played_27 C0 hr hz fl _ _ _ hw (lv_sub hl [] rfl) hf
  · have hf := ite_f hf zc1
    refine lv_iload_n hx hb dX8_played_4 rfl (lv_at hl 1 rfl) ?_
    refine lv_aload_n hx hb dX8_played_5 rfl (lv_at hl 0 rfl) ?_
    obtain ⟨zv2, ezv2, hf⟩ := nn_some hf
    have tzv2 : okA E G 4 zv2 := wt_r hw ezv2
    refine xg_8_0 C0 hw zt0 wd479 ezv2 dX8_played_6 ?_
    refine xg_4_6 C0 hw tzv2 wd545 dX8_played_9 ?_
    refine lv_icmp_ge (tgt := 27) hx hb dX8_played_12 (by decide) (fun zc3 => ?_) (fun zc3 => ?_)
    · have hf := ite_t hf zc3
      exact w8_played_27 C0 hr hz fl _ _ _ hw (lv_sub hl [] rfl) hf
    · have hf := ite_f hf zc3
      refine lv_iload_n hx hb dX8_played_15 rfl (lv_at hl 1 rfl) ?_
      refine lv_aload_n hx hb dX8_played_16 rfl (lv_at hl 0 rfl) ?_
      refine xg_8_0 C0 hw zt0 wd479 ezv2 dX8_played_17 ?_
      obtain ⟨zv4, ezv4, hf⟩ := nn_some hf
      have tzv4 : okA E G 11 zv4 := wt_r hw ezv4
      refine xg_4_5 C0 hw tzv2 wd546 ezv4 dX8_played_20 ?_
      refine x_alen C0 hw 11 tzv4 (by decide) rfl dX8_played_23 ?_
      refine lv_icmp_lt (tgt := 29) hx hb dX8_played_24 (by decide) (fun zc5 => ?_) (fun zc5 => ?_)
      · have hf := ite_t hf zc5
        refine lv_aload_n hx hb dX8_played_29 rfl (lv_at hl 0 rfl) ?_
        refine xg_8_0 C0 hw zt0 wd479 ezv2 dX8_played_30 ?_
        refine xg_4_5 C0 hw tzv2 wd546 ezv4 dX8_played_33 ?_
        refine lv_iload_n hx hb dX8_played_36 rfl (lv_at hl 1 rfl) ?_
        obtain ⟨zhb6, hf⟩ := ck_some hf
        refine x_iald C0 hw tzv4 zhb6 dX8_played_37 ?_
        refine lv_bipush (v := (6 : Int32)) hx hb dX8_played_38 (by decide) ?_
        refine lv_idiv hx hb dX8_played_40 (by decide) ?_
        refine lv_topi (fun zv7 ezv7 => ?_)
        have hf := lt_at hf ezv7
        refine lv_istore_n (lv' := [(3, .int zv7), (0, .ref zx0), (1, .int zx1), (2, .int zx2)]) hx hb dX8_played_41 rfl hl (by decide) rfl (fun ls hl => ?_)
        refine lv_aload_n hx hb dX8_played_42 rfl (lv_at hl 1 rfl) ?_
        refine xg_8_0 C0 hw zt0 wd479 ezv2 dX8_played_43 ?_
        refine xg_4_5 C0 hw tzv2 wd546 ezv4 dX8_played_46 ?_
        refine lv_iload_n hx hb dX8_played_49 rfl (lv_at hl 2 rfl) ?_
        refine x_iald C0 hw tzv4 zhb6 dX8_played_50 ?_
        refine lv_bipush (v := (6 : Int32)) hx hb dX8_played_51 (by decide) ?_
        refine lv_irem hx hb dX8_played_53 (by decide) ?_
        refine lv_topi (fun zv8 ezv8 => ?_)
        have hf := lt_at hf ezv8
        refine lv_istore (lv' := [(4, .int zv8), (3, .int zv7), (0, .ref zx0), (1, .int zx1), (2, .int zx2)]) hx hb dX8_played_54 hl (by decide) rfl (fun ls hl => ?_)
        refine lv_aload_n hx hb dX8_played_56 rfl (lv_at hl 2 rfl) ?_
        refine xg_8_0 C0 hw zt0 wd479 ezv2 dX8_played_57 ?_
        refine lv_iload_n hx hb dX8_played_60 rfl (lv_at hl 1 rfl) ?_
        refine lv_iload hx hb dX8_played_61 (lv_at hl 0 rfl) ?_
        obtain ⟨zv9, ze10, hf⟩ := nn_some hf
        refine x_co (r := zv9) (I1 := I) (X1 := X) (x_runV (As := [.int zv7, .int zv8]) (rest := []) C0 (c4_soundAt l E G fl X I zv2 zv7 zv8 tzv2 ze10) hw 4 tzv2 (by decide) rfl wd48 wd544 wd387 wd388 wd356 ⟨rfl, rfl⟩ hy4_soundAt ⟨Nat.le_of_ble_eq_true rfl, Nat.le_of_ble_eq_true rfl⟩ rfl hl.1 (Nat.le_of_ble_eq_true rfl) ⟨Nat.zero_le _, Nat.zero_le _⟩ dX8_played_63) hw (fun H locs hw tzv9 => ?_)
        refine x_astore (lv' := [(5, va_rf zv9), (4, .int zv8), (3, .int zv7), (0, .ref zx0), (1, .int zx1), (2, .int zx2)]) C0 dX8_played_66 hl (by decide) rfl (fun ls hl => ?_)
        refine x_aload C0 dX8_played_68 (lv_at hl 0 rfl) ?_
        refine x_ifnonnull (tgt := 75) C0 dX8_played_70 (by decide) (fun zc11 => ?_) (fun zc11 => ?_)
        · have hf := ite_f hf zc11
          refine lv_iload_n hx hb dX8_played_75 rfl (lv_at hl 5 rfl) ?_
          by_cases zc12 : zx2 = (0 : Int32)
          · have hf := ite_t hf zc12
            refine lv_tableIn (off := 28) (tgt := 104) hx hb dX8_played_76 (by rw [zc12]; decide) (by rw [zc12]; decide) (by rw [zc12]; rfl) (by decide) ?_
            refine lv_iload_n hx hb dX8_played_104 rfl (lv_at hl 2 rfl) ?_
            obtain rfl := Option.some.inj hf
            exact x_iret C0 hr hw dX8_played_105
          · have hf := ite_f hf zc12
            by_cases zc13 : zx2 = (1 : Int32)
            · have hf := ite_t hf zc13
              refine lv_tableIn (off := 30) (tgt := 106) hx hb dX8_played_76 (by rw [zc13]; decide) (by rw [zc13]; decide) (by rw [zc13]; rfl) (by decide) ?_
              refine lv_iload hx hb dX8_played_106 (lv_at hl 1 rfl) ?_
              obtain rfl := Option.some.inj hf
              exact x_iret C0 hr hw dX8_played_108
            · have hf := ite_f hf zc13
              by_cases zc14 : zx2 = (2 : Int32)
              · have hf := ite_t hf zc14
                refine lv_tableIn (off := 33) (tgt := 109) hx hb dX8_played_76 (by rw [zc14]; decide) (by rw [zc14]; decide) (by rw [zc14]; rfl) (by decide) ?_
                refine x_aload C0 dX8_played_109 (lv_at hl 0 rfl) ?_
                obtain ⟨zb15, ezb15, hfzb15⟩ := nn_some hf
                have tzb15 : okA E G 7 zb15 := tzv9 _ ezb15
                subst ezb15
                have hf := hfzb15
                refine xg_7_3 C0 hw tzb15 wd543 dX8_played_111 ?_
                obtain rfl := Option.some.inj hf
                exact x_iret C0 hr hw dX8_played_114
              · have hf := ite_f hf zc14
                have zq0 := tsw_ne _ zc12 (show ((0 : Int32)).toInt = 0 by decide)
                have zq1 := tsw_ne _ zc13 (show ((1 : Int32)).toInt = 1 by decide)
                have zq2 := tsw_ne _ zc14 (show ((2 : Int32)).toInt = 2 by decide)
                refine lv_tableOut (tgt := 115) hx hb dX8_played_76 (by omega) (by decide) ?_
                refine lv_bipush (v := (-2 : Int32)) hx hb dX8_played_115 (by decide) ?_
                obtain rfl := Option.some.inj hf
                exact x_iret C0 hr hw dX8_played_117
        · have hf := ite_t hf zc11
          refine lv_iconst (v := (-1 : Int32)) hx hb dX8_played_73 (by decide) ?_
          obtain rfl := Option.some.inj hf
          exact x_iret C0 hr hw dX8_played_74
      · have hf := ite_f hf zc5
        exact w8_played_27 C0 hr hz fl _ _ _ hw (lv_sub hl [] rfl) hf
noncomputable def m8_ofChannel (fl : Nat) (len : Nat → Nat) (X : Xm) (I : Im) (zx0 : Nat) (zx1 : Int32) (zx2 : Int32) : Option (Int32) :=
  nn (gR X 128 zx0) fun zv1 =>
  nn (m4_channelAt fl len X I zv1 zx1) fun zv2 =>
  if zv2 = none then
    some ((-1 : Int32))
  else
    if zx2 = (0 : Int32) then
      nn zv2 fun zb6 =>
      some ((gF I 0 zb6))
    else
      if zx2 = (1 : Int32) then
        nn zv2 fun zb8 =>
        some ((gF I 1 zb8))
      else
        if zx2 = (2 : Int32) then
          nn (gR X 68 zv1) fun zv10 =>
          nn (m2_countOn fl len X I zv10 zx1) fun zv11 =>
          some (zv11)
        else
          some ((-2 : Int32))
theorem hy8_ofChannel : yX8_ofChannel.cls = RX8 ∧ yX8_ofChannel.cls ≠ "java/lang/invoke/MethodHandle" ∧ yX8_ofChannel.cls ≠ "java/lang/invoke/VarHandle" ∧ (parseMethodDescriptor yX8_ofChannel.desc).map (fun d => d.parameters.length) = some 2 := ⟨rfl, by decide +kernel, by decide +kernel, by decide +kernel⟩
set_option maxHeartbeats 4000000 in
set_option maxRecDepth 100000 in
theorem c8_ofChannel (l : Launch) (E : EN) (G : GM) (fl : Nat) (X : Xm) (I : Im) (zx0 : Nat) (zx1 : Int32) (zx2 : Int32) (zt0 : okA E G 8 zx0) {rr : Int32} (hf : m8_ofChannel fl G.2.2 X I zx0 zx1 zx2 = some rr) : MT l yX8_ofChannel cX8_ofChannel 4 (some .int) ({ frames := 1, cells := 0, slots := 0, locals := 23 } : Room) E G I X [.ref zx0, .int zx1, .int zx2] (QI E G rr I X) 0 0 := by
  refine Met.ofW (cc := cX8_ofChannel) (maxL := 4) (ret := (some .int)) (by decide +kernel) rfl ?_
  intro p e s m args below meth c s₁ B hml hv
  obtain ⟨rfl, hw0, hSE⟩ := hv
  have C0 : CX p s m ([.ref zx0, .int zx1, .int zx2] : List Value).toArray meth c E cX8_ofChannel RX8 4 := ⟨B.exec, B.bytes, hml, findClass_of_methodNamed B.named, fun w hw => atoms_spec (ws := WS yX8_ofChannel cX8_ofChannel 4 (some .int)) B.pre w (List.mem_cons_of_mem _ hw), B.notSynchronized, hSE⟩
  have hz : s.heap.size + 0 ≤ eB E + G.1 := Nat.le_of_eq hw0.2.1
  have hw : WD E G I X s.heap s.heap [] := ⟨hw0, va_S.rf⟩
  have hr := B.returns
  have hx := C0.1; have hb := C0.2.1; have hml := C0.2.2.1; have hown := C0.2.2.2.1; have hts := C0.2.2.2.2.1
  have hl := lv_entry ([.ref zx0, .int zx1, .int zx2]) (n := 4) (Nat.le_of_ble_eq_true rfl)
  rw [lg_entry_eq]
  generalize (lg_sl ([.ref zx0, .int zx1, .int zx2]) ++ List.replicate (4 - (lg_sl ([.ref zx0, .int zx1, .int zx2])).length) Slot.unset).toArray = ls at hl ⊢
  have hl : lv_has ls 4 [(0, .ref zx0), (1, .int zx1), (2, .int zx2)] := hl
  unfold m8_ofChannel at hf
  refine lv_aload_n hx hb dX8_ofChannel_0 rfl (lv_at hl 0 rfl) ?_
  obtain ⟨zv1, ezv1, hf⟩ := nn_some hf
  have tzv1 : okA E G 4 zv1 := wt_r hw ezv1
  refine xg_8_0 C0 hw zt0 wd479 ezv1 dX8_ofChannel_1 ?_
  refine lv_iload_n hx hb dX8_ofChannel_4 rfl (lv_at hl 1 rfl) ?_
  obtain ⟨zv2, ze3, hf⟩ := nn_some hf
  refine x_co (r := zv2) (I1 := I) (X1 := X) (x_runV (As := [.int zx1]) (rest := []) C0 (c4_channelAt l E G fl X I zv1 zx1 tzv1 ze3) hw 4 tzv1 (by decide) rfl wd55 wd550 wd401 wd402 wd356 ⟨rfl, rfl⟩ hy4_channelAt ⟨Nat.le_of_ble_eq_true rfl, Nat.le_of_ble_eq_true rfl⟩ rfl hl.1 (Nat.le_of_ble_eq_true rfl) ⟨Nat.zero_le _, Nat.zero_le _⟩ dX8_ofChannel_5) hw (fun H locs hw tzv2 => ?_)
  refine x_astore_n (lv' := [(3, va_rf zv2), (0, .ref zx0), (1, .int zx1), (2, .int zx2)]) C0 dX8_ofChannel_8 rfl hl (by decide) rfl (fun ls hl => ?_)
  refine x_aload_n C0 dX8_ofChannel_9 rfl (lv_at hl 0 rfl) ?_
  refine x_ifnonnull (tgt := 15) C0 dX8_ofChannel_10 (by decide) (fun zc4 => ?_) (fun zc4 => ?_)
  · have hf := ite_f hf zc4
    refine lv_iload_n hx hb dX8_ofChannel_15 rfl (lv_at hl 3 rfl) ?_
    by_cases zc5 : zx2 = (0 : Int32)
    · have hf := ite_t hf zc5
      refine lv_tableIn (off := 28) (tgt := 44) hx hb dX8_ofChannel_16 (by rw [zc5]; decide) (by rw [zc5]; decide) (by rw [zc5]; rfl) (by decide) ?_
      refine x_aload_n C0 dX8_ofChannel_44 rfl (lv_at hl 0 rfl) ?_
      obtain ⟨zb6, ezb6, hfzb6⟩ := nn_some hf
      have tzb6 : okA E G 0 zb6 := tzv2 _ ezb6
      subst ezb6
      have hf := hfzb6
      refine xg_0_0 C0 hw tzb6 wd547 dX8_ofChannel_45 ?_
      obtain rfl := Option.some.inj hf
      exact x_iret C0 hr hw dX8_ofChannel_48
    · have hf := ite_f hf zc5
      by_cases zc7 : zx2 = (1 : Int32)
      · have hf := ite_t hf zc7
        refine lv_tableIn (off := 33) (tgt := 49) hx hb dX8_ofChannel_16 (by rw [zc7]; decide) (by rw [zc7]; decide) (by rw [zc7]; rfl) (by decide) ?_
        refine x_aload_n C0 dX8_ofChannel_49 rfl (lv_at hl 0 rfl) ?_
        obtain ⟨zb8, ezb8, hfzb8⟩ := nn_some hf
        have tzb8 : okA E G 0 zb8 := tzv2 _ ezb8
        subst ezb8
        have hf := hfzb8
        refine xg_0_1 C0 hw tzb8 wd548 dX8_ofChannel_50 ?_
        obtain rfl := Option.some.inj hf
        exact x_iret C0 hr hw dX8_ofChannel_53
      · have hf := ite_f hf zc7
        by_cases zc9 : zx2 = (2 : Int32)
        · have hf := ite_t hf zc9
          refine lv_tableIn (off := 38) (tgt := 54) hx hb dX8_ofChannel_16 (by rw [zc9]; decide) (by rw [zc9]; decide) (by rw [zc9]; rfl) (by decide) ?_
          refine lv_aload_n hx hb dX8_ofChannel_54 rfl (lv_at hl 1 rfl) ?_
          refine xg_8_0 C0 hw zt0 wd479 ezv1 dX8_ofChannel_55 ?_
          obtain ⟨zv10, ezv10, hf⟩ := nn_some hf
          have tzv10 : okA E G 2 zv10 := wt_r hw ezv10
          refine xg_4_4 C0 hw tzv1 wd549 ezv10 dX8_ofChannel_58 ?_
          refine lv_iload_n hx hb dX8_ofChannel_61 rfl (lv_at hl 2 rfl) ?_
          obtain ⟨zv11, ze12, hf⟩ := nn_some hf
          refine x_ci (r := zv11) (I1 := I) (X1 := X) (x_runV (As := [.int zx1]) (rest := []) C0 (c2_countOn l E G fl X I zv10 zx1 tzv10 ze12) hw 2 tzv10 (by decide) rfl wd9 wd551 wd552 wd553 wd308 ⟨rfl, rfl⟩ hy2_countOn ⟨Nat.le_of_ble_eq_true rfl, Nat.le_of_ble_eq_true rfl⟩ rfl hl.1 (Nat.le_of_ble_eq_true rfl) ⟨Nat.zero_le _, Nat.zero_le _⟩ dX8_ofChannel_62) hw (fun H locs hw => ?_)
          obtain rfl := Option.some.inj hf
          exact x_iret C0 hr hw dX8_ofChannel_65
        · have hf := ite_f hf zc9
          have zq0 := tsw_ne _ zc5 (show ((0 : Int32)).toInt = 0 by decide)
          have zq1 := tsw_ne _ zc7 (show ((1 : Int32)).toInt = 1 by decide)
          have zq2 := tsw_ne _ zc9 (show ((2 : Int32)).toInt = 2 by decide)
          refine lv_tableOut (tgt := 66) hx hb dX8_ofChannel_16 (by omega) (by decide) ?_
          refine lv_bipush (v := (-2 : Int32)) hx hb dX8_ofChannel_66 (by decide) ?_
          obtain rfl := Option.some.inj hf
          exact x_iret C0 hr hw dX8_ofChannel_68
  · have hf := ite_t hf zc4
    refine lv_iconst (v := (-1 : Int32)) hx hb dX8_ofChannel_13 (by decide) ?_
    obtain rfl := Option.some.inj hf
    exact x_iret C0 hr hw dX8_ofChannel_14
noncomputable def m8_loud_27 (fl : Nat) (len : Nat → Nat) (X : Xm) (I : Im) : Option (Int32) :=
  some ((-1 : Int32))
set_option maxHeartbeats 4000000 in
set_option maxRecDepth 100000 in
theorem w8_loud_27 {p : Program} {l : Launch} {e : Env} {s : State} {m : MethodId} {args : Array Value} {below : List Frame} {meth : Method} {c : Code} {E : EN} {G : GM} {X : Xm} {I : Im} (C0 : CX p s m args meth c E cX8_loud RX8 2) (hr : meth.sig.returnType = (some .int)) (hz : s.heap.size + 0 ≤ eB E + G.1) {rr : Int32} (fl : Nat) : ∀ (H : Heap) (locs : List Loc) (ls : Array Slot) , WD E G I X s.heap H locs → lv_has ls 2 [] → m8_loud_27 fl G.2.2 X I = some rr → W p l e ({ frames := 0, cells := 0, slots := 0, locals := 0 } : Room) s m args below meth c H locs 0 0 (MQ below (QI E G rr I X) args s 0 0 (eA E)) (F0 m 27 ls []) := by
  intro H locs ls hw hl hf
  unfold m8_loud_27 at hf
  have hx := C0.1; have hb := C0.2.1; have hml := C0.2.2.1; have hown := C0.2.2.2.1; have hts := C0.2.2.2.2.1
  refine lv_iconst (v := (-1 : Int32)) hx hb dX8_loud_27 (by decide) ?_
  obtain rfl := Option.some.inj hf
  exact x_iret C0 hr hw dX8_loud_28
noncomputable def m8_loud (fl : Nat) (len : Nat → Nat) (X : Xm) (I : Im) (zx0 : Nat) (zx1 : Int32) : Option (Int32) :=
  if zx1 < 0 then
    m8_loud_27 fl len X I 
  else
    nn (gR X 128 zx0) fun zv2 =>
    if (gF I 72 zv2) ≤ zx1 then
      m8_loud_27 fl len X I 
    else
      nn (gR X 71 zv2) fun zv4 =>
      if zx1 < (nI (len zv4)) then
        ck (inb zx1 (len zv4) = true) <|
        some ((gA I zv4 (zx1).toNatClampNeg))
      else
        m8_loud_27 fl len X I 
theorem hy8_loud : yX8_loud.cls = RX8 ∧ yX8_loud.cls ≠ "java/lang/invoke/MethodHandle" ∧ yX8_loud.cls ≠ "java/lang/invoke/VarHandle" ∧ (parseMethodDescriptor yX8_loud.desc).map (fun d => d.parameters.length) = some 1 := ⟨rfl, by decide +kernel, by decide +kernel, by decide +kernel⟩
set_option maxHeartbeats 4000000 in
set_option maxRecDepth 100000 in
theorem c8_loud (l : Launch) (E : EN) (G : GM) (fl : Nat) (X : Xm) (I : Im) (zx0 : Nat) (zx1 : Int32) (zt0 : okA E G 8 zx0) {rr : Int32} (hf : m8_loud fl G.2.2 X I zx0 zx1 = some rr) : MT l yX8_loud cX8_loud 2 (some .int) ({ frames := 0, cells := 0, slots := 0, locals := 0 } : Room) E G I X [.ref zx0, .int zx1] (QI E G rr I X) 0 0 := by
  refine Met.ofW (cc := cX8_loud) (maxL := 2) (ret := (some .int)) (by decide +kernel) rfl ?_
  intro p e s m args below meth c s₁ B hml hv
  obtain ⟨rfl, hw0, hSE⟩ := hv
  have C0 : CX p s m ([.ref zx0, .int zx1] : List Value).toArray meth c E cX8_loud RX8 2 := ⟨B.exec, B.bytes, hml, findClass_of_methodNamed B.named, fun w hw => atoms_spec (ws := WS yX8_loud cX8_loud 2 (some .int)) B.pre w (List.mem_cons_of_mem _ hw), B.notSynchronized, hSE⟩
  have hz : s.heap.size + 0 ≤ eB E + G.1 := Nat.le_of_eq hw0.2.1
  have hw : WD E G I X s.heap s.heap [] := ⟨hw0, va_S.rf⟩
  have hr := B.returns
  have hx := C0.1; have hb := C0.2.1; have hml := C0.2.2.1; have hown := C0.2.2.2.1; have hts := C0.2.2.2.2.1
  have hl := lv_entry ([.ref zx0, .int zx1]) (n := 2) (Nat.le_of_ble_eq_true rfl)
  rw [lg_entry_eq]
  generalize (lg_sl ([.ref zx0, .int zx1]) ++ List.replicate (2 - (lg_sl ([.ref zx0, .int zx1])).length) Slot.unset).toArray = ls at hl ⊢
  have hl : lv_has ls 2 [(0, .ref zx0), (1, .int zx1)] := hl
  unfold m8_loud at hf
  refine lv_iload_n hx hb dX8_loud_0 rfl (lv_at hl 1 rfl) ?_
  refine lv_if_lt (tgt := 27) hx hb dX8_loud_1 (by decide) (fun zc1 => ?_) (fun zc1 => ?_)
  · have hf := ite_t hf zc1
    exact w8_loud_27 C0 hr hz fl _ _ _ hw (lv_sub hl [] rfl) hf
  · have hf := ite_f hf zc1
    refine lv_iload_n hx hb dX8_loud_4 rfl (lv_at hl 1 rfl) ?_
    refine lv_aload_n hx hb dX8_loud_5 rfl (lv_at hl 0 rfl) ?_
    obtain ⟨zv2, ezv2, hf⟩ := nn_some hf
    have tzv2 : okA E G 4 zv2 := wt_r hw ezv2
    refine xg_8_0 C0 hw zt0 wd479 ezv2 dX8_loud_6 ?_
    refine xg_4_8 C0 hw tzv2 wd554 dX8_loud_9 ?_
    refine lv_icmp_ge (tgt := 27) hx hb dX8_loud_12 (by decide) (fun zc3 => ?_) (fun zc3 => ?_)
    · have hf := ite_t hf zc3
      exact w8_loud_27 C0 hr hz fl _ _ _ hw (lv_sub hl [] rfl) hf
    · have hf := ite_f hf zc3
      refine lv_iload_n hx hb dX8_loud_15 rfl (lv_at hl 1 rfl) ?_
      refine lv_aload_n hx hb dX8_loud_16 rfl (lv_at hl 0 rfl) ?_
      refine xg_8_0 C0 hw zt0 wd479 ezv2 dX8_loud_17 ?_
      obtain ⟨zv4, ezv4, hf⟩ := nn_some hf
      have tzv4 : okA E G 11 zv4 := wt_r hw ezv4
      refine xg_4_7 C0 hw tzv2 wd555 ezv4 dX8_loud_20 ?_
      refine x_alen C0 hw 11 tzv4 (by decide) rfl dX8_loud_23 ?_
      refine lv_icmp_lt (tgt := 29) hx hb dX8_loud_24 (by decide) (fun zc5 => ?_) (fun zc5 => ?_)
      · have hf := ite_t hf zc5
        refine lv_aload_n hx hb dX8_loud_29 rfl (lv_at hl 0 rfl) ?_
        refine xg_8_0 C0 hw zt0 wd479 ezv2 dX8_loud_30 ?_
        refine xg_4_7 C0 hw tzv2 wd555 ezv4 dX8_loud_33 ?_
        refine lv_iload_n hx hb dX8_loud_36 rfl (lv_at hl 1 rfl) ?_
        obtain ⟨zhb6, hf⟩ := ck_some hf
        refine x_iald C0 hw tzv4 zhb6 dX8_loud_37 ?_
        obtain rfl := Option.some.inj hf
        exact x_iret C0 hr hw dX8_loud_38
      · have hf := ite_f hf zc5
        exact w8_loud_27 C0 hr hz fl _ _ _ hw (lv_sub hl [] rfl) hf
noncomputable def m8_count (fl : Nat) (len : Nat → Nat) (X : Xm) (I : Im) (zx0 : Nat) (zx1 : Int32) : Option (Int32) :=
  if zx1 = (0 : Int32) then
    nn (gR X 128 zx0) fun zv2 =>
    some ((gF I 72 zv2))
  else
    if zx1 = (1 : Int32) then
      nn (gR X 128 zx0) fun zv4 =>
      nn (gR X 65 zv4) fun zv5 =>
      some ((gF I 97 zv5))
    else
      if zx1 = (2 : Int32) then
        nn (gR X 128 zx0) fun zv7 =>
        nn (gR X 65 zv7) fun zv8 =>
        nn (m6_countOf fl len X I zv8 (0 : Int32)) fun zv9 =>
        some (zv9)
      else
        if zx1 = (3 : Int32) then
          nn (gR X 128 zx0) fun zv12 =>
          nn (gR X 65 zv12) fun zv13 =>
          nn (m6_countOf fl len X I zv13 (1 : Int32)) fun zv14 =>
          some (zv14)
        else
          if zx1 = (4 : Int32) then
            nn (gR X 128 zx0) fun zv17 =>
            nn (gR X 65 zv17) fun zv18 =>
            nn (m6_countOf fl len X I zv18 (2 : Int32)) fun zv19 =>
            some (zv19)
          else
            if zx1 = (5 : Int32) then
              nn (gR X 128 zx0) fun zv22 =>
              nn (gR X 65 zv22) fun zv23 =>
              nn (m6_countOf fl len X I zv23 (3 : Int32)) fun zv24 =>
              some (zv24)
            else
              if zx1 = (6 : Int32) then
                nn (gR X 128 zx0) fun zv27 =>
                nn (m4_loudestSecond fl len X I zv27) fun zv28 =>
                some (zv28)
              else
                if zx1 = (7 : Int32) then
                  nn (gR X 128 zx0) fun zv31 =>
                  nn (m4_tooLoudSeconds fl len X I zv31) fun zv32 =>
                  some (zv32)
                else
                  if zx1 = (8 : Int32) then
                    nn (gR X 128 zx0) fun zv35 =>
                    nn (m4_playingReels fl len X I zv35) fun zv36 =>
                    some (zv36)
                  else
                    if zx1 = (9 : Int32) then
                      nn (gR X 128 zx0) fun zv39 =>
                      nn (gR X 64 zv39) fun zv40 =>
                      ck (inb (0 : Int32) (len zv40) = true) <|
                      some ((gA I zv40 ((0 : Int32)).toNatClampNeg))
                    else
                      if zx1 = (10 : Int32) then
                        nn (gR X 128 zx0) fun zv43 =>
                        nn (gR X 64 zv43) fun zv44 =>
                        ck (inb (1 : Int32) (len zv44) = true) <|
                        some ((gA I zv44 ((1 : Int32)).toNatClampNeg))
                      else
                        if zx1 = (11 : Int32) then
                          nn (gR X 128 zx0) fun zv47 =>
                          nn (gR X 64 zv47) fun zv48 =>
                          ck (inb (2 : Int32) (len zv48) = true) <|
                          some ((gA I zv48 ((2 : Int32)).toNatClampNeg))
                        else
                          if zx1 = (12 : Int32) then
                            nn (gR X 128 zx0) fun zv51 =>
                            nn (gR X 64 zv51) fun zv52 =>
                            ck (inb (3 : Int32) (len zv52) = true) <|
                            some ((gA I zv52 ((3 : Int32)).toNatClampNeg))
                          else
                            if zx1 = (13 : Int32) then
                              nn (gR X 134 zx0) fun zv55 =>
                              some ((gF I 49 zv55))
                            else
                              if zx1 = (14 : Int32) then
                                some ((gF I 131 zx0))
                              else
                                some ((-2 : Int32))
theorem hy8_count : yX8_count.cls = RX8 ∧ yX8_count.cls ≠ "java/lang/invoke/MethodHandle" ∧ yX8_count.cls ≠ "java/lang/invoke/VarHandle" ∧ (parseMethodDescriptor yX8_count.desc).map (fun d => d.parameters.length) = some 1 := ⟨rfl, by decide +kernel, by decide +kernel, by decide +kernel⟩
set_option maxHeartbeats 4000000 in
set_option maxRecDepth 100000 in
theorem c8_count (l : Launch) (E : EN) (G : GM) (fl : Nat) (X : Xm) (I : Im) (zx0 : Nat) (zx1 : Int32) (zt0 : okA E G 8 zx0) {rr : Int32} (hf : m8_count fl G.2.2 X I zx0 zx1 = some rr) : MT l yX8_count cX8_count 2 (some .int) ({ frames := 1, cells := 0, slots := 0, locals := 23 } : Room) E G I X [.ref zx0, .int zx1] (QI E G rr I X) 0 0 := by
  refine Met.ofW (cc := cX8_count) (maxL := 2) (ret := (some .int)) (by decide +kernel) rfl ?_
  intro p e s m args below meth c s₁ B hml hv
  obtain ⟨rfl, hw0, hSE⟩ := hv
  have C0 : CX p s m ([.ref zx0, .int zx1] : List Value).toArray meth c E cX8_count RX8 2 := ⟨B.exec, B.bytes, hml, findClass_of_methodNamed B.named, fun w hw => atoms_spec (ws := WS yX8_count cX8_count 2 (some .int)) B.pre w (List.mem_cons_of_mem _ hw), B.notSynchronized, hSE⟩
  have hz : s.heap.size + 0 ≤ eB E + G.1 := Nat.le_of_eq hw0.2.1
  have hw : WD E G I X s.heap s.heap [] := ⟨hw0, va_S.rf⟩
  have hr := B.returns
  have hx := C0.1; have hb := C0.2.1; have hml := C0.2.2.1; have hown := C0.2.2.2.1; have hts := C0.2.2.2.2.1
  have hl := lv_entry ([.ref zx0, .int zx1]) (n := 2) (Nat.le_of_ble_eq_true rfl)
  rw [lg_entry_eq]
  generalize (lg_sl ([.ref zx0, .int zx1]) ++ List.replicate (2 - (lg_sl ([.ref zx0, .int zx1])).length) Slot.unset).toArray = ls at hl ⊢
  have hl : lv_has ls 2 [(0, .ref zx0), (1, .int zx1)] := hl
  unfold m8_count at hf
  refine lv_iload_n hx hb dX8_count_0 rfl (lv_at hl 1 rfl) ?_
  by_cases zc1 : zx1 = (0 : Int32)
  · have hf := ite_t hf zc1
    refine lv_tableIn (off := 75) (tgt := 76) hx hb dX8_count_1 (by rw [zc1]; decide) (by rw [zc1]; decide) (by rw [zc1]; rfl) (by decide) ?_
    refine lv_aload_n hx hb dX8_count_76 rfl (lv_at hl 0 rfl) ?_
    obtain ⟨zv2, ezv2, hf⟩ := nn_some hf
    have tzv2 : okA E G 4 zv2 := wt_r hw ezv2
    refine xg_8_0 C0 hw zt0 wd479 ezv2 dX8_count_77 ?_
    refine xg_4_8 C0 hw tzv2 wd554 dX8_count_80 ?_
    obtain rfl := Option.some.inj hf
    exact x_iret C0 hr hw dX8_count_83
  · have hf := ite_f hf zc1
    by_cases zc3 : zx1 = (1 : Int32)
    · have hf := ite_t hf zc3
      refine lv_tableIn (off := 83) (tgt := 84) hx hb dX8_count_1 (by rw [zc3]; decide) (by rw [zc3]; decide) (by rw [zc3]; rfl) (by decide) ?_
      refine lv_aload_n hx hb dX8_count_84 rfl (lv_at hl 0 rfl) ?_
      obtain ⟨zv4, ezv4, hf⟩ := nn_some hf
      have tzv4 : okA E G 4 zv4 := wt_r hw ezv4
      refine xg_8_0 C0 hw zt0 wd479 ezv4 dX8_count_85 ?_
      obtain ⟨zv5, ezv5, hf⟩ := nn_some hf
      have tzv5 : okA E G 6 zv5 := wt_r hw ezv5
      refine xg_4_1 C0 hw tzv4 wd513 ezv5 dX8_count_88 ?_
      refine xg_6_1 C0 hw tzv5 wd556 dX8_count_91 ?_
      obtain rfl := Option.some.inj hf
      exact x_iret C0 hr hw dX8_count_94
    · have hf := ite_f hf zc3
      by_cases zc6 : zx1 = (2 : Int32)
      · have hf := ite_t hf zc6
        refine lv_tableIn (off := 94) (tgt := 95) hx hb dX8_count_1 (by rw [zc6]; decide) (by rw [zc6]; decide) (by rw [zc6]; rfl) (by decide) ?_
        refine lv_aload_n hx hb dX8_count_95 rfl (lv_at hl 0 rfl) ?_
        obtain ⟨zv7, ezv7, hf⟩ := nn_some hf
        have tzv7 : okA E G 4 zv7 := wt_r hw ezv7
        refine xg_8_0 C0 hw zt0 wd479 ezv7 dX8_count_96 ?_
        obtain ⟨zv8, ezv8, hf⟩ := nn_some hf
        have tzv8 : okA E G 6 zv8 := wt_r hw ezv8
        refine xg_4_1 C0 hw tzv7 wd513 ezv8 dX8_count_99 ?_
        refine lv_iconst (v := (0 : Int32)) hx hb dX8_count_102 (by decide) ?_
        obtain ⟨zv9, ze10, hf⟩ := nn_some hf
        refine x_ci (r := zv9) (I1 := I) (X1 := X) (x_runV (As := [.int (0 : Int32)]) (rest := []) C0 (c6_countOf l E G fl X I zv8 (0 : Int32) tzv8 ze10) hw 6 tzv8 (by decide) rfl wd60 wd559 wd411 wd412 wd300 ⟨rfl, rfl⟩ hy6_countOf ⟨Nat.le_of_ble_eq_true rfl, Nat.le_of_ble_eq_true rfl⟩ rfl hl.1 (Nat.le_of_ble_eq_true rfl) ⟨Nat.zero_le _, Nat.zero_le _⟩ dX8_count_103) hw (fun H locs hw => ?_)
        obtain rfl := Option.some.inj hf
        exact x_iret C0 hr hw dX8_count_106
      · have hf := ite_f hf zc6
        by_cases zc11 : zx1 = (3 : Int32)
        · have hf := ite_t hf zc11
          refine lv_tableIn (off := 106) (tgt := 107) hx hb dX8_count_1 (by rw [zc11]; decide) (by rw [zc11]; decide) (by rw [zc11]; rfl) (by decide) ?_
          refine lv_aload_n hx hb dX8_count_107 rfl (lv_at hl 0 rfl) ?_
          obtain ⟨zv12, ezv12, hf⟩ := nn_some hf
          have tzv12 : okA E G 4 zv12 := wt_r hw ezv12
          refine xg_8_0 C0 hw zt0 wd479 ezv12 dX8_count_108 ?_
          obtain ⟨zv13, ezv13, hf⟩ := nn_some hf
          have tzv13 : okA E G 6 zv13 := wt_r hw ezv13
          refine xg_4_1 C0 hw tzv12 wd513 ezv13 dX8_count_111 ?_
          refine lv_iconst (v := (1 : Int32)) hx hb dX8_count_114 (by decide) ?_
          obtain ⟨zv14, ze15, hf⟩ := nn_some hf
          refine x_ci (r := zv14) (I1 := I) (X1 := X) (x_runV (As := [.int (1 : Int32)]) (rest := []) C0 (c6_countOf l E G fl X I zv13 (1 : Int32) tzv13 ze15) hw 6 tzv13 (by decide) rfl wd60 wd559 wd411 wd412 wd300 ⟨rfl, rfl⟩ hy6_countOf ⟨Nat.le_of_ble_eq_true rfl, Nat.le_of_ble_eq_true rfl⟩ rfl hl.1 (Nat.le_of_ble_eq_true rfl) ⟨Nat.zero_le _, Nat.zero_le _⟩ dX8_count_115) hw (fun H locs hw => ?_)
          obtain rfl := Option.some.inj hf
          exact x_iret C0 hr hw dX8_count_118
        · have hf := ite_f hf zc11
          by_cases zc16 : zx1 = (4 : Int32)
          · have hf := ite_t hf zc16
            refine lv_tableIn (off := 118) (tgt := 119) hx hb dX8_count_1 (by rw [zc16]; decide) (by rw [zc16]; decide) (by rw [zc16]; rfl) (by decide) ?_
            refine lv_aload_n hx hb dX8_count_119 rfl (lv_at hl 0 rfl) ?_
            obtain ⟨zv17, ezv17, hf⟩ := nn_some hf
            have tzv17 : okA E G 4 zv17 := wt_r hw ezv17
            refine xg_8_0 C0 hw zt0 wd479 ezv17 dX8_count_120 ?_
            obtain ⟨zv18, ezv18, hf⟩ := nn_some hf
            have tzv18 : okA E G 6 zv18 := wt_r hw ezv18
            refine xg_4_1 C0 hw tzv17 wd513 ezv18 dX8_count_123 ?_
            refine lv_iconst (v := (2 : Int32)) hx hb dX8_count_126 (by decide) ?_
            obtain ⟨zv19, ze20, hf⟩ := nn_some hf
            refine x_ci (r := zv19) (I1 := I) (X1 := X) (x_runV (As := [.int (2 : Int32)]) (rest := []) C0 (c6_countOf l E G fl X I zv18 (2 : Int32) tzv18 ze20) hw 6 tzv18 (by decide) rfl wd60 wd559 wd411 wd412 wd300 ⟨rfl, rfl⟩ hy6_countOf ⟨Nat.le_of_ble_eq_true rfl, Nat.le_of_ble_eq_true rfl⟩ rfl hl.1 (Nat.le_of_ble_eq_true rfl) ⟨Nat.zero_le _, Nat.zero_le _⟩ dX8_count_127) hw (fun H locs hw => ?_)
            obtain rfl := Option.some.inj hf
            exact x_iret C0 hr hw dX8_count_130
          · have hf := ite_f hf zc16
            by_cases zc21 : zx1 = (5 : Int32)
            · have hf := ite_t hf zc21
              refine lv_tableIn (off := 130) (tgt := 131) hx hb dX8_count_1 (by rw [zc21]; decide) (by rw [zc21]; decide) (by rw [zc21]; rfl) (by decide) ?_
              refine lv_aload_n hx hb dX8_count_131 rfl (lv_at hl 0 rfl) ?_
              obtain ⟨zv22, ezv22, hf⟩ := nn_some hf
              have tzv22 : okA E G 4 zv22 := wt_r hw ezv22
              refine xg_8_0 C0 hw zt0 wd479 ezv22 dX8_count_132 ?_
              obtain ⟨zv23, ezv23, hf⟩ := nn_some hf
              have tzv23 : okA E G 6 zv23 := wt_r hw ezv23
              refine xg_4_1 C0 hw tzv22 wd513 ezv23 dX8_count_135 ?_
              refine lv_iconst (v := (3 : Int32)) hx hb dX8_count_138 (by decide) ?_
              obtain ⟨zv24, ze25, hf⟩ := nn_some hf
              refine x_ci (r := zv24) (I1 := I) (X1 := X) (x_runV (As := [.int (3 : Int32)]) (rest := []) C0 (c6_countOf l E G fl X I zv23 (3 : Int32) tzv23 ze25) hw 6 tzv23 (by decide) rfl wd60 wd559 wd411 wd412 wd300 ⟨rfl, rfl⟩ hy6_countOf ⟨Nat.le_of_ble_eq_true rfl, Nat.le_of_ble_eq_true rfl⟩ rfl hl.1 (Nat.le_of_ble_eq_true rfl) ⟨Nat.zero_le _, Nat.zero_le _⟩ dX8_count_139) hw (fun H locs hw => ?_)
              obtain rfl := Option.some.inj hf
              exact x_iret C0 hr hw dX8_count_142
            · have hf := ite_f hf zc21
              by_cases zc26 : zx1 = (6 : Int32)
              · have hf := ite_t hf zc26
                refine lv_tableIn (off := 142) (tgt := 143) hx hb dX8_count_1 (by rw [zc26]; decide) (by rw [zc26]; decide) (by rw [zc26]; rfl) (by decide) ?_
                refine lv_aload_n hx hb dX8_count_143 rfl (lv_at hl 0 rfl) ?_
                obtain ⟨zv27, ezv27, hf⟩ := nn_some hf
                have tzv27 : okA E G 4 zv27 := wt_r hw ezv27
                refine xg_8_0 C0 hw zt0 wd479 ezv27 dX8_count_144 ?_
                obtain ⟨zv28, ze29, hf⟩ := nn_some hf
                refine x_ci (r := zv28) (I1 := I) (X1 := X) (x_runV (As := []) (rest := []) C0 (c4_loudestSecond l E G fl X I zv27 tzv27 ze29) hw 4 tzv27 (by decide) rfl wd75 wd560 wd561 wd562 wd356 ⟨rfl, rfl⟩ hy4_loudestSecond ⟨Nat.le_of_ble_eq_true rfl, Nat.le_of_ble_eq_true rfl⟩ rfl hl.1 (Nat.le_of_ble_eq_true rfl) ⟨Nat.zero_le _, Nat.zero_le _⟩ dX8_count_147) hw (fun H locs hw => ?_)
                obtain rfl := Option.some.inj hf
                exact x_iret C0 hr hw dX8_count_150
              · have hf := ite_f hf zc26
                by_cases zc30 : zx1 = (7 : Int32)
                · have hf := ite_t hf zc30
                  refine lv_tableIn (off := 150) (tgt := 151) hx hb dX8_count_1 (by rw [zc30]; decide) (by rw [zc30]; decide) (by rw [zc30]; rfl) (by decide) ?_
                  refine lv_aload_n hx hb dX8_count_151 rfl (lv_at hl 0 rfl) ?_
                  obtain ⟨zv31, ezv31, hf⟩ := nn_some hf
                  have tzv31 : okA E G 4 zv31 := wt_r hw ezv31
                  refine xg_8_0 C0 hw zt0 wd479 ezv31 dX8_count_152 ?_
                  obtain ⟨zv32, ze33, hf⟩ := nn_some hf
                  refine x_ci (r := zv32) (I1 := I) (X1 := X) (x_runV (As := []) (rest := []) C0 (c4_tooLoudSeconds l E G fl X I zv31 tzv31 ze33) hw 4 tzv31 (by decide) rfl wd76 wd563 wd564 wd565 wd356 ⟨rfl, rfl⟩ hy4_tooLoudSeconds ⟨Nat.le_of_ble_eq_true rfl, Nat.le_of_ble_eq_true rfl⟩ rfl hl.1 (Nat.le_of_ble_eq_true rfl) ⟨Nat.zero_le _, Nat.zero_le _⟩ dX8_count_155) hw (fun H locs hw => ?_)
                  obtain rfl := Option.some.inj hf
                  exact x_iret C0 hr hw dX8_count_158
                · have hf := ite_f hf zc30
                  by_cases zc34 : zx1 = (8 : Int32)
                  · have hf := ite_t hf zc34
                    refine lv_tableIn (off := 158) (tgt := 159) hx hb dX8_count_1 (by rw [zc34]; decide) (by rw [zc34]; decide) (by rw [zc34]; rfl) (by decide) ?_
                    refine lv_aload_n hx hb dX8_count_159 rfl (lv_at hl 0 rfl) ?_
                    obtain ⟨zv35, ezv35, hf⟩ := nn_some hf
                    have tzv35 : okA E G 4 zv35 := wt_r hw ezv35
                    refine xg_8_0 C0 hw zt0 wd479 ezv35 dX8_count_160 ?_
                    obtain ⟨zv36, ze37, hf⟩ := nn_some hf
                    refine x_ci (r := zv36) (I1 := I) (X1 := X) (x_runV (As := []) (rest := []) C0 (c4_playingReels l E G fl X I zv35 tzv35 ze37) hw 4 tzv35 (by decide) rfl wd73 wd566 wd473 wd474 wd356 ⟨rfl, rfl⟩ hy4_playingReels ⟨Nat.le_of_ble_eq_true rfl, Nat.le_of_ble_eq_true rfl⟩ rfl hl.1 (Nat.le_of_ble_eq_true rfl) ⟨Nat.zero_le _, Nat.zero_le _⟩ dX8_count_163) hw (fun H locs hw => ?_)
                    obtain rfl := Option.some.inj hf
                    exact x_iret C0 hr hw dX8_count_166
                  · have hf := ite_f hf zc34
                    by_cases zc38 : zx1 = (9 : Int32)
                    · have hf := ite_t hf zc38
                      refine lv_tableIn (off := 166) (tgt := 167) hx hb dX8_count_1 (by rw [zc38]; decide) (by rw [zc38]; decide) (by rw [zc38]; rfl) (by decide) ?_
                      refine lv_aload_n hx hb dX8_count_167 rfl (lv_at hl 0 rfl) ?_
                      obtain ⟨zv39, ezv39, hf⟩ := nn_some hf
                      have tzv39 : okA E G 4 zv39 := wt_r hw ezv39
                      refine xg_8_0 C0 hw zt0 wd479 ezv39 dX8_count_168 ?_
                      obtain ⟨zv40, ezv40, hf⟩ := nn_some hf
                      have tzv40 : okA E G 11 zv40 := wt_r hw ezv40
                      refine xg_4_0 C0 hw tzv39 wd557 ezv40 dX8_count_171 ?_
                      refine lv_iconst (v := (0 : Int32)) hx hb dX8_count_174 (by decide) ?_
                      obtain ⟨zhb41, hf⟩ := ck_some hf
                      refine x_iald C0 hw tzv40 zhb41 dX8_count_175 ?_
                      obtain rfl := Option.some.inj hf
                      exact x_iret C0 hr hw dX8_count_176
                    · have hf := ite_f hf zc38
                      by_cases zc42 : zx1 = (10 : Int32)
                      · have hf := ite_t hf zc42
                        refine lv_tableIn (off := 176) (tgt := 177) hx hb dX8_count_1 (by rw [zc42]; decide) (by rw [zc42]; decide) (by rw [zc42]; rfl) (by decide) ?_
                        refine lv_aload_n hx hb dX8_count_177 rfl (lv_at hl 0 rfl) ?_
                        obtain ⟨zv43, ezv43, hf⟩ := nn_some hf
                        have tzv43 : okA E G 4 zv43 := wt_r hw ezv43
                        refine xg_8_0 C0 hw zt0 wd479 ezv43 dX8_count_178 ?_
                        obtain ⟨zv44, ezv44, hf⟩ := nn_some hf
                        have tzv44 : okA E G 11 zv44 := wt_r hw ezv44
                        refine xg_4_0 C0 hw tzv43 wd557 ezv44 dX8_count_181 ?_
                        refine lv_iconst (v := (1 : Int32)) hx hb dX8_count_184 (by decide) ?_
                        obtain ⟨zhb45, hf⟩ := ck_some hf
                        refine x_iald C0 hw tzv44 zhb45 dX8_count_185 ?_
                        obtain rfl := Option.some.inj hf
                        exact x_iret C0 hr hw dX8_count_186
                      · have hf := ite_f hf zc42
                        by_cases zc46 : zx1 = (11 : Int32)
                        · have hf := ite_t hf zc46
                          refine lv_tableIn (off := 186) (tgt := 187) hx hb dX8_count_1 (by rw [zc46]; decide) (by rw [zc46]; decide) (by rw [zc46]; rfl) (by decide) ?_
                          refine lv_aload_n hx hb dX8_count_187 rfl (lv_at hl 0 rfl) ?_
                          obtain ⟨zv47, ezv47, hf⟩ := nn_some hf
                          have tzv47 : okA E G 4 zv47 := wt_r hw ezv47
                          refine xg_8_0 C0 hw zt0 wd479 ezv47 dX8_count_188 ?_
                          obtain ⟨zv48, ezv48, hf⟩ := nn_some hf
                          have tzv48 : okA E G 11 zv48 := wt_r hw ezv48
                          refine xg_4_0 C0 hw tzv47 wd557 ezv48 dX8_count_191 ?_
                          refine lv_iconst (v := (2 : Int32)) hx hb dX8_count_194 (by decide) ?_
                          obtain ⟨zhb49, hf⟩ := ck_some hf
                          refine x_iald C0 hw tzv48 zhb49 dX8_count_195 ?_
                          obtain rfl := Option.some.inj hf
                          exact x_iret C0 hr hw dX8_count_196
                        · have hf := ite_f hf zc46
                          by_cases zc50 : zx1 = (12 : Int32)
                          · have hf := ite_t hf zc50
                            refine lv_tableIn (off := 196) (tgt := 197) hx hb dX8_count_1 (by rw [zc50]; decide) (by rw [zc50]; decide) (by rw [zc50]; rfl) (by decide) ?_
                            refine lv_aload_n hx hb dX8_count_197 rfl (lv_at hl 0 rfl) ?_
                            obtain ⟨zv51, ezv51, hf⟩ := nn_some hf
                            have tzv51 : okA E G 4 zv51 := wt_r hw ezv51
                            refine xg_8_0 C0 hw zt0 wd479 ezv51 dX8_count_198 ?_
                            obtain ⟨zv52, ezv52, hf⟩ := nn_some hf
                            have tzv52 : okA E G 11 zv52 := wt_r hw ezv52
                            refine xg_4_0 C0 hw tzv51 wd557 ezv52 dX8_count_201 ?_
                            refine lv_iconst (v := (3 : Int32)) hx hb dX8_count_204 (by decide) ?_
                            obtain ⟨zhb53, hf⟩ := ck_some hf
                            refine x_iald C0 hw tzv52 zhb53 dX8_count_205 ?_
                            obtain rfl := Option.some.inj hf
                            exact x_iret C0 hr hw dX8_count_206
                          · have hf := ite_f hf zc50
                            by_cases zc54 : zx1 = (13 : Int32)
                            · have hf := ite_t hf zc54
                              refine lv_tableIn (off := 206) (tgt := 207) hx hb dX8_count_1 (by rw [zc54]; decide) (by rw [zc54]; decide) (by rw [zc54]; rfl) (by decide) ?_
                              refine lv_aload_n hx hb dX8_count_207 rfl (lv_at hl 0 rfl) ?_
                              obtain ⟨zv55, ezv55, hf⟩ := nn_some hf
                              have tzv55 : okA E G 3 zv55 := wt_r hw ezv55
                              refine xg_8_6 C0 hw zt0 wd487 ezv55 dX8_count_208 ?_
                              refine xg_3_1 C0 hw tzv55 wd558 dX8_count_211 ?_
                              obtain rfl := Option.some.inj hf
                              exact x_iret C0 hr hw dX8_count_214
                            · have hf := ite_f hf zc54
                              by_cases zc56 : zx1 = (14 : Int32)
                              · have hf := ite_t hf zc56
                                refine lv_tableIn (off := 214) (tgt := 215) hx hb dX8_count_1 (by rw [zc56]; decide) (by rw [zc56]; decide) (by rw [zc56]; rfl) (by decide) ?_
                                refine lv_aload_n hx hb dX8_count_215 rfl (lv_at hl 0 rfl) ?_
                                refine xg_8_3 C0 hw zt0 wd491 dX8_count_216 ?_
                                obtain rfl := Option.some.inj hf
                                exact x_iret C0 hr hw dX8_count_219
                              · have hf := ite_f hf zc56
                                have zq0 := tsw_ne _ zc1 (show ((0 : Int32)).toInt = 0 by decide)
                                have zq1 := tsw_ne _ zc3 (show ((1 : Int32)).toInt = 1 by decide)
                                have zq2 := tsw_ne _ zc6 (show ((2 : Int32)).toInt = 2 by decide)
                                have zq3 := tsw_ne _ zc11 (show ((3 : Int32)).toInt = 3 by decide)
                                have zq4 := tsw_ne _ zc16 (show ((4 : Int32)).toInt = 4 by decide)
                                have zq5 := tsw_ne _ zc21 (show ((5 : Int32)).toInt = 5 by decide)
                                have zq6 := tsw_ne _ zc26 (show ((6 : Int32)).toInt = 6 by decide)
                                have zq7 := tsw_ne _ zc30 (show ((7 : Int32)).toInt = 7 by decide)
                                have zq8 := tsw_ne _ zc34 (show ((8 : Int32)).toInt = 8 by decide)
                                have zq9 := tsw_ne _ zc38 (show ((9 : Int32)).toInt = 9 by decide)
                                have zq10 := tsw_ne _ zc42 (show ((10 : Int32)).toInt = 10 by decide)
                                have zq11 := tsw_ne _ zc46 (show ((11 : Int32)).toInt = 11 by decide)
                                have zq12 := tsw_ne _ zc50 (show ((12 : Int32)).toInt = 12 by decide)
                                have zq13 := tsw_ne _ zc54 (show ((13 : Int32)).toInt = 13 by decide)
                                have zq14 := tsw_ne _ zc56 (show ((14 : Int32)).toInt = 14 by decide)
                                refine lv_tableOut (tgt := 220) hx hb dX8_count_1 (by omega) (by decide) ?_
                                refine lv_bipush (v := (-2 : Int32)) hx hb dX8_count_220 (by decide) ?_
                                obtain rfl := Option.some.inj hf
                                exact x_iret C0 hr hw dX8_count_222
noncomputable def m8_rest_125 (fl : Nat) (len : Nat → Nat) (X : Xm) (I : Im) (zx0 : Nat) (zx1 : Int32) (zx2 : Int32) (zx3 : Int32) (zx4 : Int32) (zx5 : Int32) (zx6 : Int32) (p_128 : Nat) (p_129 : Nat) (p_129_65 : Nat) : Option (Int32 × Im) :=
  if zx1 = (0 : Int32) then
    some (zx3, I)
  else
    if zx1 = (1 : Int32) then
      nn (m6_missedCues fl len X I p_129_65) fun zv3 =>
      some ((zv3 - zx2), I)
    else
      if zx1 = (2 : Int32) then
        some (zx4, I)
      else
        if zx1 = (3 : Int32) then
          some (zx5, I)
        else
          some (zx6, I)
set_option maxHeartbeats 4000000 in
set_option maxRecDepth 100000 in
theorem w8_rest_125 {p : Program} {l : Launch} {e : Env} {s : State} {m : MethodId} {args : Array Value} {below : List Frame} {meth : Method} {c : Code} {E : EN} {G : GM} {X : Xm} (C0 : CX p s m args meth c E cX8_rest RX8 9) (hr : meth.sig.returnType = (some .int)) (hz : s.heap.size + 0 ≤ eB E + G.1) {rr : Int32 × Im} (fl : Nat) : ∀ (I : Im) (H : Heap) (locs : List Loc) (ls : Array Slot) (zx0 : Nat) (zx1 : Int32) (zx2 : Int32) (zx3 : Int32) (zx4 : Int32) (zx5 : Int32) (zx6 : Int32) (p_128 : Nat) (p_129 : Nat) (p_129_65 : Nat) (zt0 : okA E G 8 zx0) (ep_128 : gR X 128 zx0 = some p_128) (tp_128 : okA E G 4 p_128) (ep_129 : gR X 129 zx0 = some p_129) (tp_129 : okA E G 4 p_129) (ep_129_65 : gR X 65 p_129 = some p_129_65) (tp_129_65 : okA E G 6 p_129_65), WD E G I X s.heap H locs → lv_has ls 9 [(0, .ref zx0), (1, .int zx1), (2, .int zx2), (3, .int zx3), (4, .int zx4), (5, .int zx5), (6, .int zx6)] → m8_rest_125 fl G.2.2 X I zx0 zx1 zx2 zx3 zx4 zx5 zx6 p_128 p_129 p_129_65 = some rr → W p l e ({ frames := 4, cells := 0, slots := 0, locals := 90 } : Room) s m args below meth c H locs 0 0 (MQ below (QI E G rr.1 rr.2 X) args s 0 0 (eA E)) (F0 m 125 ls []) := by
  intro I H locs ls zx0 zx1 zx2 zx3 zx4 zx5 zx6 p_128 p_129 p_129_65 zt0 ep_128 tp_128 ep_129 tp_129 ep_129_65 tp_129_65 hw hl hf
  unfold m8_rest_125 at hf
  have hx := C0.1; have hb := C0.2.1; have hml := C0.2.2.1; have hown := C0.2.2.2.1; have hts := C0.2.2.2.2.1
  refine lv_iload_n hx hb dX8_rest_125 rfl (lv_at hl 1 rfl) ?_
  by_cases zc1 : zx1 = (0 : Int32)
  · have hf := ite_t hf zc1
    refine lv_tableIn (off := 30) (tgt := 156) hx hb dX8_rest_126 (by rw [zc1]; decide) (by rw [zc1]; decide) (by rw [zc1]; rfl) (by decide) ?_
    refine lv_iload_n hx hb dX8_rest_156 rfl (lv_at hl 3 rfl) ?_
    obtain rfl := Option.some.inj hf
    exact x_iret C0 hr hw dX8_rest_157
  · have hf := ite_f hf zc1
    by_cases zc2 : zx1 = (1 : Int32)
    · have hf := ite_t hf zc2
      refine lv_tableIn (off := 32) (tgt := 158) hx hb dX8_rest_126 (by rw [zc2]; decide) (by rw [zc2]; decide) (by rw [zc2]; rfl) (by decide) ?_
      refine lv_aload_n hx hb dX8_rest_158 rfl (lv_at hl 0 rfl) ?_
      refine xg_8_1 C0 hw zt0 wd480 ep_129 dX8_rest_159 ?_
      refine xg_4_1 C0 hw tp_129 wd513 ep_129_65 dX8_rest_162 ?_
      obtain ⟨zv3, ze4, hf⟩ := nn_some hf
      refine x_ci (r := zv3) (I1 := I) (X1 := X) (x_runV (As := []) (rest := []) C0 (c6_missedCues l E G fl X I p_129_65 tp_129_65 ze4) hw 6 tp_129_65 (by decide) rfl wd61 wd569 wd464 wd465 wd300 ⟨rfl, rfl⟩ hy6_missedCues ⟨Nat.le_of_ble_eq_true rfl, Nat.le_of_ble_eq_true rfl⟩ rfl hl.1 (Nat.le_of_ble_eq_true rfl) ⟨Nat.zero_le _, Nat.zero_le _⟩ dX8_rest_165) hw (fun H locs hw => ?_)
      refine lv_iload_n hx hb dX8_rest_168 rfl (lv_at hl 2 rfl) ?_
      refine lv_isub hx hb dX8_rest_169 ?_
      obtain rfl := Option.some.inj hf
      exact x_iret C0 hr hw dX8_rest_170
    · have hf := ite_f hf zc2
      by_cases zc5 : zx1 = (2 : Int32)
      · have hf := ite_t hf zc5
        refine lv_tableIn (off := 45) (tgt := 171) hx hb dX8_rest_126 (by rw [zc5]; decide) (by rw [zc5]; decide) (by rw [zc5]; rfl) (by decide) ?_
        refine lv_iload hx hb dX8_rest_171 (lv_at hl 4 rfl) ?_
        obtain rfl := Option.some.inj hf
        exact x_iret C0 hr hw dX8_rest_173
      · have hf := ite_f hf zc5
        by_cases zc6 : zx1 = (3 : Int32)
        · have hf := ite_t hf zc6
          refine lv_tableIn (off := 48) (tgt := 174) hx hb dX8_rest_126 (by rw [zc6]; decide) (by rw [zc6]; decide) (by rw [zc6]; rfl) (by decide) ?_
          refine lv_iload hx hb dX8_rest_174 (lv_at hl 5 rfl) ?_
          obtain rfl := Option.some.inj hf
          exact x_iret C0 hr hw dX8_rest_176
        · have hf := ite_f hf zc6
          have zq0 := tsw_ne _ zc1 (show ((0 : Int32)).toInt = 0 by decide)
          have zq1 := tsw_ne _ zc2 (show ((1 : Int32)).toInt = 1 by decide)
          have zq2 := tsw_ne _ zc5 (show ((2 : Int32)).toInt = 2 by decide)
          have zq3 := tsw_ne _ zc6 (show ((3 : Int32)).toInt = 3 by decide)
          refine lv_tableOut (tgt := 177) hx hb dX8_rest_126 (by omega) (by decide) ?_
          refine lv_iload hx hb dX8_rest_177 (lv_at hl 6 rfl) ?_
          obtain rfl := Option.some.inj hf
          exact x_iret C0 hr hw dX8_rest_179
noncomputable def m8_rest_119 (fl : Nat) (len : Nat → Nat) (X : Xm) (zr46 : Im → Nat → Int32 → Int32 → Int32 → Int32 → Int32 → Int32 → Nat → Nat → Nat → Option (Int32 × Im)) (I : Im) (zx0 : Nat) (zx1 : Int32) (zx2 : Int32) (zx3 : Int32) (zx4 : Int32) (zx5 : Int32) (zx6 : Int32) (p_128 : Nat) (p_129 : Nat) (p_129_64 : Nat) (p_129_65 : Nat) : Option (Int32 × Im) :=
  lt (zx3 + 1) fun zv1 =>
  zr46 I zx0 zx1 zx2 zv1 zx4 zx5 zx6 p_128 p_129 p_129_65
set_option maxHeartbeats 4000000 in
set_option maxRecDepth 100000 in
theorem w8_rest_119 {p : Program} {l : Launch} {e : Env} {s : State} {m : MethodId} {args : Array Value} {below : List Frame} {meth : Method} {c : Code} {E : EN} {G : GM} {X : Xm} (C0 : CX p s m args meth c E cX8_rest RX8 9) (hr : meth.sig.returnType = (some .int)) (hz : s.heap.size + 0 ≤ eB E + G.1) {rr : Int32 × Im} (fl : Nat) (zr46 : Im → Nat → Int32 → Int32 → Int32 → Int32 → Int32 → Int32 → Nat → Nat → Nat → Option (Int32 × Im)) (zhr46 : ∀ (I : Im) (H : Heap) (locs : List Loc) (ls : Array Slot) (zx0 : Nat) (zx1 : Int32) (zx2 : Int32) (zx3 : Int32) (zx4 : Int32) (zx5 : Int32) (zx6 : Int32) (p_128 : Nat) (p_129 : Nat) (p_129_65 : Nat) (zt0 : okA E G 8 zx0) (ep_128 : gR X 128 zx0 = some p_128) (tp_128 : okA E G 4 p_128) (ep_129 : gR X 129 zx0 = some p_129) (tp_129 : okA E G 4 p_129) (ep_129_65 : gR X 65 p_129 = some p_129_65) (tp_129_65 : okA E G 6 p_129_65), WD E G I X s.heap H locs → lv_has ls 9 [(0, .ref zx0), (1, .int zx1), (2, .int zx2), (3, .int zx3), (4, .int zx4), (5, .int zx5), (6, .int zx6)] → zr46 I zx0 zx1 zx2 zx3 zx4 zx5 zx6 p_128 p_129 p_129_65 = some rr → W p l e ({ frames := 4, cells := 0, slots := 0, locals := 90 } : Room) s m args below meth c H locs 0 0 (MQ below (QI E G rr.1 rr.2 X) args s 0 0 (eA E)) (F0 m 46 ls [])) : ∀ (I : Im) (H : Heap) (locs : List Loc) (ls : Array Slot) (zx0 : Nat) (zx1 : Int32) (zx2 : Int32) (zx3 : Int32) (zx4 : Int32) (zx5 : Int32) (zx6 : Int32) (p_128 : Nat) (p_129 : Nat) (p_129_64 : Nat) (p_129_65 : Nat) (zt0 : okA E G 8 zx0) (ep_128 : gR X 128 zx0 = some p_128) (tp_128 : okA E G 4 p_128) (ep_129 : gR X 129 zx0 = some p_129) (tp_129 : okA E G 4 p_129) (ep_129_64 : gR X 64 p_129 = some p_129_64) (tp_129_64 : okA E G 11 p_129_64) (ep_129_65 : gR X 65 p_129 = some p_129_65) (tp_129_65 : okA E G 6 p_129_65), WD E G I X s.heap H locs → lv_has ls 9 [(0, .ref zx0), (1, .int zx1), (2, .int zx2), (3, .int zx3), (4, .int zx4), (5, .int zx5), (6, .int zx6)] → m8_rest_119 fl G.2.2 X zr46 I zx0 zx1 zx2 zx3 zx4 zx5 zx6 p_128 p_129 p_129_64 p_129_65 = some rr → W p l e ({ frames := 4, cells := 0, slots := 0, locals := 90 } : Room) s m args below meth c H locs 0 0 (MQ below (QI E G rr.1 rr.2 X) args s 0 0 (eA E)) (F0 m 119 ls []) := by
  intro I H locs ls zx0 zx1 zx2 zx3 zx4 zx5 zx6 p_128 p_129 p_129_64 p_129_65 zt0 ep_128 tp_128 ep_129 tp_129 ep_129_64 tp_129_64 ep_129_65 tp_129_65 hw hl hf
  unfold m8_rest_119 at hf
  have hx := C0.1; have hb := C0.2.1; have hml := C0.2.2.1; have hown := C0.2.2.2.1; have hts := C0.2.2.2.2.1
  obtain ⟨zv1, ezv1⟩ : ∃ y : Int32, y = zx3 + 1 := ⟨_, rfl⟩
  have hf := lt_at hf ezv1
  refine lv_iinc (v := zv1) (lv' := [(3, .int zv1), (0, .ref zx0), (1, .int zx1), (2, .int zx2), (4, .int zx4), (5, .int zx5), (6, .int zx6)]) hx hb dX8_rest_119 hl (k := 3) rfl (by rw [ezv1]; rfl) (by decide) rfl (fun ls hl => ?_)
  refine lv_goto (tgt := 46) hx hb dX8_rest_122 (by decide) ?_
  exact zhr46 I _ _ _ zx0 zx1 zx2 zv1 zx4 zx5 zx6 p_128 p_129 p_129_65 zt0 ep_128 tp_128 ep_129 tp_129 ep_129_65 tp_129_65 hw (lv_sub hl [1, 2, 3, 0, 4, 5, 6] rfl) hf
noncomputable def m8_rest_102 (fl : Nat) (len : Nat → Nat) (X : Xm) (zr46 : Im → Nat → Int32 → Int32 → Int32 → Int32 → Int32 → Int32 → Nat → Nat → Nat → Option (Int32 × Im)) (I : Im) (zx0 : Nat) (zx1 : Int32) (zx2 : Int32) (zx3 : Int32) (zx4 : Int32) (zx5 : Int32) (zx6 : Int32) (zx8 : Int32) (p_128 : Nat) (p_129 : Nat) (p_129_65 : Nat) : Option (Int32 × Im) :=
  nn (gR X 64 p_129) fun zv1 =>
  ck (inb (3 : Int32) (len zv1) = true) <|
  if zx8 ≤ (gA I zv1 ((3 : Int32)).toNatClampNeg) then
    m8_rest_119 fl len X zr46 I zx0 zx1 zx2 zx3 zx4 zx5 zx6 p_128 p_129 zv1 p_129_65
  else
    lt (zx6 + 1) fun zv4 =>
    m8_rest_119 fl len X zr46 I zx0 zx1 zx2 zx3 zx4 zx5 zv4 p_128 p_129 zv1 p_129_65
set_option maxHeartbeats 4000000 in
set_option maxRecDepth 100000 in
theorem w8_rest_102 {p : Program} {l : Launch} {e : Env} {s : State} {m : MethodId} {args : Array Value} {below : List Frame} {meth : Method} {c : Code} {E : EN} {G : GM} {X : Xm} (C0 : CX p s m args meth c E cX8_rest RX8 9) (hr : meth.sig.returnType = (some .int)) (hz : s.heap.size + 0 ≤ eB E + G.1) {rr : Int32 × Im} (fl : Nat) (zr46 : Im → Nat → Int32 → Int32 → Int32 → Int32 → Int32 → Int32 → Nat → Nat → Nat → Option (Int32 × Im)) (zhr46 : ∀ (I : Im) (H : Heap) (locs : List Loc) (ls : Array Slot) (zx0 : Nat) (zx1 : Int32) (zx2 : Int32) (zx3 : Int32) (zx4 : Int32) (zx5 : Int32) (zx6 : Int32) (p_128 : Nat) (p_129 : Nat) (p_129_65 : Nat) (zt0 : okA E G 8 zx0) (ep_128 : gR X 128 zx0 = some p_128) (tp_128 : okA E G 4 p_128) (ep_129 : gR X 129 zx0 = some p_129) (tp_129 : okA E G 4 p_129) (ep_129_65 : gR X 65 p_129 = some p_129_65) (tp_129_65 : okA E G 6 p_129_65), WD E G I X s.heap H locs → lv_has ls 9 [(0, .ref zx0), (1, .int zx1), (2, .int zx2), (3, .int zx3), (4, .int zx4), (5, .int zx5), (6, .int zx6)] → zr46 I zx0 zx1 zx2 zx3 zx4 zx5 zx6 p_128 p_129 p_129_65 = some rr → W p l e ({ frames := 4, cells := 0, slots := 0, locals := 90 } : Room) s m args below meth c H locs 0 0 (MQ below (QI E G rr.1 rr.2 X) args s 0 0 (eA E)) (F0 m 46 ls [])) : ∀ (I : Im) (H : Heap) (locs : List Loc) (ls : Array Slot) (zx0 : Nat) (zx1 : Int32) (zx2 : Int32) (zx3 : Int32) (zx4 : Int32) (zx5 : Int32) (zx6 : Int32) (zx8 : Int32) (p_128 : Nat) (p_129 : Nat) (p_129_65 : Nat) (zt0 : okA E G 8 zx0) (ep_128 : gR X 128 zx0 = some p_128) (tp_128 : okA E G 4 p_128) (ep_129 : gR X 129 zx0 = some p_129) (tp_129 : okA E G 4 p_129) (ep_129_65 : gR X 65 p_129 = some p_129_65) (tp_129_65 : okA E G 6 p_129_65), WD E G I X s.heap H locs → lv_has ls 9 [(0, .ref zx0), (1, .int zx1), (2, .int zx2), (3, .int zx3), (4, .int zx4), (5, .int zx5), (6, .int zx6), (8, .int zx8)] → m8_rest_102 fl G.2.2 X zr46 I zx0 zx1 zx2 zx3 zx4 zx5 zx6 zx8 p_128 p_129 p_129_65 = some rr → W p l e ({ frames := 4, cells := 0, slots := 0, locals := 90 } : Room) s m args below meth c H locs 0 0 (MQ below (QI E G rr.1 rr.2 X) args s 0 0 (eA E)) (F0 m 102 ls []) := by
  intro I H locs ls zx0 zx1 zx2 zx3 zx4 zx5 zx6 zx8 p_128 p_129 p_129_65 zt0 ep_128 tp_128 ep_129 tp_129 ep_129_65 tp_129_65 hw hl hf
  unfold m8_rest_102 at hf
  have hx := C0.1; have hb := C0.2.1; have hml := C0.2.2.1; have hown := C0.2.2.2.1; have hts := C0.2.2.2.2.1
  refine lv_iload hx hb dX8_rest_102 (lv_at hl 7 rfl) ?_
  refine lv_aload_n hx hb dX8_rest_104 rfl (lv_at hl 0 rfl) ?_
  refine xg_8_1 C0 hw zt0 wd480 ep_129 dX8_rest_105 ?_
  obtain ⟨zv1, ezv1, hf⟩ := nn_some hf
  have tzv1 : okA E G 11 zv1 := wt_r hw ezv1
  refine xg_4_0 C0 hw tp_129 wd557 ezv1 dX8_rest_108 ?_
  refine lv_iconst (v := (3 : Int32)) hx hb dX8_rest_111 (by decide) ?_
  obtain ⟨zhb2, hf⟩ := ck_some hf
  refine x_iald C0 hw tzv1 zhb2 dX8_rest_112 ?_
  refine lv_icmp_le (tgt := 119) hx hb dX8_rest_113 (by decide) (fun zc3 => ?_) (fun zc3 => ?_)
  · have hf := ite_t hf zc3
    exact w8_rest_119 C0 hr hz fl zr46 zhr46 I _ _ _ zx0 zx1 zx2 zx3 zx4 zx5 zx6 p_128 p_129 zv1 p_129_65 zt0 ep_128 tp_128 ep_129 tp_129 ezv1 tzv1 ep_129_65 tp_129_65 hw (lv_sub hl [0, 1, 2, 3, 4, 5, 6] rfl) hf
  · have hf := ite_f hf zc3
    obtain ⟨zv4, ezv4⟩ : ∃ y : Int32, y = zx6 + 1 := ⟨_, rfl⟩
    have hf := lt_at hf ezv4
    refine lv_iinc (v := zv4) (lv' := [(6, .int zv4), (0, .ref zx0), (1, .int zx1), (2, .int zx2), (3, .int zx3), (4, .int zx4), (5, .int zx5), (8, .int zx8)]) hx hb dX8_rest_116 hl (k := 6) rfl (by rw [ezv4]; rfl) (by decide) rfl (fun ls hl => ?_)
    exact w8_rest_119 C0 hr hz fl zr46 zhr46 I _ _ _ zx0 zx1 zx2 zx3 zx4 zx5 zv4 p_128 p_129 zv1 p_129_65 zt0 ep_128 tp_128 ep_129 tp_129 ezv1 tzv1 ep_129_65 tp_129_65 hw (lv_sub hl [1, 2, 3, 4, 5, 6, 0] rfl) hf
noncomputable def m8_rest_94 (fl : Nat) (len : Nat → Nat) (X : Xm) (zr46 : Im → Nat → Int32 → Int32 → Int32 → Int32 → Int32 → Int32 → Nat → Nat → Nat → Option (Int32 × Im)) (I : Im) (zx0 : Nat) (zx1 : Int32) (zx2 : Int32) (zx3 : Int32) (zx6 : Int32) (zx7 : Int32) (zx8 : Int32) (p_128 : Nat) (p_129 : Nat) (p_129_65 : Nat) : Option (Int32 × Im) :=
  m8_rest_102 fl len X zr46 I zx0 zx1 zx2 zx3 zx7 zx8 zx6 zx8 p_128 p_129 p_129_65
set_option maxHeartbeats 4000000 in
set_option maxRecDepth 100000 in
theorem w8_rest_94 {p : Program} {l : Launch} {e : Env} {s : State} {m : MethodId} {args : Array Value} {below : List Frame} {meth : Method} {c : Code} {E : EN} {G : GM} {X : Xm} (C0 : CX p s m args meth c E cX8_rest RX8 9) (hr : meth.sig.returnType = (some .int)) (hz : s.heap.size + 0 ≤ eB E + G.1) {rr : Int32 × Im} (fl : Nat) (zr46 : Im → Nat → Int32 → Int32 → Int32 → Int32 → Int32 → Int32 → Nat → Nat → Nat → Option (Int32 × Im)) (zhr46 : ∀ (I : Im) (H : Heap) (locs : List Loc) (ls : Array Slot) (zx0 : Nat) (zx1 : Int32) (zx2 : Int32) (zx3 : Int32) (zx4 : Int32) (zx5 : Int32) (zx6 : Int32) (p_128 : Nat) (p_129 : Nat) (p_129_65 : Nat) (zt0 : okA E G 8 zx0) (ep_128 : gR X 128 zx0 = some p_128) (tp_128 : okA E G 4 p_128) (ep_129 : gR X 129 zx0 = some p_129) (tp_129 : okA E G 4 p_129) (ep_129_65 : gR X 65 p_129 = some p_129_65) (tp_129_65 : okA E G 6 p_129_65), WD E G I X s.heap H locs → lv_has ls 9 [(0, .ref zx0), (1, .int zx1), (2, .int zx2), (3, .int zx3), (4, .int zx4), (5, .int zx5), (6, .int zx6)] → zr46 I zx0 zx1 zx2 zx3 zx4 zx5 zx6 p_128 p_129 p_129_65 = some rr → W p l e ({ frames := 4, cells := 0, slots := 0, locals := 90 } : Room) s m args below meth c H locs 0 0 (MQ below (QI E G rr.1 rr.2 X) args s 0 0 (eA E)) (F0 m 46 ls [])) : ∀ (I : Im) (H : Heap) (locs : List Loc) (ls : Array Slot) (zx0 : Nat) (zx1 : Int32) (zx2 : Int32) (zx3 : Int32) (zx6 : Int32) (zx7 : Int32) (zx8 : Int32) (p_128 : Nat) (p_129 : Nat) (p_129_65 : Nat) (zt0 : okA E G 8 zx0) (ep_128 : gR X 128 zx0 = some p_128) (tp_128 : okA E G 4 p_128) (ep_129 : gR X 129 zx0 = some p_129) (tp_129 : okA E G 4 p_129) (ep_129_65 : gR X 65 p_129 = some p_129_65) (tp_129_65 : okA E G 6 p_129_65), WD E G I X s.heap H locs → lv_has ls 9 [(0, .ref zx0), (1, .int zx1), (2, .int zx2), (3, .int zx3), (6, .int zx6), (7, .int zx7), (8, .int zx8)] → m8_rest_94 fl G.2.2 X zr46 I zx0 zx1 zx2 zx3 zx6 zx7 zx8 p_128 p_129 p_129_65 = some rr → W p l e ({ frames := 4, cells := 0, slots := 0, locals := 90 } : Room) s m args below meth c H locs 0 0 (MQ below (QI E G rr.1 rr.2 X) args s 0 0 (eA E)) (F0 m 94 ls []) := by
  intro I H locs ls zx0 zx1 zx2 zx3 zx6 zx7 zx8 p_128 p_129 p_129_65 zt0 ep_128 tp_128 ep_129 tp_129 ep_129_65 tp_129_65 hw hl hf
  unfold m8_rest_94 at hf
  have hx := C0.1; have hb := C0.2.1; have hml := C0.2.2.1; have hown := C0.2.2.2.1; have hts := C0.2.2.2.2.1
  refine lv_iload hx hb dX8_rest_94 (lv_at hl 5 rfl) ?_
  refine lv_istore (lv' := [(4, .int zx7), (0, .ref zx0), (1, .int zx1), (2, .int zx2), (3, .int zx3), (6, .int zx6), (7, .int zx7), (8, .int zx8)]) hx hb dX8_rest_96 hl (by decide) rfl (fun ls hl => ?_)
  refine lv_iload hx hb dX8_rest_98 (lv_at hl 7 rfl) ?_
  refine lv_istore (lv' := [(5, .int zx8), (4, .int zx7), (0, .ref zx0), (1, .int zx1), (2, .int zx2), (3, .int zx3), (6, .int zx6), (7, .int zx7), (8, .int zx8)]) hx hb dX8_rest_100 hl (by decide) rfl (fun ls hl => ?_)
  exact w8_rest_102 C0 hr hz fl zr46 zhr46 I _ _ _ zx0 zx1 zx2 zx3 zx7 zx8 zx6 zx8 p_128 p_129 p_129_65 zt0 ep_128 tp_128 ep_129 tp_129 ep_129_65 tp_129_65 hw (lv_sub hl [2, 3, 4, 5, 1, 0, 6, 8] rfl) hf
noncomputable def m8_rest_46b (fl : Nat) (len : Nat → Nat) (X : Xm) (zr46 : Im → Nat → Int32 → Int32 → Int32 → Int32 → Int32 → Int32 → Nat → Nat → Nat → Option (Int32 × Im)) (I : Im) (zx0 : Nat) (zx1 : Int32) (zx2 : Int32) (zx3 : Int32) (zx4 : Int32) (zx5 : Int32) (zx6 : Int32) (p_128 : Nat) (p_129 : Nat) (p_129_65 : Nat) : Option (Int32 × Im) :=
  if (1000000 : Int32) ≤ zx3 then
    m8_rest_125 fl len X I zx0 zx1 zx2 zx3 zx4 zx5 zx6 p_128 p_129 p_129_65
  else
    nn (m4_goesOn fl len X I p_129) fun zv2 =>
    if zv2 = 0 then
      m8_rest_125 fl len X I zx0 zx1 zx2 zx3 zx4 zx5 zx6 p_128 p_129 p_129_65
    else
      lt ((gF I 72 p_129)) fun zv5 =>
      nn (m4_runSecond fl len X I p_129) fun ⟨zv6, zI7⟩ =>
      if zx4 = (-6 : Int32) then
        m8_rest_94 fl len X zr46 zI7 zx0 zx1 zx2 zx3 zx6 zv5 zv6 p_128 p_129 p_129_65
      else
        if zv6 ≤ zx5 then
          m8_rest_102 fl len X zr46 zI7 zx0 zx1 zx2 zx3 zx4 zx5 zx6 zv6 p_128 p_129 p_129_65
        else
          m8_rest_94 fl len X zr46 zI7 zx0 zx1 zx2 zx3 zx6 zv5 zv6 p_128 p_129 p_129_65
noncomputable def m8_rest_46 (fl : Nat) (len : Nat → Nat) (X : Xm) (n : Nat) : Im → Nat → Int32 → Int32 → Int32 → Int32 → Int32 → Int32 → Nat → Nat → Nat → Option (Int32 × Im) :=
  Nat.rec (fun _ _ _ _ _ _ _ _ _ _ _ => none) (fun _ r => m8_rest_46b fl len X r) n
set_option maxHeartbeats 4000000 in
set_option maxRecDepth 100000 in
theorem w8_rest_46b {p : Program} {l : Launch} {e : Env} {s : State} {m : MethodId} {args : Array Value} {below : List Frame} {meth : Method} {c : Code} {E : EN} {G : GM} {X : Xm} (C0 : CX p s m args meth c E cX8_rest RX8 9) (hr : meth.sig.returnType = (some .int)) (hz : s.heap.size + 0 ≤ eB E + G.1) {rr : Int32 × Im} (fl : Nat) (zr46 : Im → Nat → Int32 → Int32 → Int32 → Int32 → Int32 → Int32 → Nat → Nat → Nat → Option (Int32 × Im)) (zhr46 : ∀ (I : Im) (H : Heap) (locs : List Loc) (ls : Array Slot) (zx0 : Nat) (zx1 : Int32) (zx2 : Int32) (zx3 : Int32) (zx4 : Int32) (zx5 : Int32) (zx6 : Int32) (p_128 : Nat) (p_129 : Nat) (p_129_65 : Nat) (zt0 : okA E G 8 zx0) (ep_128 : gR X 128 zx0 = some p_128) (tp_128 : okA E G 4 p_128) (ep_129 : gR X 129 zx0 = some p_129) (tp_129 : okA E G 4 p_129) (ep_129_65 : gR X 65 p_129 = some p_129_65) (tp_129_65 : okA E G 6 p_129_65), WD E G I X s.heap H locs → lv_has ls 9 [(0, .ref zx0), (1, .int zx1), (2, .int zx2), (3, .int zx3), (4, .int zx4), (5, .int zx5), (6, .int zx6)] → zr46 I zx0 zx1 zx2 zx3 zx4 zx5 zx6 p_128 p_129 p_129_65 = some rr → W p l e ({ frames := 4, cells := 0, slots := 0, locals := 90 } : Room) s m args below meth c H locs 0 0 (MQ below (QI E G rr.1 rr.2 X) args s 0 0 (eA E)) (F0 m 46 ls [])) : ∀ (I : Im) (H : Heap) (locs : List Loc) (ls : Array Slot) (zx0 : Nat) (zx1 : Int32) (zx2 : Int32) (zx3 : Int32) (zx4 : Int32) (zx5 : Int32) (zx6 : Int32) (p_128 : Nat) (p_129 : Nat) (p_129_65 : Nat) (zt0 : okA E G 8 zx0) (ep_128 : gR X 128 zx0 = some p_128) (tp_128 : okA E G 4 p_128) (ep_129 : gR X 129 zx0 = some p_129) (tp_129 : okA E G 4 p_129) (ep_129_65 : gR X 65 p_129 = some p_129_65) (tp_129_65 : okA E G 6 p_129_65), WD E G I X s.heap H locs → lv_has ls 9 [(0, .ref zx0), (1, .int zx1), (2, .int zx2), (3, .int zx3), (4, .int zx4), (5, .int zx5), (6, .int zx6)] → m8_rest_46b fl G.2.2 X zr46 I zx0 zx1 zx2 zx3 zx4 zx5 zx6 p_128 p_129 p_129_65 = some rr → W p l e ({ frames := 4, cells := 0, slots := 0, locals := 90 } : Room) s m args below meth c H locs 0 0 (MQ below (QI E G rr.1 rr.2 X) args s 0 0 (eA E)) (F0 m 46 ls []) := by
  intro I H locs ls zx0 zx1 zx2 zx3 zx4 zx5 zx6 p_128 p_129 p_129_65 zt0 ep_128 tp_128 ep_129 tp_129 ep_129_65 tp_129_65 hw hl hf
  unfold m8_rest_46b at hf
  have hx := C0.1; have hb := C0.2.1; have hml := C0.2.2.1; have hown := C0.2.2.2.1; have hts := C0.2.2.2.2.1
  refine lv_iload_n hx hb dX8_rest_46 rfl (lv_at hl 3 rfl) ?_
  refine lv_ldc (v := (1000000 : Int32)) hx hb hown (hts _ wd567) dX8_rest_47 ?_
  refine lv_icmp_ge (tgt := 125) hx hb dX8_rest_49 (by decide) (fun zc1 => ?_) (fun zc1 => ?_)
  · have hf := ite_t hf zc1
    exact w8_rest_125 C0 hr hz fl I _ _ _ zx0 zx1 zx2 zx3 zx4 zx5 zx6 p_128 p_129 p_129_65 zt0 ep_128 tp_128 ep_129 tp_129 ep_129_65 tp_129_65 hw (lv_sub hl [0, 1, 2, 3, 4, 5, 6] rfl) hf
  · have hf := ite_f hf zc1
    refine lv_aload_n hx hb dX8_rest_52 rfl (lv_at hl 0 rfl) ?_
    refine xg_8_1 C0 hw zt0 wd480 ep_129 dX8_rest_53 ?_
    obtain ⟨zv2, ze3, hf⟩ := nn_some hf
    refine x_ci (r := zv2) (I1 := I) (X1 := X) (x_runV (As := []) (rest := []) C0 (c4_goesOn l E G fl X I p_129 tp_129 ze3) hw 4 tp_129 (by decide) rfl wd74 wd570 wd571 wd572 wd356 ⟨rfl, rfl⟩ hy4_goesOn ⟨Nat.le_of_ble_eq_true rfl, Nat.le_of_ble_eq_true rfl⟩ rfl hl.1 (Nat.le_of_ble_eq_true rfl) ⟨Nat.zero_le _, Nat.zero_le _⟩ dX8_rest_56) hw (fun H locs hw => ?_)
    refine lv_if_eq (tgt := 125) hx hb dX8_rest_59 (by decide) (fun zc4 => ?_) (fun zc4 => ?_)
    · have hf := ite_t hf zc4
      exact w8_rest_125 C0 hr hz fl I _ _ _ zx0 zx1 zx2 zx3 zx4 zx5 zx6 p_128 p_129 p_129_65 zt0 ep_128 tp_128 ep_129 tp_129 ep_129_65 tp_129_65 hw (lv_sub hl [0, 1, 2, 3, 4, 5, 6] rfl) hf
    · have hf := ite_f hf zc4
      refine lv_aload_n hx hb dX8_rest_62 rfl (lv_at hl 0 rfl) ?_
      refine xg_8_1 C0 hw zt0 wd480 ep_129 dX8_rest_63 ?_
      refine xg_4_8 C0 hw tp_129 wd554 dX8_rest_66 ?_
      refine lv_topi (fun zv5 ezv5 => ?_)
      have hf := lt_at hf ezv5
      refine lv_istore (lv' := [(7, .int zv5), (0, .ref zx0), (1, .int zx1), (2, .int zx2), (3, .int zx3), (4, .int zx4), (5, .int zx5), (6, .int zx6)]) hx hb dX8_rest_69 hl (by decide) rfl (fun ls hl => ?_)
      refine lv_aload_n hx hb dX8_rest_71 rfl (lv_at hl 1 rfl) ?_
      refine xg_8_1 C0 hw zt0 wd480 ep_129 dX8_rest_72 ?_
      obtain ⟨⟨zv6, zI7⟩, ze8, hf⟩ := nn_some hf
      refine x_ci (r := zv6) (I1 := zI7) (X1 := X) (x_runV (As := []) (rest := []) C0 (c4_runSecond l E G fl X I p_129 tp_129 ze8) hw 4 tp_129 (by decide) rfl wd70 wd573 wd467 wd468 wd356 ⟨rfl, rfl⟩ hy4_runSecond ⟨Nat.le_of_ble_eq_true rfl, Nat.le_of_ble_eq_true rfl⟩ rfl hl.1 (Nat.le_of_ble_eq_true rfl) ⟨Nat.zero_le _, Nat.zero_le _⟩ dX8_rest_75) hw (fun H locs hw => ?_)
      refine lv_istore (lv' := [(8, .int zv6), (7, .int zv5), (0, .ref zx0), (1, .int zx1), (2, .int zx2), (3, .int zx3), (4, .int zx4), (5, .int zx5), (6, .int zx6)]) hx hb dX8_rest_78 hl (by decide) rfl (fun ls hl => ?_)
      refine lv_iload hx hb dX8_rest_80 (lv_at hl 6 rfl) ?_
      refine lv_bipush (v := (-6 : Int32)) hx hb dX8_rest_82 (by decide) ?_
      refine lv_icmp_eq (tgt := 94) hx hb dX8_rest_84 (by decide) (fun zc9 => ?_) (fun zc9 => ?_)
      · have hf := ite_t hf zc9
        exact w8_rest_94 C0 hr hz fl zr46 zhr46 zI7 _ _ _ zx0 zx1 zx2 zx3 zx6 zv5 zv6 p_128 p_129 p_129_65 zt0 ep_128 tp_128 ep_129 tp_129 ep_129_65 tp_129_65 hw (lv_sub hl [2, 3, 4, 5, 8, 1, 0] rfl) hf
      · have hf := ite_f hf zc9
        refine lv_iload hx hb dX8_rest_87 (lv_at hl 0 rfl) ?_
        refine lv_iload hx hb dX8_rest_89 (lv_at hl 7 rfl) ?_
        refine lv_icmp_le (tgt := 102) hx hb dX8_rest_91 (by decide) (fun zc10 => ?_) (fun zc10 => ?_)
        · have hf := ite_t hf zc10
          exact w8_rest_102 C0 hr hz fl zr46 zhr46 zI7 _ _ _ zx0 zx1 zx2 zx3 zx4 zx5 zx6 zv6 p_128 p_129 p_129_65 zt0 ep_128 tp_128 ep_129 tp_129 ep_129_65 tp_129_65 hw (lv_sub hl [2, 3, 4, 5, 6, 7, 8, 0] rfl) hf
        · have hf := ite_f hf zc10
          exact w8_rest_94 C0 hr hz fl zr46 zhr46 zI7 _ _ _ zx0 zx1 zx2 zx3 zx6 zv5 zv6 p_128 p_129 p_129_65 zt0 ep_128 tp_128 ep_129 tp_129 ep_129_65 tp_129_65 hw (lv_sub hl [2, 3, 4, 5, 8, 1, 0] rfl) hf
theorem w8_rest_46 {p : Program} {l : Launch} {e : Env} {s : State} {m : MethodId} {args : Array Value} {below : List Frame} {meth : Method} {c : Code} {E : EN} {G : GM} {X : Xm} (C0 : CX p s m args meth c E cX8_rest RX8 9) (hr : meth.sig.returnType = (some .int)) (hz : s.heap.size + 0 ≤ eB E + G.1) {rr : Int32 × Im} (fl : Nat) : ∀ (n : Nat) (I : Im) (H : Heap) (locs : List Loc) (ls : Array Slot) (zx0 : Nat) (zx1 : Int32) (zx2 : Int32) (zx3 : Int32) (zx4 : Int32) (zx5 : Int32) (zx6 : Int32) (p_128 : Nat) (p_129 : Nat) (p_129_65 : Nat) (zt0 : okA E G 8 zx0) (ep_128 : gR X 128 zx0 = some p_128) (tp_128 : okA E G 4 p_128) (ep_129 : gR X 129 zx0 = some p_129) (tp_129 : okA E G 4 p_129) (ep_129_65 : gR X 65 p_129 = some p_129_65) (tp_129_65 : okA E G 6 p_129_65), WD E G I X s.heap H locs → lv_has ls 9 [(0, .ref zx0), (1, .int zx1), (2, .int zx2), (3, .int zx3), (4, .int zx4), (5, .int zx5), (6, .int zx6)] → m8_rest_46 fl G.2.2 X n I zx0 zx1 zx2 zx3 zx4 zx5 zx6 p_128 p_129 p_129_65 = some rr → W p l e ({ frames := 4, cells := 0, slots := 0, locals := 90 } : Room) s m args below meth c H locs 0 0 (MQ below (QI E G rr.1 rr.2 X) args s 0 0 (eA E)) (F0 m 46 ls []) := by
  intro n
  induction n with
  | zero => intro I H locs ls zx0 zx1 zx2 zx3 zx4 zx5 zx6 p_128 p_129 p_129_65 zt0 ep_128 tp_128 ep_129 tp_129 ep_129_65 tp_129_65 hw hl hf; exact absurd (show (none : Option (Int32 × Im)) = some rr from hf) (by simp)
  | succ n ih => intro I H locs ls zx0 zx1 zx2 zx3 zx4 zx5 zx6 p_128 p_129 p_129_65 zt0 ep_128 tp_128 ep_129 tp_129 ep_129_65 tp_129_65 hw hl hf; exact w8_rest_46b C0 hr hz fl _ ih I H locs ls zx0 zx1 zx2 zx3 zx4 zx5 zx6 p_128 p_129 p_129_65 zt0 ep_128 tp_128 ep_129 tp_129 ep_129_65 tp_129_65 hw hl hf
noncomputable def m8_rest (fl : Nat) (len : Nat → Nat) (X : Xm) (I : Im) (zx0 : Nat) (zx1 : Int32) : Option (Int32 × Im) :=
  nn (m8_within fl len X I zx1 (0 : Int32) (4 : Int32)) fun zv1 =>
  if zv1 = 0 then
    some ((-2 : Int32), I)
  else
    nn (gR X 129 zx0) fun zv4 =>
    nn (gR X 128 zx0) fun zv5 =>
    nn (m4_copyFrom fl len X I zv4 zv5) fun zI6 =>
    nn (gR X 65 zv4) fun zv8 =>
    nn (m6_missedCues fl len X zI6 zv8) fun zv9 =>
    m8_rest_46 fl len X fl zI6 zx0 zx1 zv9 (0 : Int32) (-6 : Int32) (0 : Int32) (0 : Int32) zv5 zv4 zv8
theorem hy8_rest : yX8_rest.cls = RX8 ∧ yX8_rest.cls ≠ "java/lang/invoke/MethodHandle" ∧ yX8_rest.cls ≠ "java/lang/invoke/VarHandle" ∧ (parseMethodDescriptor yX8_rest.desc).map (fun d => d.parameters.length) = some 1 := ⟨rfl, by decide +kernel, by decide +kernel, by decide +kernel⟩
set_option maxHeartbeats 4000000 in
set_option maxRecDepth 100000 in
theorem c8_rest (l : Launch) (E : EN) (G : GM) (fl : Nat) (X : Xm) (I : Im) (zx0 : Nat) (zx1 : Int32) (zt0 : okA E G 8 zx0) {rr : Int32 × Im} (hf : m8_rest fl G.2.2 X I zx0 zx1 = some rr) : MT l yX8_rest cX8_rest 9 (some .int) ({ frames := 4, cells := 0, slots := 0, locals := 90 } : Room) E G I X [.ref zx0, .int zx1] (QI E G rr.1 rr.2 X) 0 0 := by
  refine Met.ofW (cc := cX8_rest) (maxL := 9) (ret := (some .int)) (by decide +kernel) rfl ?_
  intro p e s m args below meth c s₁ B hml hv
  obtain ⟨rfl, hw0, hSE⟩ := hv
  have C0 : CX p s m ([.ref zx0, .int zx1] : List Value).toArray meth c E cX8_rest RX8 9 := ⟨B.exec, B.bytes, hml, findClass_of_methodNamed B.named, fun w hw => atoms_spec (ws := WS yX8_rest cX8_rest 9 (some .int)) B.pre w (List.mem_cons_of_mem _ hw), B.notSynchronized, hSE⟩
  have hz : s.heap.size + 0 ≤ eB E + G.1 := Nat.le_of_eq hw0.2.1
  have hw : WD E G I X s.heap s.heap [] := ⟨hw0, va_S.rf⟩
  have hr := B.returns
  have hx := C0.1; have hb := C0.2.1; have hml := C0.2.2.1; have hown := C0.2.2.2.1; have hts := C0.2.2.2.2.1
  have hl := lv_entry ([.ref zx0, .int zx1]) (n := 9) (Nat.le_of_ble_eq_true rfl)
  rw [lg_entry_eq]
  generalize (lg_sl ([.ref zx0, .int zx1]) ++ List.replicate (9 - (lg_sl ([.ref zx0, .int zx1])).length) Slot.unset).toArray = ls at hl ⊢
  have hl : lv_has ls 9 [(0, .ref zx0), (1, .int zx1)] := hl
  unfold m8_rest at hf
  refine lv_iload_n hx hb dX8_rest_0 rfl (lv_at hl 1 rfl) ?_
  refine lv_iconst (v := (0 : Int32)) hx hb dX8_rest_1 (by decide) ?_
  refine lv_iconst (v := (4 : Int32)) hx hb dX8_rest_2 (by decide) ?_
  obtain ⟨zv1, ze2, hf⟩ := nn_some hf
  refine x_ci (r := zv1) (I1 := I) (X1 := X) (x_runS (As := [.int zx1, .int (0 : Int32), .int (4 : Int32)]) (rest := []) C0 (c8_within l E G fl X I zx1 (0 : Int32) (4 : Int32) ze2) hw wd41 wd568 wd357 wd197 ⟨rfl, rfl⟩ hy8_within ⟨Nat.le_of_ble_eq_true rfl, Nat.le_of_ble_eq_true rfl⟩ rfl hl.1 (Nat.le_of_ble_eq_true rfl) ⟨Nat.zero_le _, Nat.zero_le _⟩ dX8_rest_3) hw (fun H locs hw => ?_)
  refine lv_if_ne (tgt := 12) hx hb dX8_rest_6 (by decide) (fun zc3 => ?_) (fun zc3 => ?_)
  · have hf := ite_f hf zc3
    refine lv_aload_n hx hb dX8_rest_12 rfl (lv_at hl 0 rfl) ?_
    obtain ⟨zv4, ezv4, hf⟩ := nn_some hf
    have tzv4 : okA E G 4 zv4 := wt_r hw ezv4
    refine xg_8_1 C0 hw zt0 wd480 ezv4 dX8_rest_13 ?_
    refine lv_aload_n hx hb dX8_rest_16 rfl (lv_at hl 0 rfl) ?_
    obtain ⟨zv5, ezv5, hf⟩ := nn_some hf
    have tzv5 : okA E G 4 zv5 := wt_r hw ezv5
    refine xg_8_0 C0 hw zt0 wd479 ezv5 dX8_rest_17 ?_
    obtain ⟨zI6, ze7, hf⟩ := nn_some hf
    refine x_cv (I1 := zI6) (X1 := X) (x_runV (As := [.ref zv5]) (rest := []) C0 (c4_copyFrom l E G fl X I zv4 zv5 tzv4 tzv5 ze7) hw 4 tzv4 (by decide) rfl wd40 wd492 wd493 wd494 wd356 ⟨rfl, rfl⟩ hy4_copyFrom ⟨Nat.le_of_ble_eq_true rfl, Nat.le_of_ble_eq_true rfl⟩ rfl hl.1 (Nat.le_of_ble_eq_true rfl) ⟨Nat.zero_le _, Nat.zero_le _⟩ dX8_rest_20) hw (fun H locs hw => ?_)
    refine lv_aload_n hx hb dX8_rest_23 rfl (lv_at hl 0 rfl) ?_
    refine xg_8_1 C0 hw zt0 wd480 ezv4 dX8_rest_24 ?_
    obtain ⟨zv8, ezv8, hf⟩ := nn_some hf
    have tzv8 : okA E G 6 zv8 := wt_r hw ezv8
    refine xg_4_1 C0 hw tzv4 wd513 ezv8 dX8_rest_27 ?_
    obtain ⟨zv9, ze10, hf⟩ := nn_some hf
    refine x_ci (r := zv9) (I1 := zI6) (X1 := X) (x_runV (As := []) (rest := []) C0 (c6_missedCues l E G fl X zI6 zv8 tzv8 ze10) hw 6 tzv8 (by decide) rfl wd61 wd569 wd464 wd465 wd300 ⟨rfl, rfl⟩ hy6_missedCues ⟨Nat.le_of_ble_eq_true rfl, Nat.le_of_ble_eq_true rfl⟩ rfl hl.1 (Nat.le_of_ble_eq_true rfl) ⟨Nat.zero_le _, Nat.zero_le _⟩ dX8_rest_30) hw (fun H locs hw => ?_)
    refine lv_istore_n (lv' := [(2, .int zv9), (0, .ref zx0), (1, .int zx1)]) hx hb dX8_rest_33 rfl hl (by decide) rfl (fun ls hl => ?_)
    refine lv_iconst (v := (0 : Int32)) hx hb dX8_rest_34 (by decide) ?_
    refine lv_istore_n (lv' := [(3, .int (0 : Int32)), (2, .int zv9), (0, .ref zx0), (1, .int zx1)]) hx hb dX8_rest_35 rfl hl (by decide) rfl (fun ls hl => ?_)
    refine lv_bipush (v := (-6 : Int32)) hx hb dX8_rest_36 (by decide) ?_
    refine lv_istore (lv' := [(4, .int (-6 : Int32)), (3, .int (0 : Int32)), (2, .int zv9), (0, .ref zx0), (1, .int zx1)]) hx hb dX8_rest_38 hl (by decide) rfl (fun ls hl => ?_)
    refine lv_iconst (v := (0 : Int32)) hx hb dX8_rest_40 (by decide) ?_
    refine lv_istore (lv' := [(5, .int (0 : Int32)), (4, .int (-6 : Int32)), (3, .int (0 : Int32)), (2, .int zv9), (0, .ref zx0), (1, .int zx1)]) hx hb dX8_rest_41 hl (by decide) rfl (fun ls hl => ?_)
    refine lv_iconst (v := (0 : Int32)) hx hb dX8_rest_43 (by decide) ?_
    refine lv_istore (lv' := [(6, .int (0 : Int32)), (5, .int (0 : Int32)), (4, .int (-6 : Int32)), (3, .int (0 : Int32)), (2, .int zv9), (0, .ref zx0), (1, .int zx1)]) hx hb dX8_rest_44 hl (by decide) rfl (fun ls hl => ?_)
    exact w8_rest_46 C0 hr hz fl fl zI6 _ _ _ zx0 zx1 zv9 (0 : Int32) (-6 : Int32) (0 : Int32) (0 : Int32) zv5 zv4 zv8 zt0 ezv5 tzv5 ezv4 tzv4 ezv8 tzv8 hw (lv_sub hl [5, 6, 4, 3, 2, 1, 0] rfl) hf
  · have hf := ite_t hf zc3
    refine lv_bipush (v := (-2 : Int32)) hx hb dX8_rest_9 (by decide) ?_
    obtain rfl := Option.some.inj hf
    exact x_iret C0 hr hw dX8_rest_11
noncomputable def m8_missedInTrial_46 (fl : Nat) (len : Nat → Nat) (X : Xm) (I : Im) (zx0 : Nat) (zx1 : Int32) (p_129 : Nat) (p_129_65 : Nat) : Option (Int32 × Im) :=
  nn (m6_missedCues fl len X I p_129_65) fun zv1 =>
  some ((zv1 - zx1), I)
set_option maxHeartbeats 4000000 in
set_option maxRecDepth 100000 in
theorem w8_missedInTrial_46 {p : Program} {l : Launch} {e : Env} {s : State} {m : MethodId} {args : Array Value} {below : List Frame} {meth : Method} {c : Code} {E : EN} {G : GM} {X : Xm} (C0 : CX p s m args meth c E cX8_missedInTrial RX8 3) (hr : meth.sig.returnType = (some .int)) (hz : s.heap.size + 0 ≤ eB E + G.1) {rr : Int32 × Im} (fl : Nat) : ∀ (I : Im) (H : Heap) (locs : List Loc) (ls : Array Slot) (zx0 : Nat) (zx1 : Int32) (p_129 : Nat) (p_129_65 : Nat) (zt0 : okA E G 8 zx0) (ep_129 : gR X 129 zx0 = some p_129) (tp_129 : okA E G 4 p_129) (ep_129_65 : gR X 65 p_129 = some p_129_65) (tp_129_65 : okA E G 6 p_129_65), WD E G I X s.heap H locs → lv_has ls 3 [(0, .ref zx0), (1, .int zx1)] → m8_missedInTrial_46 fl G.2.2 X I zx0 zx1 p_129 p_129_65 = some rr → W p l e ({ frames := 4, cells := 0, slots := 0, locals := 90 } : Room) s m args below meth c H locs 0 0 (MQ below (QI E G rr.1 rr.2 X) args s 0 0 (eA E)) (F0 m 46 ls []) := by
  intro I H locs ls zx0 zx1 p_129 p_129_65 zt0 ep_129 tp_129 ep_129_65 tp_129_65 hw hl hf
  unfold m8_missedInTrial_46 at hf
  have hx := C0.1; have hb := C0.2.1; have hml := C0.2.2.1; have hown := C0.2.2.2.1; have hts := C0.2.2.2.2.1
  refine lv_aload_n hx hb dX8_missedInTrial_46 rfl (lv_at hl 0 rfl) ?_
  refine xg_8_1 C0 hw zt0 wd480 ep_129 dX8_missedInTrial_47 ?_
  refine xg_4_1 C0 hw tp_129 wd513 ep_129_65 dX8_missedInTrial_50 ?_
  obtain ⟨zv1, ze2, hf⟩ := nn_some hf
  refine x_ci (r := zv1) (I1 := I) (X1 := X) (x_runV (As := []) (rest := []) C0 (c6_missedCues l E G fl X I p_129_65 tp_129_65 ze2) hw 6 tp_129_65 (by decide) rfl wd61 wd569 wd464 wd465 wd300 ⟨rfl, rfl⟩ hy6_missedCues ⟨Nat.le_of_ble_eq_true rfl, Nat.le_of_ble_eq_true rfl⟩ rfl hl.1 (Nat.le_of_ble_eq_true rfl) ⟨Nat.zero_le _, Nat.zero_le _⟩ dX8_missedInTrial_53) hw (fun H locs hw => ?_)
  refine lv_iload_n hx hb dX8_missedInTrial_56 rfl (lv_at hl 1 rfl) ?_
  refine lv_isub hx hb dX8_missedInTrial_57 ?_
  obtain rfl := Option.some.inj hf
  exact x_iret C0 hr hw dX8_missedInTrial_58
noncomputable def m8_missedInTrial_13b (fl : Nat) (len : Nat → Nat) (X : Xm) (zr13 : Im → Nat → Int32 → Int32 → Nat → Nat → Option (Int32 × Im)) (I : Im) (zx0 : Nat) (zx1 : Int32) (zx2 : Int32) (p_129 : Nat) (p_129_65 : Nat) : Option (Int32 × Im) :=
  if (1000000 : Int32) ≤ zx2 then
    m8_missedInTrial_46 fl len X I zx0 zx1 p_129 p_129_65
  else
    nn (m6_anyToCome fl len X I p_129_65) fun zv2 =>
    if zv2 = 0 then
      m8_missedInTrial_46 fl len X I zx0 zx1 p_129 p_129_65
    else
      nn (m4_runSecond fl len X I p_129) fun ⟨zv5, zI6⟩ =>
      lt (zx2 + 1) fun zv8 =>
      zr13 zI6 zx0 zx1 zv8 p_129 p_129_65
noncomputable def m8_missedInTrial_13 (fl : Nat) (len : Nat → Nat) (X : Xm) (n : Nat) : Im → Nat → Int32 → Int32 → Nat → Nat → Option (Int32 × Im) :=
  Nat.rec (fun _ _ _ _ _ _ => none) (fun _ r => m8_missedInTrial_13b fl len X r) n
set_option maxHeartbeats 4000000 in
set_option maxRecDepth 100000 in
theorem w8_missedInTrial_13b {p : Program} {l : Launch} {e : Env} {s : State} {m : MethodId} {args : Array Value} {below : List Frame} {meth : Method} {c : Code} {E : EN} {G : GM} {X : Xm} (C0 : CX p s m args meth c E cX8_missedInTrial RX8 3) (hr : meth.sig.returnType = (some .int)) (hz : s.heap.size + 0 ≤ eB E + G.1) {rr : Int32 × Im} (fl : Nat) (zr13 : Im → Nat → Int32 → Int32 → Nat → Nat → Option (Int32 × Im)) (zhr13 : ∀ (I : Im) (H : Heap) (locs : List Loc) (ls : Array Slot) (zx0 : Nat) (zx1 : Int32) (zx2 : Int32) (p_129 : Nat) (p_129_65 : Nat) (zt0 : okA E G 8 zx0) (ep_129 : gR X 129 zx0 = some p_129) (tp_129 : okA E G 4 p_129) (ep_129_65 : gR X 65 p_129 = some p_129_65) (tp_129_65 : okA E G 6 p_129_65), WD E G I X s.heap H locs → lv_has ls 3 [(0, .ref zx0), (1, .int zx1), (2, .int zx2)] → zr13 I zx0 zx1 zx2 p_129 p_129_65 = some rr → W p l e ({ frames := 4, cells := 0, slots := 0, locals := 90 } : Room) s m args below meth c H locs 0 0 (MQ below (QI E G rr.1 rr.2 X) args s 0 0 (eA E)) (F0 m 13 ls [])) : ∀ (I : Im) (H : Heap) (locs : List Loc) (ls : Array Slot) (zx0 : Nat) (zx1 : Int32) (zx2 : Int32) (p_129 : Nat) (p_129_65 : Nat) (zt0 : okA E G 8 zx0) (ep_129 : gR X 129 zx0 = some p_129) (tp_129 : okA E G 4 p_129) (ep_129_65 : gR X 65 p_129 = some p_129_65) (tp_129_65 : okA E G 6 p_129_65), WD E G I X s.heap H locs → lv_has ls 3 [(0, .ref zx0), (1, .int zx1), (2, .int zx2)] → m8_missedInTrial_13b fl G.2.2 X zr13 I zx0 zx1 zx2 p_129 p_129_65 = some rr → W p l e ({ frames := 4, cells := 0, slots := 0, locals := 90 } : Room) s m args below meth c H locs 0 0 (MQ below (QI E G rr.1 rr.2 X) args s 0 0 (eA E)) (F0 m 13 ls []) := by
  intro I H locs ls zx0 zx1 zx2 p_129 p_129_65 zt0 ep_129 tp_129 ep_129_65 tp_129_65 hw hl hf
  unfold m8_missedInTrial_13b at hf
  have hx := C0.1; have hb := C0.2.1; have hml := C0.2.2.1; have hown := C0.2.2.2.1; have hts := C0.2.2.2.2.1
  refine lv_iload_n hx hb dX8_missedInTrial_13 rfl (lv_at hl 2 rfl) ?_
  refine lv_ldc (v := (1000000 : Int32)) hx hb hown (hts _ wd567) dX8_missedInTrial_14 ?_
  refine lv_icmp_ge (tgt := 46) hx hb dX8_missedInTrial_16 (by decide) (fun zc1 => ?_) (fun zc1 => ?_)
  · have hf := ite_t hf zc1
    exact w8_missedInTrial_46 C0 hr hz fl I _ _ _ zx0 zx1 p_129 p_129_65 zt0 ep_129 tp_129 ep_129_65 tp_129_65 hw (lv_sub hl [0, 1] rfl) hf
  · have hf := ite_f hf zc1
    refine lv_aload_n hx hb dX8_missedInTrial_19 rfl (lv_at hl 0 rfl) ?_
    refine xg_8_1 C0 hw zt0 wd480 ep_129 dX8_missedInTrial_20 ?_
    refine xg_4_1 C0 hw tp_129 wd513 ep_129_65 dX8_missedInTrial_23 ?_
    obtain ⟨zv2, ze3, hf⟩ := nn_some hf
    refine x_ci (r := zv2) (I1 := I) (X1 := X) (x_runV (As := []) (rest := []) C0 (c6_anyToCome l E G fl X I p_129_65 tp_129_65 ze3) hw 6 tp_129_65 (by decide) rfl wd72 wd574 wd470 wd471 wd300 ⟨rfl, rfl⟩ hy6_anyToCome ⟨Nat.le_of_ble_eq_true rfl, Nat.le_of_ble_eq_true rfl⟩ rfl hl.1 (Nat.le_of_ble_eq_true rfl) ⟨Nat.zero_le _, Nat.zero_le _⟩ dX8_missedInTrial_26) hw (fun H locs hw => ?_)
    refine lv_if_eq (tgt := 46) hx hb dX8_missedInTrial_29 (by decide) (fun zc4 => ?_) (fun zc4 => ?_)
    · have hf := ite_t hf zc4
      exact w8_missedInTrial_46 C0 hr hz fl I _ _ _ zx0 zx1 p_129 p_129_65 zt0 ep_129 tp_129 ep_129_65 tp_129_65 hw (lv_sub hl [0, 1] rfl) hf
    · have hf := ite_f hf zc4
      refine lv_aload_n hx hb dX8_missedInTrial_32 rfl (lv_at hl 0 rfl) ?_
      refine xg_8_1 C0 hw zt0 wd480 ep_129 dX8_missedInTrial_33 ?_
      obtain ⟨⟨zv5, zI6⟩, ze7, hf⟩ := nn_some hf
      refine x_ci (r := zv5) (I1 := zI6) (X1 := X) (x_runV (As := []) (rest := []) C0 (c4_runSecond l E G fl X I p_129 tp_129 ze7) hw 4 tp_129 (by decide) rfl wd70 wd573 wd467 wd468 wd356 ⟨rfl, rfl⟩ hy4_runSecond ⟨Nat.le_of_ble_eq_true rfl, Nat.le_of_ble_eq_true rfl⟩ rfl hl.1 (Nat.le_of_ble_eq_true rfl) ⟨Nat.zero_le _, Nat.zero_le _⟩ dX8_missedInTrial_36) hw (fun H locs hw => ?_)
      refine lv_pop hx hb dX8_missedInTrial_39 rfl ?_
      obtain ⟨zv8, ezv8⟩ : ∃ y : Int32, y = zx2 + 1 := ⟨_, rfl⟩
      have hf := lt_at hf ezv8
      refine lv_iinc (v := zv8) (lv' := [(2, .int zv8), (0, .ref zx0), (1, .int zx1)]) hx hb dX8_missedInTrial_40 hl (k := 2) rfl (by rw [ezv8]; rfl) (by decide) rfl (fun ls hl => ?_)
      refine lv_goto (tgt := 13) hx hb dX8_missedInTrial_43 (by decide) ?_
      exact zhr13 zI6 _ _ _ zx0 zx1 zv8 p_129 p_129_65 zt0 ep_129 tp_129 ep_129_65 tp_129_65 hw (lv_sub hl [1, 2, 0] rfl) hf
theorem w8_missedInTrial_13 {p : Program} {l : Launch} {e : Env} {s : State} {m : MethodId} {args : Array Value} {below : List Frame} {meth : Method} {c : Code} {E : EN} {G : GM} {X : Xm} (C0 : CX p s m args meth c E cX8_missedInTrial RX8 3) (hr : meth.sig.returnType = (some .int)) (hz : s.heap.size + 0 ≤ eB E + G.1) {rr : Int32 × Im} (fl : Nat) : ∀ (n : Nat) (I : Im) (H : Heap) (locs : List Loc) (ls : Array Slot) (zx0 : Nat) (zx1 : Int32) (zx2 : Int32) (p_129 : Nat) (p_129_65 : Nat) (zt0 : okA E G 8 zx0) (ep_129 : gR X 129 zx0 = some p_129) (tp_129 : okA E G 4 p_129) (ep_129_65 : gR X 65 p_129 = some p_129_65) (tp_129_65 : okA E G 6 p_129_65), WD E G I X s.heap H locs → lv_has ls 3 [(0, .ref zx0), (1, .int zx1), (2, .int zx2)] → m8_missedInTrial_13 fl G.2.2 X n I zx0 zx1 zx2 p_129 p_129_65 = some rr → W p l e ({ frames := 4, cells := 0, slots := 0, locals := 90 } : Room) s m args below meth c H locs 0 0 (MQ below (QI E G rr.1 rr.2 X) args s 0 0 (eA E)) (F0 m 13 ls []) := by
  intro n
  induction n with
  | zero => intro I H locs ls zx0 zx1 zx2 p_129 p_129_65 zt0 ep_129 tp_129 ep_129_65 tp_129_65 hw hl hf; exact absurd (show (none : Option (Int32 × Im)) = some rr from hf) (by simp)
  | succ n ih => intro I H locs ls zx0 zx1 zx2 p_129 p_129_65 zt0 ep_129 tp_129 ep_129_65 tp_129_65 hw hl hf; exact w8_missedInTrial_13b C0 hr hz fl _ ih I H locs ls zx0 zx1 zx2 p_129 p_129_65 zt0 ep_129 tp_129 ep_129_65 tp_129_65 hw hl hf
noncomputable def m8_missedInTrial (fl : Nat) (len : Nat → Nat) (X : Xm) (I : Im) (zx0 : Nat) : Option (Int32 × Im) :=
  nn (gR X 129 zx0) fun zv1 =>
  nn (gR X 65 zv1) fun zv2 =>
  nn (m6_missedCues fl len X I zv2) fun zv3 =>
  m8_missedInTrial_13 fl len X fl I zx0 zv3 (0 : Int32) zv1 zv2
theorem hy8_missedInTrial : yX8_missedInTrial.cls = RX8 ∧ yX8_missedInTrial.cls ≠ "java/lang/invoke/MethodHandle" ∧ yX8_missedInTrial.cls ≠ "java/lang/invoke/VarHandle" ∧ (parseMethodDescriptor yX8_missedInTrial.desc).map (fun d => d.parameters.length) = some 0 := ⟨rfl, by decide +kernel, by decide +kernel, by decide +kernel⟩
set_option maxHeartbeats 4000000 in
set_option maxRecDepth 100000 in
theorem c8_missedInTrial (l : Launch) (E : EN) (G : GM) (fl : Nat) (X : Xm) (I : Im) (zx0 : Nat) (zt0 : okA E G 8 zx0) {rr : Int32 × Im} (hf : m8_missedInTrial fl G.2.2 X I zx0 = some rr) : MT l yX8_missedInTrial cX8_missedInTrial 3 (some .int) ({ frames := 4, cells := 0, slots := 0, locals := 90 } : Room) E G I X [.ref zx0] (QI E G rr.1 rr.2 X) 0 0 := by
  refine Met.ofW (cc := cX8_missedInTrial) (maxL := 3) (ret := (some .int)) (by decide +kernel) rfl ?_
  intro p e s m args below meth c s₁ B hml hv
  obtain ⟨rfl, hw0, hSE⟩ := hv
  have C0 : CX p s m ([.ref zx0] : List Value).toArray meth c E cX8_missedInTrial RX8 3 := ⟨B.exec, B.bytes, hml, findClass_of_methodNamed B.named, fun w hw => atoms_spec (ws := WS yX8_missedInTrial cX8_missedInTrial 3 (some .int)) B.pre w (List.mem_cons_of_mem _ hw), B.notSynchronized, hSE⟩
  have hz : s.heap.size + 0 ≤ eB E + G.1 := Nat.le_of_eq hw0.2.1
  have hw : WD E G I X s.heap s.heap [] := ⟨hw0, va_S.rf⟩
  have hr := B.returns
  have hx := C0.1; have hb := C0.2.1; have hml := C0.2.2.1; have hown := C0.2.2.2.1; have hts := C0.2.2.2.2.1
  have hl := lv_entry ([.ref zx0]) (n := 3) (Nat.le_of_ble_eq_true rfl)
  rw [lg_entry_eq]
  generalize (lg_sl ([.ref zx0]) ++ List.replicate (3 - (lg_sl ([.ref zx0])).length) Slot.unset).toArray = ls at hl ⊢
  have hl : lv_has ls 3 [(0, .ref zx0)] := hl
  unfold m8_missedInTrial at hf
  refine lv_aload_n hx hb dX8_missedInTrial_0 rfl (lv_at hl 0 rfl) ?_
  obtain ⟨zv1, ezv1, hf⟩ := nn_some hf
  have tzv1 : okA E G 4 zv1 := wt_r hw ezv1
  refine xg_8_1 C0 hw zt0 wd480 ezv1 dX8_missedInTrial_1 ?_
  obtain ⟨zv2, ezv2, hf⟩ := nn_some hf
  have tzv2 : okA E G 6 zv2 := wt_r hw ezv2
  refine xg_4_1 C0 hw tzv1 wd513 ezv2 dX8_missedInTrial_4 ?_
  obtain ⟨zv3, ze4, hf⟩ := nn_some hf
  refine x_ci (r := zv3) (I1 := I) (X1 := X) (x_runV (As := []) (rest := []) C0 (c6_missedCues l E G fl X I zv2 tzv2 ze4) hw 6 tzv2 (by decide) rfl wd61 wd569 wd464 wd465 wd300 ⟨rfl, rfl⟩ hy6_missedCues ⟨Nat.le_of_ble_eq_true rfl, Nat.le_of_ble_eq_true rfl⟩ rfl hl.1 (Nat.le_of_ble_eq_true rfl) ⟨Nat.zero_le _, Nat.zero_le _⟩ dX8_missedInTrial_7) hw (fun H locs hw => ?_)
  refine lv_istore_n (lv' := [(1, .int zv3), (0, .ref zx0)]) hx hb dX8_missedInTrial_10 rfl hl (by decide) rfl (fun ls hl => ?_)
  refine lv_iconst (v := (0 : Int32)) hx hb dX8_missedInTrial_11 (by decide) ?_
  refine lv_istore_n (lv' := [(2, .int (0 : Int32)), (1, .int zv3), (0, .ref zx0)]) hx hb dX8_missedInTrial_12 rfl hl (by decide) rfl (fun ls hl => ?_)
  exact w8_missedInTrial_13 C0 hr hz fl fl I _ _ _ zx0 zv3 (0 : Int32) zv1 zv2 zt0 ezv1 tzv1 ezv2 tzv2 hw (lv_sub hl [2, 1, 0] rfl) hf
noncomputable def m8_becomes_40 (fl : Nat) (len : Nat → Nat) (X : Xm) (I : Im) (zs0 : Int32) : Option (Int32 × Im) :=
  some (zs0, I)
set_option maxHeartbeats 4000000 in
set_option maxRecDepth 100000 in
theorem w8_becomes_40 {p : Program} {l : Launch} {e : Env} {s : State} {m : MethodId} {args : Array Value} {below : List Frame} {meth : Method} {c : Code} {E : EN} {G : GM} {X : Xm} (C0 : CX p s m args meth c E cX8_becomes RX8 3) (hr : meth.sig.returnType = (some .int)) (hz : s.heap.size + 0 ≤ eB E + G.1) {rr : Int32 × Im} (fl : Nat) : ∀ (I : Im) (H : Heap) (locs : List Loc) (ls : Array Slot) (zs0 : Int32) , WD E G I X s.heap H locs → lv_has ls 3 [] → m8_becomes_40 fl G.2.2 X I zs0 = some rr → W p l e ({ frames := 5, cells := 0, slots := 0, locals := 112 } : Room) s m args below meth c H locs 0 0 (MQ below (QI E G rr.1 rr.2 X) args s 0 0 (eA E)) (F0 m 40 ls [.int zs0]) := by
  intro I H locs ls zs0 hw hl hf
  unfold m8_becomes_40 at hf
  have hx := C0.1; have hb := C0.2.1; have hml := C0.2.2.1; have hown := C0.2.2.2.1; have hts := C0.2.2.2.2.1
  obtain rfl := Option.some.inj hf
  exact x_iret C0 hr hw dX8_becomes_40
noncomputable def m8_becomes (fl : Nat) (len : Nat → Nat) (X : Xm) (I : Im) (zx0 : Nat) (zx1 : Int32) : Option (Int32 × Im) :=
  nn (gR X 129 zx0) fun zv1 =>
  nn (gR X 128 zx0) fun zv2 =>
  nn (m4_copyFrom fl len X I zv1 zv2) fun zI3 =>
  nn (m8_missedInTrial fl len X zI3 zx0) fun ⟨zv5, zI6⟩ =>
  nn (gR X 65 zv1) fun zv8 =>
  nn (m6_cueAt fl len X zI6 zv8 zx1) fun zv9 =>
  if zv9 = none then
    m8_becomes_40 fl len X zI6 (-1 : Int32)
  else
    nn zv9 fun zb12 =>
    m8_becomes_40 fl len X zI6 (gF zI6 20 zb12)
theorem hy8_becomes : yX8_becomes.cls = RX8 ∧ yX8_becomes.cls ≠ "java/lang/invoke/MethodHandle" ∧ yX8_becomes.cls ≠ "java/lang/invoke/VarHandle" ∧ (parseMethodDescriptor yX8_becomes.desc).map (fun d => d.parameters.length) = some 1 := ⟨rfl, by decide +kernel, by decide +kernel, by decide +kernel⟩
set_option maxHeartbeats 4000000 in
set_option maxRecDepth 100000 in
theorem c8_becomes (l : Launch) (E : EN) (G : GM) (fl : Nat) (X : Xm) (I : Im) (zx0 : Nat) (zx1 : Int32) (zt0 : okA E G 8 zx0) {rr : Int32 × Im} (hf : m8_becomes fl G.2.2 X I zx0 zx1 = some rr) : MT l yX8_becomes cX8_becomes 3 (some .int) ({ frames := 5, cells := 0, slots := 0, locals := 112 } : Room) E G I X [.ref zx0, .int zx1] (QI E G rr.1 rr.2 X) 0 0 := by
  refine Met.ofW (cc := cX8_becomes) (maxL := 3) (ret := (some .int)) (by decide +kernel) rfl ?_
  intro p e s m args below meth c s₁ B hml hv
  obtain ⟨rfl, hw0, hSE⟩ := hv
  have C0 : CX p s m ([.ref zx0, .int zx1] : List Value).toArray meth c E cX8_becomes RX8 3 := ⟨B.exec, B.bytes, hml, findClass_of_methodNamed B.named, fun w hw => atoms_spec (ws := WS yX8_becomes cX8_becomes 3 (some .int)) B.pre w (List.mem_cons_of_mem _ hw), B.notSynchronized, hSE⟩
  have hz : s.heap.size + 0 ≤ eB E + G.1 := Nat.le_of_eq hw0.2.1
  have hw : WD E G I X s.heap s.heap [] := ⟨hw0, va_S.rf⟩
  have hr := B.returns
  have hx := C0.1; have hb := C0.2.1; have hml := C0.2.2.1; have hown := C0.2.2.2.1; have hts := C0.2.2.2.2.1
  have hl := lv_entry ([.ref zx0, .int zx1]) (n := 3) (Nat.le_of_ble_eq_true rfl)
  rw [lg_entry_eq]
  generalize (lg_sl ([.ref zx0, .int zx1]) ++ List.replicate (3 - (lg_sl ([.ref zx0, .int zx1])).length) Slot.unset).toArray = ls at hl ⊢
  have hl : lv_has ls 3 [(0, .ref zx0), (1, .int zx1)] := hl
  unfold m8_becomes at hf
  refine lv_aload_n hx hb dX8_becomes_0 rfl (lv_at hl 0 rfl) ?_
  obtain ⟨zv1, ezv1, hf⟩ := nn_some hf
  have tzv1 : okA E G 4 zv1 := wt_r hw ezv1
  refine xg_8_1 C0 hw zt0 wd480 ezv1 dX8_becomes_1 ?_
  refine lv_aload_n hx hb dX8_becomes_4 rfl (lv_at hl 0 rfl) ?_
  obtain ⟨zv2, ezv2, hf⟩ := nn_some hf
  have tzv2 : okA E G 4 zv2 := wt_r hw ezv2
  refine xg_8_0 C0 hw zt0 wd479 ezv2 dX8_becomes_5 ?_
  obtain ⟨zI3, ze4, hf⟩ := nn_some hf
  refine x_cv (I1 := zI3) (X1 := X) (x_runV (As := [.ref zv2]) (rest := []) C0 (c4_copyFrom l E G fl X I zv1 zv2 tzv1 tzv2 ze4) hw 4 tzv1 (by decide) rfl wd40 wd492 wd493 wd494 wd356 ⟨rfl, rfl⟩ hy4_copyFrom ⟨Nat.le_of_ble_eq_true rfl, Nat.le_of_ble_eq_true rfl⟩ rfl hl.1 (Nat.le_of_ble_eq_true rfl) ⟨Nat.zero_le _, Nat.zero_le _⟩ dX8_becomes_8) hw (fun H locs hw => ?_)
  refine lv_aload_n hx hb dX8_becomes_11 rfl (lv_at hl 0 rfl) ?_
  obtain ⟨⟨zv5, zI6⟩, ze7, hf⟩ := nn_some hf
  refine x_ci (r := zv5) (I1 := zI6) (X1 := X) (x_runV (As := []) (rest := []) C0 (c8_missedInTrial l E G fl X zI3 zx0 zt0 ze7) hw 8 zt0 (by decide) rfl wd98 wd575 wd576 wd577 wd197 ⟨rfl, rfl⟩ hy8_missedInTrial ⟨Nat.le_of_ble_eq_true rfl, Nat.le_of_ble_eq_true rfl⟩ rfl hl.1 (Nat.le_of_ble_eq_true rfl) ⟨Nat.zero_le _, Nat.zero_le _⟩ dX8_becomes_12) hw (fun H locs hw => ?_)
  refine lv_pop hx hb dX8_becomes_15 rfl ?_
  refine lv_aload_n hx hb dX8_becomes_16 rfl (lv_at hl 0 rfl) ?_
  refine xg_8_1 C0 hw zt0 wd480 ezv1 dX8_becomes_17 ?_
  obtain ⟨zv8, ezv8, hf⟩ := nn_some hf
  have tzv8 : okA E G 6 zv8 := wt_r hw ezv8
  refine xg_4_1 C0 hw tzv1 wd513 ezv8 dX8_becomes_20 ?_
  refine lv_iload_n hx hb dX8_becomes_23 rfl (lv_at hl 1 rfl) ?_
  obtain ⟨zv9, ze10, hf⟩ := nn_some hf
  refine x_co (r := zv9) (I1 := zI6) (X1 := X) (x_runV (As := [.int zx1]) (rest := []) C0 (c6_cueAt l E G fl X zI6 zv8 zx1 tzv8 ze10) hw 6 tzv8 (by decide) rfl wd49 wd532 wd377 wd378 wd300 ⟨rfl, rfl⟩ hy6_cueAt ⟨Nat.le_of_ble_eq_true rfl, Nat.le_of_ble_eq_true rfl⟩ rfl hl.1 (Nat.le_of_ble_eq_true rfl) ⟨Nat.zero_le _, Nat.zero_le _⟩ dX8_becomes_24) hw (fun H locs hw tzv9 => ?_)
  refine x_astore_n (lv' := [(2, va_rf zv9), (0, .ref zx0), (1, .int zx1)]) C0 dX8_becomes_27 rfl hl (by decide) rfl (fun ls hl => ?_)
  refine x_aload_n C0 dX8_becomes_28 rfl (lv_at hl 0 rfl) ?_
  refine x_ifnonnull (tgt := 36) C0 dX8_becomes_29 (by decide) (fun zc11 => ?_) (fun zc11 => ?_)
  · have hf := ite_f hf zc11
    refine x_aload_n C0 dX8_becomes_36 rfl (lv_at hl 0 rfl) ?_
    obtain ⟨zb12, ezb12, hfzb12⟩ := nn_some hf
    have tzb12 : okA E G 1 zb12 := tzv9 _ ezb12
    subst ezb12
    have hf := hfzb12
    refine xg_1_4 C0 hw tzb12 wd531 dX8_becomes_37 ?_
    exact w8_becomes_40 C0 hr hz fl zI6 _ _ _ (gF zI6 20 zb12) hw (lv_sub hl [] rfl) hf
  · have hf := ite_t hf zc11
    refine lv_iconst (v := (-1 : Int32)) hx hb dX8_becomes_32 (by decide) ?_
    refine lv_goto (tgt := 40) hx hb dX8_becomes_33 (by decide) ?_
    exact w8_becomes_40 C0 hr hz fl zI6 _ _ _ (-1 : Int32) hw (lv_sub hl [] rfl) hf
noncomputable def m8_missesWith_33 (fl : Nat) (len : Nat → Nat) (X : Xm) (I : Im) (zs0 : Int32) : Option (Int32 × Im) :=
  ck (isbl zs0 = true) <|
  some (zs0, I)
set_option maxHeartbeats 4000000 in
set_option maxRecDepth 100000 in
theorem w8_missesWith_33 {p : Program} {l : Launch} {e : Env} {s : State} {m : MethodId} {args : Array Value} {below : List Frame} {meth : Method} {c : Code} {E : EN} {G : GM} {X : Xm} (C0 : CX p s m args meth c E cX8_missesWith RX8 2) (hr : meth.sig.returnType = (some .boolean)) (hz : s.heap.size + 0 ≤ eB E + G.1) {rr : Int32 × Im} (fl : Nat) : ∀ (I : Im) (H : Heap) (locs : List Loc) (ls : Array Slot) (zs0 : Int32) , WD E G I X s.heap H locs → lv_has ls 2 [] → m8_missesWith_33 fl G.2.2 X I zs0 = some rr → W p l e ({ frames := 5, cells := 0, slots := 0, locals := 112 } : Room) s m args below meth c H locs 0 0 (MQ below (QI E G rr.1 rr.2 X) args s 0 0 (eA E)) (F0 m 33 ls [.int zs0]) := by
  intro I H locs ls zs0 hw hl hf
  unfold m8_missesWith_33 at hf
  have hx := C0.1; have hb := C0.2.1; have hml := C0.2.2.1; have hown := C0.2.2.2.1; have hts := C0.2.2.2.2.1
  obtain ⟨zhn1, hf⟩ := ck_some hf
  obtain rfl := Option.some.inj hf
  exact x_zret C0 hr (isbl_nar zhn1) hw dX8_missesWith_33
noncomputable def m8_missesWith (fl : Nat) (len : Nat → Nat) (X : Xm) (I : Im) (zx0 : Nat) (zx1 : Int32) : Option (Int32 × Im) :=
  nn (gR X 129 zx0) fun zv1 =>
  nn (gR X 128 zx0) fun zv2 =>
  nn (m4_copyFrom fl len X I zv1 zv2) fun zI3 =>
  nn (gR X 64 zv1) fun zv5 =>
  ck (inb (0 : Int32) (len zv5) = true) <|
  lt (pA zI3 zv5 ((0 : Int32)).toNatClampNeg zx1) fun zI7 =>
  nn (m8_missedInTrial fl len X zI7 zx0) fun ⟨zv8, zI9⟩ =>
  if zv8 ≤ 0 then
    m8_missesWith_33 fl len X zI9 (0 : Int32)
  else
    m8_missesWith_33 fl len X zI9 (1 : Int32)
theorem hy8_missesWith : yX8_missesWith.cls = RX8 ∧ yX8_missesWith.cls ≠ "java/lang/invoke/MethodHandle" ∧ yX8_missesWith.cls ≠ "java/lang/invoke/VarHandle" ∧ (parseMethodDescriptor yX8_missesWith.desc).map (fun d => d.parameters.length) = some 1 := ⟨rfl, by decide +kernel, by decide +kernel, by decide +kernel⟩
set_option maxHeartbeats 4000000 in
set_option maxRecDepth 100000 in
theorem c8_missesWith (l : Launch) (E : EN) (G : GM) (fl : Nat) (X : Xm) (I : Im) (zx0 : Nat) (zx1 : Int32) (zt0 : okA E G 8 zx0) {rr : Int32 × Im} (hf : m8_missesWith fl G.2.2 X I zx0 zx1 = some rr) : MT l yX8_missesWith cX8_missesWith 2 (some .boolean) ({ frames := 5, cells := 0, slots := 0, locals := 112 } : Room) E G I X [.ref zx0, .int zx1] (QI E G rr.1 rr.2 X) 0 0 := by
  refine Met.ofW (cc := cX8_missesWith) (maxL := 2) (ret := (some .boolean)) (by decide +kernel) rfl ?_
  intro p e s m args below meth c s₁ B hml hv
  obtain ⟨rfl, hw0, hSE⟩ := hv
  have C0 : CX p s m ([.ref zx0, .int zx1] : List Value).toArray meth c E cX8_missesWith RX8 2 := ⟨B.exec, B.bytes, hml, findClass_of_methodNamed B.named, fun w hw => atoms_spec (ws := WS yX8_missesWith cX8_missesWith 2 (some .boolean)) B.pre w (List.mem_cons_of_mem _ hw), B.notSynchronized, hSE⟩
  have hz : s.heap.size + 0 ≤ eB E + G.1 := Nat.le_of_eq hw0.2.1
  have hw : WD E G I X s.heap s.heap [] := ⟨hw0, va_S.rf⟩
  have hr := B.returns
  have hx := C0.1; have hb := C0.2.1; have hml := C0.2.2.1; have hown := C0.2.2.2.1; have hts := C0.2.2.2.2.1
  have hl := lv_entry ([.ref zx0, .int zx1]) (n := 2) (Nat.le_of_ble_eq_true rfl)
  rw [lg_entry_eq]
  generalize (lg_sl ([.ref zx0, .int zx1]) ++ List.replicate (2 - (lg_sl ([.ref zx0, .int zx1])).length) Slot.unset).toArray = ls at hl ⊢
  have hl : lv_has ls 2 [(0, .ref zx0), (1, .int zx1)] := hl
  unfold m8_missesWith at hf
  refine lv_aload_n hx hb dX8_missesWith_0 rfl (lv_at hl 0 rfl) ?_
  obtain ⟨zv1, ezv1, hf⟩ := nn_some hf
  have tzv1 : okA E G 4 zv1 := wt_r hw ezv1
  refine xg_8_1 C0 hw zt0 wd480 ezv1 dX8_missesWith_1 ?_
  refine lv_aload_n hx hb dX8_missesWith_4 rfl (lv_at hl 0 rfl) ?_
  obtain ⟨zv2, ezv2, hf⟩ := nn_some hf
  have tzv2 : okA E G 4 zv2 := wt_r hw ezv2
  refine xg_8_0 C0 hw zt0 wd479 ezv2 dX8_missesWith_5 ?_
  obtain ⟨zI3, ze4, hf⟩ := nn_some hf
  refine x_cv (I1 := zI3) (X1 := X) (x_runV (As := [.ref zv2]) (rest := []) C0 (c4_copyFrom l E G fl X I zv1 zv2 tzv1 tzv2 ze4) hw 4 tzv1 (by decide) rfl wd40 wd492 wd493 wd494 wd356 ⟨rfl, rfl⟩ hy4_copyFrom ⟨Nat.le_of_ble_eq_true rfl, Nat.le_of_ble_eq_true rfl⟩ rfl hl.1 (Nat.le_of_ble_eq_true rfl) ⟨Nat.zero_le _, Nat.zero_le _⟩ dX8_missesWith_8) hw (fun H locs hw => ?_)
  refine lv_aload_n hx hb dX8_missesWith_11 rfl (lv_at hl 0 rfl) ?_
  refine xg_8_1 C0 hw zt0 wd480 ezv1 dX8_missesWith_12 ?_
  obtain ⟨zv5, ezv5, hf⟩ := nn_some hf
  have tzv5 : okA E G 11 zv5 := wt_r hw ezv5
  refine xg_4_0 C0 hw tzv1 wd557 ezv5 dX8_missesWith_15 ?_
  refine lv_iconst (v := (0 : Int32)) hx hb dX8_missesWith_18 (by decide) ?_
  refine lv_iload_n hx hb dX8_missesWith_19 rfl (lv_at hl 1 rfl) ?_
  obtain ⟨zhb6, hf⟩ := ck_some hf
  obtain ⟨zI7, ezI7⟩ : ∃ y : Im, y = pA zI3 zv5 ((0 : Int32)).toNatClampNeg zx1 := ⟨_, rfl⟩
  have hf := lt_at hf ezI7
  refine x_iast C0 hz hw tzv5 zhb6 dX8_missesWith_20 ezI7 (fun H locs hw => ?_)
  refine lv_aload_n hx hb dX8_missesWith_21 rfl (lv_at hl 0 rfl) ?_
  obtain ⟨⟨zv8, zI9⟩, ze10, hf⟩ := nn_some hf
  refine x_ci (r := zv8) (I1 := zI9) (X1 := X) (x_runV (As := []) (rest := []) C0 (c8_missedInTrial l E G fl X zI7 zx0 zt0 ze10) hw 8 zt0 (by decide) rfl wd98 wd575 wd576 wd577 wd197 ⟨rfl, rfl⟩ hy8_missedInTrial ⟨Nat.le_of_ble_eq_true rfl, Nat.le_of_ble_eq_true rfl⟩ rfl hl.1 (Nat.le_of_ble_eq_true rfl) ⟨Nat.zero_le _, Nat.zero_le _⟩ dX8_missesWith_22) hw (fun H locs hw => ?_)
  refine lv_if_le (tgt := 32) hx hb dX8_missesWith_25 (by decide) (fun zc11 => ?_) (fun zc11 => ?_)
  · have hf := ite_t hf zc11
    refine lv_iconst (v := (0 : Int32)) hx hb dX8_missesWith_32 (by decide) ?_
    exact w8_missesWith_33 C0 hr hz fl zI9 _ _ _ (0 : Int32) hw (lv_sub hl [] rfl) hf
  · have hf := ite_f hf zc11
    refine lv_iconst (v := (1 : Int32)) hx hb dX8_missesWith_28 (by decide) ?_
    refine lv_goto (tgt := 33) hx hb dX8_missesWith_29 (by decide) ?_
    exact w8_missesWith_33 C0 hr hz fl zI9 _ _ _ (1 : Int32) hw (lv_sub hl [] rfl) hf
noncomputable def m8_leastWind_56 (fl : Nat) (len : Nat → Nat) (X : Xm) (I : Im) (zs0 : Int32) : Option (Int32 × Im) :=
  some (zs0, I)
set_option maxHeartbeats 4000000 in
set_option maxRecDepth 100000 in
theorem w8_leastWind_56 {p : Program} {l : Launch} {e : Env} {s : State} {m : MethodId} {args : Array Value} {below : List Frame} {meth : Method} {c : Code} {E : EN} {G : GM} {X : Xm} (C0 : CX p s m args meth c E cX8_leastWind RX8 4) (hr : meth.sig.returnType = (some .int)) (hz : s.heap.size + 0 ≤ eB E + G.1) {rr : Int32 × Im} (fl : Nat) : ∀ (I : Im) (H : Heap) (locs : List Loc) (ls : Array Slot) (zs0 : Int32) , WD E G I X s.heap H locs → lv_has ls 4 [] → m8_leastWind_56 fl G.2.2 X I zs0 = some rr → W p l e ({ frames := 6, cells := 0, slots := 0, locals := 133 } : Room) s m args below meth c H locs 0 0 (MQ below (QI E G rr.1 rr.2 X) args s 0 0 (eA E)) (F0 m 56 ls [.int zs0]) := by
  intro I H locs ls zs0 hw hl hf
  unfold m8_leastWind_56 at hf
  have hx := C0.1; have hb := C0.2.1; have hml := C0.2.2.1; have hown := C0.2.2.2.1; have hts := C0.2.2.2.2.1
  obtain rfl := Option.some.inj hf
  exact x_iret C0 hr hw dX8_leastWind_56
noncomputable def m8_leastWind_32 (fl : Nat) (len : Nat → Nat) (X : Xm) (zr5 : Im → Nat → Int32 → Int32 → Option (Int32 × Im)) (I : Im) (zx0 : Nat) (zx1 : Int32) (zx2 : Int32) : Option (Int32 × Im) :=
  lt ((zx2 / (2 : Int32))) fun zv1 =>
  zr5 I zx0 zx1 zv1
set_option maxHeartbeats 4000000 in
set_option maxRecDepth 100000 in
theorem w8_leastWind_32 {p : Program} {l : Launch} {e : Env} {s : State} {m : MethodId} {args : Array Value} {below : List Frame} {meth : Method} {c : Code} {E : EN} {G : GM} {X : Xm} (C0 : CX p s m args meth c E cX8_leastWind RX8 4) (hr : meth.sig.returnType = (some .int)) (hz : s.heap.size + 0 ≤ eB E + G.1) {rr : Int32 × Im} (fl : Nat) (zr5 : Im → Nat → Int32 → Int32 → Option (Int32 × Im)) (zhr5 : ∀ (I : Im) (H : Heap) (locs : List Loc) (ls : Array Slot) (zx0 : Nat) (zx1 : Int32) (zx2 : Int32) (zt0 : okA E G 8 zx0), WD E G I X s.heap H locs → lv_has ls 4 [(0, .ref zx0), (1, .int zx1), (2, .int zx2)] → zr5 I zx0 zx1 zx2 = some rr → W p l e ({ frames := 6, cells := 0, slots := 0, locals := 133 } : Room) s m args below meth c H locs 0 0 (MQ below (QI E G rr.1 rr.2 X) args s 0 0 (eA E)) (F0 m 5 ls [])) : ∀ (I : Im) (H : Heap) (locs : List Loc) (ls : Array Slot) (zx0 : Nat) (zx1 : Int32) (zx2 : Int32) (zt0 : okA E G 8 zx0), WD E G I X s.heap H locs → lv_has ls 4 [(0, .ref zx0), (1, .int zx1), (2, .int zx2)] → m8_leastWind_32 fl G.2.2 X zr5 I zx0 zx1 zx2 = some rr → W p l e ({ frames := 6, cells := 0, slots := 0, locals := 133 } : Room) s m args below meth c H locs 0 0 (MQ below (QI E G rr.1 rr.2 X) args s 0 0 (eA E)) (F0 m 32 ls []) := by
  intro I H locs ls zx0 zx1 zx2 zt0 hw hl hf
  unfold m8_leastWind_32 at hf
  have hx := C0.1; have hb := C0.2.1; have hml := C0.2.2.1; have hown := C0.2.2.2.1; have hts := C0.2.2.2.2.1
  refine lv_iload_n hx hb dX8_leastWind_32 rfl (lv_at hl 2 rfl) ?_
  refine lv_iconst (v := (2 : Int32)) hx hb dX8_leastWind_33 (by decide) ?_
  refine lv_idiv hx hb dX8_leastWind_34 (by decide) ?_
  refine lv_topi (fun zv1 ezv1 => ?_)
  have hf := lt_at hf ezv1
  refine lv_istore_n (lv' := [(2, .int zv1), (0, .ref zx0), (1, .int zx1)]) hx hb dX8_leastWind_35 rfl hl (by decide) rfl (fun ls hl => ?_)
  refine lv_goto (tgt := 5) hx hb dX8_leastWind_36 (by decide) ?_
  exact zhr5 I _ _ _ zx0 zx1 zv1 zt0 hw (lv_sub hl [1, 2, 0] rfl) hf
noncomputable def m8_leastWind_5b (fl : Nat) (len : Nat → Nat) (X : Xm) (zr5 : Im → Nat → Int32 → Int32 → Option (Int32 × Im)) (I : Im) (zx0 : Nat) (zx1 : Int32) (zx2 : Int32) : Option (Int32 × Im) :=
  if zx2 ≤ 0 then
    ck (inb (0 : Int32) 4 = true) <|
    if zx1 < (mostS.getD ((0 : Int32)).toNatClampNeg 0) then
      m8_leastWind_56 fl len X I (zx1 + (1 : Int32))
    else
      m8_leastWind_56 fl len X I (-6 : Int32)
  else
    lt ((zx1 + zx2)) fun zv5 =>
    ck (inb (0 : Int32) 4 = true) <|
    if (mostS.getD ((0 : Int32)).toNatClampNeg 0) < zv5 then
      m8_leastWind_32 fl len X zr5 I zx0 zx1 zx2
    else
      nn (m8_missesWith fl len X I zx0 zv5) fun ⟨zv9, zI10⟩ =>
      if zv9 = 0 then
        m8_leastWind_32 fl len X zr5 zI10 zx0 zx1 zx2
      else
        m8_leastWind_32 fl len X zr5 zI10 zx0 zv5 zx2
noncomputable def m8_leastWind_5 (fl : Nat) (len : Nat → Nat) (X : Xm) (n : Nat) : Im → Nat → Int32 → Int32 → Option (Int32 × Im) :=
  Nat.rec (fun _ _ _ _ => none) (fun _ r => m8_leastWind_5b fl len X r) n
set_option maxHeartbeats 4000000 in
set_option maxRecDepth 100000 in
theorem w8_leastWind_5b {p : Program} {l : Launch} {e : Env} {s : State} {m : MethodId} {args : Array Value} {below : List Frame} {meth : Method} {c : Code} {E : EN} {G : GM} {X : Xm} (C0 : CX p s m args meth c E cX8_leastWind RX8 4) (hr : meth.sig.returnType = (some .int)) (hz : s.heap.size + 0 ≤ eB E + G.1) {rr : Int32 × Im} (fl : Nat) (zr5 : Im → Nat → Int32 → Int32 → Option (Int32 × Im)) (zhr5 : ∀ (I : Im) (H : Heap) (locs : List Loc) (ls : Array Slot) (zx0 : Nat) (zx1 : Int32) (zx2 : Int32) (zt0 : okA E G 8 zx0), WD E G I X s.heap H locs → lv_has ls 4 [(0, .ref zx0), (1, .int zx1), (2, .int zx2)] → zr5 I zx0 zx1 zx2 = some rr → W p l e ({ frames := 6, cells := 0, slots := 0, locals := 133 } : Room) s m args below meth c H locs 0 0 (MQ below (QI E G rr.1 rr.2 X) args s 0 0 (eA E)) (F0 m 5 ls [])) : ∀ (I : Im) (H : Heap) (locs : List Loc) (ls : Array Slot) (zx0 : Nat) (zx1 : Int32) (zx2 : Int32) (zt0 : okA E G 8 zx0), WD E G I X s.heap H locs → lv_has ls 4 [(0, .ref zx0), (1, .int zx1), (2, .int zx2)] → m8_leastWind_5b fl G.2.2 X zr5 I zx0 zx1 zx2 = some rr → W p l e ({ frames := 6, cells := 0, slots := 0, locals := 133 } : Room) s m args below meth c H locs 0 0 (MQ below (QI E G rr.1 rr.2 X) args s 0 0 (eA E)) (F0 m 5 ls []) := by
  intro I H locs ls zx0 zx1 zx2 zt0 hw hl hf
  unfold m8_leastWind_5b at hf
  have hx := C0.1; have hb := C0.2.1; have hml := C0.2.2.1; have hown := C0.2.2.2.1; have hts := C0.2.2.2.2.1
  refine lv_iload_n hx hb dX8_leastWind_5 rfl (lv_at hl 2 rfl) ?_
  refine lv_if_le (tgt := 39) hx hb dX8_leastWind_6 (by decide) (fun zc1 => ?_) (fun zc1 => ?_)
  · have hf := ite_t hf zc1
    refine lv_iload_n hx hb dX8_leastWind_39 rfl (lv_at hl 1 rfl) ?_
    obtain ⟨zz2, hZzz2, hTzz2⟩ := C0.2.2.2.2.2.2.2.2.2.2.2.2.1
    refine va_gets (ref := "RadioCues") hx hb hZzz2 hw.2 hown (hts _ wd578) (fun _ h => h) dX8_leastWind_40 ?_
    refine lv_iconst (v := (0 : Int32)) hx hb dX8_leastWind_43 (by decide) ?_
    obtain ⟨zhb3, hf⟩ := ck_some hf
    refine va_ti (v := .int (mostS.getD ((0 : Int32)).toNatClampNeg 0)) hx hb hTzz2 hw.2 (inb_in zhb3) rfl dX8_leastWind_44 ?_
    refine lv_icmp_lt (tgt := 53) hx hb dX8_leastWind_45 (by decide) (fun zc4 => ?_) (fun zc4 => ?_)
    · have hf := ite_t hf zc4
      refine lv_iload_n hx hb dX8_leastWind_53 rfl (lv_at hl 1 rfl) ?_
      refine lv_iconst (v := (1 : Int32)) hx hb dX8_leastWind_54 (by decide) ?_
      refine lv_iadd hx hb dX8_leastWind_55 ?_
      exact w8_leastWind_56 C0 hr hz fl I _ _ _ (zx1 + (1 : Int32)) hw (lv_sub hl [] rfl) hf
    · have hf := ite_f hf zc4
      refine lv_bipush (v := (-6 : Int32)) hx hb dX8_leastWind_48 (by decide) ?_
      refine lv_goto (tgt := 56) hx hb dX8_leastWind_50 (by decide) ?_
      exact w8_leastWind_56 C0 hr hz fl I _ _ _ (-6 : Int32) hw (lv_sub hl [] rfl) hf
  · have hf := ite_f hf zc1
    refine lv_iload_n hx hb dX8_leastWind_9 rfl (lv_at hl 1 rfl) ?_
    refine lv_iload_n hx hb dX8_leastWind_10 rfl (lv_at hl 2 rfl) ?_
    refine lv_iadd hx hb dX8_leastWind_11 ?_
    refine lv_topi (fun zv5 ezv5 => ?_)
    have hf := lt_at hf ezv5
    refine lv_istore_n (lv' := [(3, .int zv5), (0, .ref zx0), (1, .int zx1), (2, .int zx2)]) hx hb dX8_leastWind_12 rfl hl (by decide) rfl (fun ls hl => ?_)
    refine lv_iload_n hx hb dX8_leastWind_13 rfl (lv_at hl 0 rfl) ?_
    obtain ⟨zz6, hZzz6, hTzz6⟩ := C0.2.2.2.2.2.2.2.2.2.2.2.2.1
    refine va_gets (ref := "RadioCues") hx hb hZzz6 hw.2 hown (hts _ wd578) (fun _ h => h) dX8_leastWind_14 ?_
    refine lv_iconst (v := (0 : Int32)) hx hb dX8_leastWind_17 (by decide) ?_
    obtain ⟨zhb7, hf⟩ := ck_some hf
    refine va_ti (v := .int (mostS.getD ((0 : Int32)).toNatClampNeg 0)) hx hb hTzz6 hw.2 (inb_in zhb7) rfl dX8_leastWind_18 ?_
    refine lv_icmp_gt (tgt := 32) hx hb dX8_leastWind_19 (by decide) (fun zc8 => ?_) (fun zc8 => ?_)
    · have hf := ite_t hf zc8
      exact w8_leastWind_32 C0 hr hz fl zr5 zhr5 I _ _ _ zx0 zx1 zx2 zt0 hw (lv_sub hl [1, 2, 3] rfl) hf
    · have hf := ite_f hf zc8
      refine lv_aload_n hx hb dX8_leastWind_22 rfl (lv_at hl 1 rfl) ?_
      refine lv_iload_n hx hb dX8_leastWind_23 rfl (lv_at hl 0 rfl) ?_
      obtain ⟨⟨zv9, zI10⟩, ze11, hf⟩ := nn_some hf
      refine x_ci (r := zv9) (I1 := zI10) (X1 := X) (x_runV (As := [.int zv5]) (rest := []) C0 (c8_missesWith l E G fl X I zx0 zv5 zt0 ze11) hw 8 zt0 (by decide) rfl wd100 wd579 wd580 wd581 wd197 ⟨rfl, rfl⟩ hy8_missesWith ⟨Nat.le_of_ble_eq_true rfl, Nat.le_of_ble_eq_true rfl⟩ rfl hl.1 (Nat.le_of_ble_eq_true rfl) ⟨Nat.zero_le _, Nat.zero_le _⟩ dX8_leastWind_24) hw (fun H locs hw => ?_)
      refine lv_if_eq (tgt := 32) hx hb dX8_leastWind_27 (by decide) (fun zc12 => ?_) (fun zc12 => ?_)
      · have hf := ite_t hf zc12
        exact w8_leastWind_32 C0 hr hz fl zr5 zhr5 zI10 _ _ _ zx0 zx1 zx2 zt0 hw (lv_sub hl [1, 2, 3] rfl) hf
      · have hf := ite_f hf zc12
        refine lv_iload_n hx hb dX8_leastWind_30 rfl (lv_at hl 0 rfl) ?_
        refine lv_istore_n (lv' := [(1, .int zv5), (3, .int zv5), (0, .ref zx0), (2, .int zx2)]) hx hb dX8_leastWind_31 rfl hl (by decide) rfl (fun ls hl => ?_)
        exact w8_leastWind_32 C0 hr hz fl zr5 zhr5 zI10 _ _ _ zx0 zv5 zx2 zt0 hw (lv_sub hl [2, 0, 3] rfl) hf
theorem w8_leastWind_5 {p : Program} {l : Launch} {e : Env} {s : State} {m : MethodId} {args : Array Value} {below : List Frame} {meth : Method} {c : Code} {E : EN} {G : GM} {X : Xm} (C0 : CX p s m args meth c E cX8_leastWind RX8 4) (hr : meth.sig.returnType = (some .int)) (hz : s.heap.size + 0 ≤ eB E + G.1) {rr : Int32 × Im} (fl : Nat) : ∀ (n : Nat) (I : Im) (H : Heap) (locs : List Loc) (ls : Array Slot) (zx0 : Nat) (zx1 : Int32) (zx2 : Int32) (zt0 : okA E G 8 zx0), WD E G I X s.heap H locs → lv_has ls 4 [(0, .ref zx0), (1, .int zx1), (2, .int zx2)] → m8_leastWind_5 fl G.2.2 X n I zx0 zx1 zx2 = some rr → W p l e ({ frames := 6, cells := 0, slots := 0, locals := 133 } : Room) s m args below meth c H locs 0 0 (MQ below (QI E G rr.1 rr.2 X) args s 0 0 (eA E)) (F0 m 5 ls []) := by
  intro n
  induction n with
  | zero => intro I H locs ls zx0 zx1 zx2 zt0 hw hl hf; exact absurd (show (none : Option (Int32 × Im)) = some rr from hf) (by simp)
  | succ n ih => intro I H locs ls zx0 zx1 zx2 zt0 hw hl hf; exact w8_leastWind_5b C0 hr hz fl _ ih I H locs ls zx0 zx1 zx2 zt0 hw hl hf
noncomputable def m8_leastWind (fl : Nat) (len : Nat → Nat) (X : Xm) (I : Im) (zx0 : Nat) : Option (Int32 × Im) :=
  m8_leastWind_5 fl len X fl I zx0 (0 : Int32) (16 : Int32)
theorem hy8_leastWind : yX8_leastWind.cls = RX8 ∧ yX8_leastWind.cls ≠ "java/lang/invoke/MethodHandle" ∧ yX8_leastWind.cls ≠ "java/lang/invoke/VarHandle" ∧ (parseMethodDescriptor yX8_leastWind.desc).map (fun d => d.parameters.length) = some 0 := ⟨rfl, by decide +kernel, by decide +kernel, by decide +kernel⟩
set_option maxHeartbeats 4000000 in
set_option maxRecDepth 100000 in
theorem c8_leastWind (l : Launch) (E : EN) (G : GM) (fl : Nat) (X : Xm) (I : Im) (zx0 : Nat) (zt0 : okA E G 8 zx0) {rr : Int32 × Im} (hf : m8_leastWind fl G.2.2 X I zx0 = some rr) : MT l yX8_leastWind cX8_leastWind 4 (some .int) ({ frames := 6, cells := 0, slots := 0, locals := 133 } : Room) E G I X [.ref zx0] (QI E G rr.1 rr.2 X) 0 0 := by
  refine Met.ofW (cc := cX8_leastWind) (maxL := 4) (ret := (some .int)) (by decide +kernel) rfl ?_
  intro p e s m args below meth c s₁ B hml hv
  obtain ⟨rfl, hw0, hSE⟩ := hv
  have C0 : CX p s m ([.ref zx0] : List Value).toArray meth c E cX8_leastWind RX8 4 := ⟨B.exec, B.bytes, hml, findClass_of_methodNamed B.named, fun w hw => atoms_spec (ws := WS yX8_leastWind cX8_leastWind 4 (some .int)) B.pre w (List.mem_cons_of_mem _ hw), B.notSynchronized, hSE⟩
  have hz : s.heap.size + 0 ≤ eB E + G.1 := Nat.le_of_eq hw0.2.1
  have hw : WD E G I X s.heap s.heap [] := ⟨hw0, va_S.rf⟩
  have hr := B.returns
  have hx := C0.1; have hb := C0.2.1; have hml := C0.2.2.1; have hown := C0.2.2.2.1; have hts := C0.2.2.2.2.1
  have hl := lv_entry ([.ref zx0]) (n := 4) (Nat.le_of_ble_eq_true rfl)
  rw [lg_entry_eq]
  generalize (lg_sl ([.ref zx0]) ++ List.replicate (4 - (lg_sl ([.ref zx0])).length) Slot.unset).toArray = ls at hl ⊢
  have hl : lv_has ls 4 [(0, .ref zx0)] := hl
  unfold m8_leastWind at hf
  refine lv_iconst (v := (0 : Int32)) hx hb dX8_leastWind_0 (by decide) ?_
  refine lv_istore_n (lv' := [(1, .int (0 : Int32)), (0, .ref zx0)]) hx hb dX8_leastWind_1 rfl hl (by decide) rfl (fun ls hl => ?_)
  refine lv_bipush (v := (16 : Int32)) hx hb dX8_leastWind_2 (by decide) ?_
  refine lv_istore_n (lv' := [(2, .int (16 : Int32)), (1, .int (0 : Int32)), (0, .ref zx0)]) hx hb dX8_leastWind_4 rfl hl (by decide) rfl (fun ls hl => ?_)
  exact w8_leastWind_5 C0 hr hz fl fl I _ _ _ zx0 (0 : Int32) (16 : Int32) zt0 hw (lv_sub hl [2, 1, 0] rfl) hf
noncomputable def m8_ifMoved_33 (fl : Nat) (len : Nat → Nat) (I : Im) (X : Xm) (zs0 : Int32) : Option (Int32 × Im × Xm) :=
  some (zs0, I, X)
set_option maxHeartbeats 4000000 in
set_option maxRecDepth 100000 in
theorem w8_ifMoved_33 {p : Program} {l : Launch} {e : Env} {s : State} {m : MethodId} {args : Array Value} {below : List Frame} {meth : Method} {c : Code} {E : EN} {G : GM} (C0 : CX p s m args meth c E cX8_ifMoved RX8 4) (hr : meth.sig.returnType = (some .int)) (hz : s.heap.size + 0 ≤ eB E + G.1) {rr : Int32 × Im × Xm} (fl : Nat) : ∀ (I : Im) (X : Xm) (H : Heap) (locs : List Loc) (ls : Array Slot) (zs0 : Int32) , WD E G I X s.heap H locs → lv_has ls 4 [] → m8_ifMoved_33 fl G.2.2 I X zs0 = some rr → W p l e ({ frames := 5, cells := 0, slots := 0, locals := 112 } : Room) s m args below meth c H locs 0 0 (MQ below (QI E G rr.1 rr.2.1 rr.2.2) args s 0 0 (eA E)) (F0 m 33 ls [.int zs0]) := by
  intro I X H locs ls zs0 hw hl hf
  unfold m8_ifMoved_33 at hf
  have hx := C0.1; have hb := C0.2.1; have hml := C0.2.2.1; have hown := C0.2.2.2.1; have hts := C0.2.2.2.2.1
  obtain rfl := Option.some.inj hf
  exact x_iret C0 hr hw dX8_ifMoved_33
noncomputable def m8_ifMoved (fl : Nat) (len : Nat → Nat) (X : Xm) (I : Im) (zx0 : Nat) (zx1 : Int32) (zx2 : Int32) : Option (Int32 × Im × Xm) :=
  nn (gR X 129 zx0) fun zv1 =>
  nn (gR X 128 zx0) fun zv2 =>
  nn (m4_copyFrom fl len X I zv1 zv2) fun zI3 =>
  nn (m4_moveCue fl len X zI3 zv1 zx1 zx2) fun ⟨zv5, zI6, zX7⟩ =>
  if 0 ≤ zv5 then
    nn (m8_missedInTrial fl len zX7 zI6 zx0) fun ⟨zv10, zI11⟩ =>
    m8_ifMoved_33 fl len zI11 zX7 zv10
  else
    m8_ifMoved_33 fl len zI6 zX7 zv5
theorem hy8_ifMoved : yX8_ifMoved.cls = RX8 ∧ yX8_ifMoved.cls ≠ "java/lang/invoke/MethodHandle" ∧ yX8_ifMoved.cls ≠ "java/lang/invoke/VarHandle" ∧ (parseMethodDescriptor yX8_ifMoved.desc).map (fun d => d.parameters.length) = some 2 := ⟨rfl, by decide +kernel, by decide +kernel, by decide +kernel⟩
set_option maxHeartbeats 4000000 in
set_option maxRecDepth 100000 in
theorem c8_ifMoved (l : Launch) (E : EN) (G : GM) (fl : Nat) (X : Xm) (I : Im) (zx0 : Nat) (zx1 : Int32) (zx2 : Int32) (zt0 : okA E G 8 zx0) {rr : Int32 × Im × Xm} (hf : m8_ifMoved fl G.2.2 X I zx0 zx1 zx2 = some rr) : MT l yX8_ifMoved cX8_ifMoved 4 (some .int) ({ frames := 5, cells := 0, slots := 0, locals := 112 } : Room) E G I X [.ref zx0, .int zx1, .int zx2] (QI E G rr.1 rr.2.1 rr.2.2) 0 0 := by
  refine Met.ofW (cc := cX8_ifMoved) (maxL := 4) (ret := (some .int)) (by decide +kernel) rfl ?_
  intro p e s m args below meth c s₁ B hml hv
  obtain ⟨rfl, hw0, hSE⟩ := hv
  have C0 : CX p s m ([.ref zx0, .int zx1, .int zx2] : List Value).toArray meth c E cX8_ifMoved RX8 4 := ⟨B.exec, B.bytes, hml, findClass_of_methodNamed B.named, fun w hw => atoms_spec (ws := WS yX8_ifMoved cX8_ifMoved 4 (some .int)) B.pre w (List.mem_cons_of_mem _ hw), B.notSynchronized, hSE⟩
  have hz : s.heap.size + 0 ≤ eB E + G.1 := Nat.le_of_eq hw0.2.1
  have hw : WD E G I X s.heap s.heap [] := ⟨hw0, va_S.rf⟩
  have hr := B.returns
  have hx := C0.1; have hb := C0.2.1; have hml := C0.2.2.1; have hown := C0.2.2.2.1; have hts := C0.2.2.2.2.1
  have hl := lv_entry ([.ref zx0, .int zx1, .int zx2]) (n := 4) (Nat.le_of_ble_eq_true rfl)
  rw [lg_entry_eq]
  generalize (lg_sl ([.ref zx0, .int zx1, .int zx2]) ++ List.replicate (4 - (lg_sl ([.ref zx0, .int zx1, .int zx2])).length) Slot.unset).toArray = ls at hl ⊢
  have hl : lv_has ls 4 [(0, .ref zx0), (1, .int zx1), (2, .int zx2)] := hl
  unfold m8_ifMoved at hf
  refine lv_aload_n hx hb dX8_ifMoved_0 rfl (lv_at hl 0 rfl) ?_
  obtain ⟨zv1, ezv1, hf⟩ := nn_some hf
  have tzv1 : okA E G 4 zv1 := wt_r hw ezv1
  refine xg_8_1 C0 hw zt0 wd480 ezv1 dX8_ifMoved_1 ?_
  refine lv_aload_n hx hb dX8_ifMoved_4 rfl (lv_at hl 0 rfl) ?_
  obtain ⟨zv2, ezv2, hf⟩ := nn_some hf
  have tzv2 : okA E G 4 zv2 := wt_r hw ezv2
  refine xg_8_0 C0 hw zt0 wd479 ezv2 dX8_ifMoved_5 ?_
  obtain ⟨zI3, ze4, hf⟩ := nn_some hf
  refine x_cv (I1 := zI3) (X1 := X) (x_runV (As := [.ref zv2]) (rest := []) C0 (c4_copyFrom l E G fl X I zv1 zv2 tzv1 tzv2 ze4) hw 4 tzv1 (by decide) rfl wd40 wd492 wd493 wd494 wd356 ⟨rfl, rfl⟩ hy4_copyFrom ⟨Nat.le_of_ble_eq_true rfl, Nat.le_of_ble_eq_true rfl⟩ rfl hl.1 (Nat.le_of_ble_eq_true rfl) ⟨Nat.zero_le _, Nat.zero_le _⟩ dX8_ifMoved_8) hw (fun H locs hw => ?_)
  refine lv_aload_n hx hb dX8_ifMoved_11 rfl (lv_at hl 0 rfl) ?_
  refine xg_8_1 C0 hw zt0 wd480 ezv1 dX8_ifMoved_12 ?_
  refine lv_iload_n hx hb dX8_ifMoved_15 rfl (lv_at hl 1 rfl) ?_
  refine lv_iload_n hx hb dX8_ifMoved_16 rfl (lv_at hl 2 rfl) ?_
  obtain ⟨⟨zv5, zI6, zX7⟩, ze8, hf⟩ := nn_some hf
  refine x_ci (r := zv5) (I1 := zI6) (X1 := zX7) (x_runV (As := [.int zx1, .int zx2]) (rest := []) C0 (c4_moveCue l E G fl X zI3 zv1 zx1 zx2 tzv1 ze8) hw 4 tzv1 (by decide) rfl wd54 wd517 wd518 wd519 wd356 ⟨rfl, rfl⟩ hy4_moveCue ⟨Nat.le_of_ble_eq_true rfl, Nat.le_of_ble_eq_true rfl⟩ rfl hl.1 (Nat.le_of_ble_eq_true rfl) ⟨Nat.zero_le _, Nat.zero_le _⟩ dX8_ifMoved_17) hw (fun H locs hw => ?_)
  refine lv_istore_n (lv' := [(3, .int zv5), (0, .ref zx0), (1, .int zx1), (2, .int zx2)]) hx hb dX8_ifMoved_20 rfl hl (by decide) rfl (fun ls hl => ?_)
  refine lv_iload_n hx hb dX8_ifMoved_21 rfl (lv_at hl 0 rfl) ?_
  refine lv_if_ge (tgt := 29) hx hb dX8_ifMoved_22 (by decide) (fun zc9 => ?_) (fun zc9 => ?_)
  · have hf := ite_t hf zc9
    refine lv_aload_n hx hb dX8_ifMoved_29 rfl (lv_at hl 1 rfl) ?_
    obtain ⟨⟨zv10, zI11⟩, ze12, hf⟩ := nn_some hf
    refine x_ci (r := zv10) (I1 := zI11) (X1 := zX7) (x_runV (As := []) (rest := []) C0 (c8_missedInTrial l E G fl zX7 zI6 zx0 zt0 ze12) hw 8 zt0 (by decide) rfl wd98 wd575 wd576 wd577 wd197 ⟨rfl, rfl⟩ hy8_missedInTrial ⟨Nat.le_of_ble_eq_true rfl, Nat.le_of_ble_eq_true rfl⟩ rfl hl.1 (Nat.le_of_ble_eq_true rfl) ⟨Nat.zero_le _, Nat.zero_le _⟩ dX8_ifMoved_30) hw (fun H locs hw => ?_)
    exact w8_ifMoved_33 C0 hr hz fl zI11 zX7 _ _ _ zv10 hw (lv_sub hl [] rfl) hf
  · have hf := ite_f hf zc9
    refine lv_iload_n hx hb dX8_ifMoved_25 rfl (lv_at hl 0 rfl) ?_
    refine lv_goto (tgt := 33) hx hb dX8_ifMoved_26 (by decide) ?_
    exact w8_ifMoved_33 C0 hr hz fl zI6 zX7 _ _ _ zv5 hw (lv_sub hl [] rfl) hf
noncomputable def m8_readyIn_109 (fl : Nat) (len : Nat → Nat) (X : Xm) (I : Im) (zs0 : Int32) : Option (Int32) :=
  some (zs0)
set_option maxHeartbeats 4000000 in
set_option maxRecDepth 100000 in
theorem w8_readyIn_109 {p : Program} {l : Launch} {e : Env} {s : State} {m : MethodId} {args : Array Value} {below : List Frame} {meth : Method} {c : Code} {E : EN} {G : GM} {X : Xm} {I : Im} (C0 : CX p s m args meth c E cX8_readyIn RX8 8) (hr : meth.sig.returnType = (some .int)) (hz : s.heap.size + 0 ≤ eB E + G.1) {rr : Int32} (fl : Nat) : ∀ (H : Heap) (locs : List Loc) (ls : Array Slot) (zs0 : Int32) , WD E G I X s.heap H locs → lv_has ls 8 [] → m8_readyIn_109 fl G.2.2 X I zs0 = some rr → W p l e ({ frames := 2, cells := 0, slots := 0, locals := 44 } : Room) s m args below meth c H locs 0 0 (MQ below (QI E G rr I X) args s 0 0 (eA E)) (F0 m 109 ls [.int zs0]) := by
  intro H locs ls zs0 hw hl hf
  unfold m8_readyIn_109 at hf
  have hx := C0.1; have hb := C0.2.1; have hml := C0.2.2.1; have hown := C0.2.2.2.1; have hts := C0.2.2.2.2.1
  obtain rfl := Option.some.inj hf
  exact x_iret C0 hr hw dX8_readyIn_109
noncomputable def m8_readyIn_102 (fl : Nat) (len : Nat → Nat) (X : Xm) (I : Im) (zx3 : Nat) (zx7 : Int32) : Option (Int32) :=
  m8_readyIn_109 fl len X I ((gF I 84 zx3) + zx7)
set_option maxHeartbeats 4000000 in
set_option maxRecDepth 100000 in
theorem w8_readyIn_102 {p : Program} {l : Launch} {e : Env} {s : State} {m : MethodId} {args : Array Value} {below : List Frame} {meth : Method} {c : Code} {E : EN} {G : GM} {X : Xm} {I : Im} (C0 : CX p s m args meth c E cX8_readyIn RX8 8) (hr : meth.sig.returnType = (some .int)) (hz : s.heap.size + 0 ≤ eB E + G.1) {rr : Int32} (fl : Nat) : ∀ (H : Heap) (locs : List Loc) (ls : Array Slot) (zx3 : Nat) (zx7 : Int32) (zt3 : okA E G 5 zx3), WD E G I X s.heap H locs → lv_has ls 8 [(3, .ref zx3), (7, .int zx7)] → m8_readyIn_102 fl G.2.2 X I zx3 zx7 = some rr → W p l e ({ frames := 2, cells := 0, slots := 0, locals := 44 } : Room) s m args below meth c H locs 0 0 (MQ below (QI E G rr I X) args s 0 0 (eA E)) (F0 m 102 ls []) := by
  intro H locs ls zx3 zx7 zt3 hw hl hf
  unfold m8_readyIn_102 at hf
  have hx := C0.1; have hb := C0.2.1; have hml := C0.2.2.1; have hown := C0.2.2.2.1; have hts := C0.2.2.2.2.1
  refine lv_aload_n hx hb dX8_readyIn_102 rfl (lv_at hl 0 rfl) ?_
  refine xg_5_4 C0 hw zt3 wd535 dX8_readyIn_103 ?_
  refine lv_iload hx hb dX8_readyIn_106 (lv_at hl 1 rfl) ?_
  refine lv_iadd hx hb dX8_readyIn_108 ?_
  exact w8_readyIn_109 C0 hr hz fl _ _ _ ((gF I 84 zx3) + zx7) hw (lv_sub hl [] rfl) hf
noncomputable def m8_readyIn_29 (fl : Nat) (len : Nat → Nat) (X : Xm) (I : Im) : Option (Int32) :=
  some ((-1 : Int32))
set_option maxHeartbeats 4000000 in
set_option maxRecDepth 100000 in
theorem w8_readyIn_29 {p : Program} {l : Launch} {e : Env} {s : State} {m : MethodId} {args : Array Value} {below : List Frame} {meth : Method} {c : Code} {E : EN} {G : GM} {X : Xm} {I : Im} (C0 : CX p s m args meth c E cX8_readyIn RX8 8) (hr : meth.sig.returnType = (some .int)) (hz : s.heap.size + 0 ≤ eB E + G.1) {rr : Int32} (fl : Nat) : ∀ (H : Heap) (locs : List Loc) (ls : Array Slot) , WD E G I X s.heap H locs → lv_has ls 8 [] → m8_readyIn_29 fl G.2.2 X I = some rr → W p l e ({ frames := 2, cells := 0, slots := 0, locals := 44 } : Room) s m args below meth c H locs 0 0 (MQ below (QI E G rr I X) args s 0 0 (eA E)) (F0 m 29 ls []) := by
  intro H locs ls hw hl hf
  unfold m8_readyIn_29 at hf
  have hx := C0.1; have hb := C0.2.1; have hml := C0.2.2.1; have hown := C0.2.2.2.1; have hts := C0.2.2.2.2.1
  refine lv_iconst (v := (-1 : Int32)) hx hb dX8_readyIn_29 (by decide) ?_
  obtain rfl := Option.some.inj hf
  exact x_iret C0 hr hw dX8_readyIn_30
noncomputable def m8_readyIn (fl : Nat) (len : Nat → Nat) (X : Xm) (I : Im) (zx0 : Nat) (zx1 : Int32) (zx2 : Int32) : Option (Int32) :=
  nn (gR X 128 zx0) fun zv1 =>
  nn (m4_reelAt fl len X I zv1 zx1) fun zv2 =>
  nn (m4_soundAt fl len X I zv1 zx1 zx2) fun zv4 =>
  if zv2 = none then
    m8_readyIn_29 fl len X I 
  else
    if zv4 = none then
      m8_readyIn_29 fl len X I 
    else
      nn (gR X 64 zv1) fun zv8 =>
      ck (inb (0 : Int32) (len zv8) = true) <|
      lt ((if (1 : Int32) < (gA I zv8 ((0 : Int32)).toNatClampNeg) then (gA I zv8 ((0 : Int32)).toNatClampNeg) else (1 : Int32))) fun zv10 =>
      nn zv2 fun zb11 =>
      nn zv4 fun zb12 =>
      lt ((if 0 ≤ (((gF I 82 zb11) + (gF I 84 zb11)) - (gF I 114 zb12)) then (((gF I 82 zb11) + (gF I 84 zb11)) - (gF I 114 zb12)) else 0 - (((gF I 82 zb11) + (gF I 84 zb11)) - (gF I 114 zb12)))) fun zv13 =>
      ck (¬ zv10 = 0) <|
      lt ((((zv13 + zv10) - (1 : Int32)) / zv10)) fun zv15 =>
      if (gF I 84 zb11) ≤ 0 then
        m8_readyIn_102 fl len X I zb11 zv15
      else
        if zv15 ≤ 0 then
          m8_readyIn_102 fl len X I zb11 zv15
        else
          m8_readyIn_109 fl len X I (((gF I 84 zb11) + zv15) - (1 : Int32))
theorem hy8_readyIn : yX8_readyIn.cls = RX8 ∧ yX8_readyIn.cls ≠ "java/lang/invoke/MethodHandle" ∧ yX8_readyIn.cls ≠ "java/lang/invoke/VarHandle" ∧ (parseMethodDescriptor yX8_readyIn.desc).map (fun d => d.parameters.length) = some 2 := ⟨rfl, by decide +kernel, by decide +kernel, by decide +kernel⟩
set_option maxHeartbeats 4000000 in
set_option maxRecDepth 100000 in
theorem c8_readyIn (l : Launch) (E : EN) (G : GM) (fl : Nat) (X : Xm) (I : Im) (zx0 : Nat) (zx1 : Int32) (zx2 : Int32) (zt0 : okA E G 8 zx0) {rr : Int32} (hf : m8_readyIn fl G.2.2 X I zx0 zx1 zx2 = some rr) : MT l yX8_readyIn cX8_readyIn 8 (some .int) ({ frames := 2, cells := 0, slots := 0, locals := 44 } : Room) E G I X [.ref zx0, .int zx1, .int zx2] (QI E G rr I X) 0 0 := by
  refine Met.ofW (cc := cX8_readyIn) (maxL := 8) (ret := (some .int)) (by decide +kernel) rfl ?_
  intro p e s m args below meth c s₁ B hml hv
  obtain ⟨rfl, hw0, hSE⟩ := hv
  have C0 : CX p s m ([.ref zx0, .int zx1, .int zx2] : List Value).toArray meth c E cX8_readyIn RX8 8 := ⟨B.exec, B.bytes, hml, findClass_of_methodNamed B.named, fun w hw => atoms_spec (ws := WS yX8_readyIn cX8_readyIn 8 (some .int)) B.pre w (List.mem_cons_of_mem _ hw), B.notSynchronized, hSE⟩
  have hz : s.heap.size + 0 ≤ eB E + G.1 := Nat.le_of_eq hw0.2.1
  have hw : WD E G I X s.heap s.heap [] := ⟨hw0, va_S.rf⟩
  have hr := B.returns
  have hx := C0.1; have hb := C0.2.1; have hml := C0.2.2.1; have hown := C0.2.2.2.1; have hts := C0.2.2.2.2.1
  have hl := lv_entry ([.ref zx0, .int zx1, .int zx2]) (n := 8) (Nat.le_of_ble_eq_true rfl)
  rw [lg_entry_eq]
  generalize (lg_sl ([.ref zx0, .int zx1, .int zx2]) ++ List.replicate (8 - (lg_sl ([.ref zx0, .int zx1, .int zx2])).length) Slot.unset).toArray = ls at hl ⊢
  have hl : lv_has ls 8 [(0, .ref zx0), (1, .int zx1), (2, .int zx2)] := hl
  unfold m8_readyIn at hf
  refine lv_aload_n hx hb dX8_readyIn_0 rfl (lv_at hl 0 rfl) ?_
  obtain ⟨zv1, ezv1, hf⟩ := nn_some hf
  have tzv1 : okA E G 4 zv1 := wt_r hw ezv1
  refine xg_8_0 C0 hw zt0 wd479 ezv1 dX8_readyIn_1 ?_
  refine lv_iload_n hx hb dX8_readyIn_4 rfl (lv_at hl 1 rfl) ?_
  obtain ⟨zv2, ze3, hf⟩ := nn_some hf
  refine x_co (r := zv2) (I1 := I) (X1 := X) (x_runV (As := [.int zx1]) (rest := []) C0 (c4_reelAt l E G fl X I zv1 zx1 tzv1 ze3) hw 4 tzv1 (by decide) rfl wd43 wd537 wd369 wd370 wd356 ⟨rfl, rfl⟩ hy4_reelAt ⟨Nat.le_of_ble_eq_true rfl, Nat.le_of_ble_eq_true rfl⟩ rfl hl.1 (Nat.le_of_ble_eq_true rfl) ⟨Nat.zero_le _, Nat.zero_le _⟩ dX8_readyIn_5) hw (fun H locs hw tzv2 => ?_)
  refine x_astore_n (lv' := [(3, va_rf zv2), (0, .ref zx0), (1, .int zx1), (2, .int zx2)]) C0 dX8_readyIn_8 rfl hl (by decide) rfl (fun ls hl => ?_)
  refine lv_aload_n hx hb dX8_readyIn_9 rfl (lv_at hl 1 rfl) ?_
  refine xg_8_0 C0 hw zt0 wd479 ezv1 dX8_readyIn_10 ?_
  refine lv_iload_n hx hb dX8_readyIn_13 rfl (lv_at hl 2 rfl) ?_
  refine lv_iload_n hx hb dX8_readyIn_14 rfl (lv_at hl 3 rfl) ?_
  obtain ⟨zv4, ze5, hf⟩ := nn_some hf
  refine x_co (r := zv4) (I1 := I) (X1 := X) (x_runV (As := [.int zx1, .int zx2]) (rest := []) C0 (c4_soundAt l E G fl X I zv1 zx1 zx2 tzv1 ze5) hw 4 tzv1 (by decide) rfl wd48 wd544 wd387 wd388 wd356 ⟨rfl, rfl⟩ hy4_soundAt ⟨Nat.le_of_ble_eq_true rfl, Nat.le_of_ble_eq_true rfl⟩ rfl hl.1 (Nat.le_of_ble_eq_true rfl) ⟨Nat.zero_le _, Nat.zero_le _⟩ dX8_readyIn_15) hw (fun H locs hw tzv4 => ?_)
  refine x_astore (lv' := [(4, va_rf zv4), (3, va_rf zv2), (0, .ref zx0), (1, .int zx1), (2, .int zx2)]) C0 dX8_readyIn_18 hl (by decide) (by cases zv2 <;> rfl) (fun ls hl => ?_)
  refine x_aload_n C0 dX8_readyIn_20 rfl (lv_at hl 1 rfl) ?_
  refine x_ifnull (tgt := 29) C0 dX8_readyIn_21 (by decide) (fun zc6 => ?_) (fun zc6 => ?_)
  · have hf := ite_t hf zc6
    exact w8_readyIn_29 C0 hr hz fl _ _ _ hw (lv_sub hl [] rfl) hf
  · have hf := ite_f hf zc6
    refine x_aload C0 dX8_readyIn_24 (lv_at hl 0 rfl) ?_
    refine x_ifnonnull (tgt := 31) C0 dX8_readyIn_26 (by decide) (fun zc7 => ?_) (fun zc7 => ?_)
    · have hf := ite_f hf zc7
      refine lv_iconst (v := (1 : Int32)) hx hb dX8_readyIn_31 (by decide) ?_
      refine lv_aload_n hx hb dX8_readyIn_32 rfl (lv_at hl 2 rfl) ?_
      refine xg_8_0 C0 hw zt0 wd479 ezv1 dX8_readyIn_33 ?_
      obtain ⟨zv8, ezv8, hf⟩ := nn_some hf
      have tzv8 : okA E G 11 zv8 := wt_r hw ezv8
      refine xg_4_0 C0 hw tzv1 wd557 ezv8 dX8_readyIn_36 ?_
      refine lv_iconst (v := (0 : Int32)) hx hb dX8_readyIn_39 (by decide) ?_
      obtain ⟨zhb9, hf⟩ := ck_some hf
      refine x_iald C0 hw tzv8 zhb9 dX8_readyIn_40 ?_
      refine va_mmax hx hb (hml.trans hl.1.symm) hown (hts _ wd193) (hts _ wd194) (hts _ wd191) (hts _ wd195) (Nat.le_of_ble_eq_true rfl) (Nat.le_of_ble_eq_true rfl) (Nat.zero_le _) (Nat.zero_le _) dX8_readyIn_41 ?_
      refine lv_topi (fun zv10 ezv10 => ?_)
      have hf := lt_at hf ezv10
      refine lv_istore (lv' := [(5, .int zv10), (4, va_rf zv4), (3, va_rf zv2), (0, .ref zx0), (1, .int zx1), (2, .int zx2)]) hx hb dX8_readyIn_44 hl (by decide) (by cases zv4 <;> rfl) (fun ls hl => ?_)
      refine x_aload_n C0 dX8_readyIn_46 rfl (lv_at hl 2 rfl) ?_
      obtain ⟨zb11, ezb11, hfzb11⟩ := nn_some hf
      have tzb11 : okA E G 5 zb11 := tzv2 _ ezb11
      subst ezb11
      have hf := hfzb11
      refine xg_5_2 C0 hw tzb11 wd533 dX8_readyIn_47 ?_
      refine lv_aload_n hx hb dX8_readyIn_50 rfl (lv_at hl 2 rfl) ?_
      refine xg_5_4 C0 hw tzb11 wd535 dX8_readyIn_51 ?_
      refine lv_iadd hx hb dX8_readyIn_54 ?_
      refine x_aload C0 dX8_readyIn_55 (lv_at hl 1 rfl) ?_
      obtain ⟨zb12, ezb12, hfzb12⟩ := nn_some hf
      have tzb12 : okA E G 7 zb12 := tzv4 _ ezb12
      subst ezb12
      have hf := hfzb12
      refine xg_7_2 C0 hw tzb12 wd542 dX8_readyIn_57 ?_
      refine lv_isub hx hb dX8_readyIn_60 ?_
      refine va_mabs hx hb (hml.trans hl.1.symm) hown (hts _ wd582) (hts _ wd583) (hts _ wd191) (hts _ wd584) (Nat.le_of_ble_eq_true rfl) (Nat.le_of_ble_eq_true rfl) (Nat.zero_le _) (Nat.zero_le _) dX8_readyIn_61 ?_
      refine lv_topi (fun zv13 ezv13 => ?_)
      have hf := lt_at hf ezv13
      refine lv_istore (lv' := [(6, .int zv13), (5, .int zv10), (4, .ref zb12), (3, .ref zb11), (0, .ref zx0), (1, .int zx1), (2, .int zx2)]) hx hb dX8_readyIn_64 hl (by decide) rfl (fun ls hl => ?_)
      refine lv_iload hx hb dX8_readyIn_66 (lv_at hl 0 rfl) ?_
      refine lv_iload hx hb dX8_readyIn_68 (lv_at hl 1 rfl) ?_
      refine lv_iadd hx hb dX8_readyIn_70 ?_
      refine lv_iconst (v := (1 : Int32)) hx hb dX8_readyIn_71 (by decide) ?_
      refine lv_isub hx hb dX8_readyIn_72 ?_
      refine lv_iload hx hb dX8_readyIn_73 (lv_at hl 1 rfl) ?_
      obtain ⟨zhd14, hf⟩ := ck_some hf
      refine lv_idiv hx hb dX8_readyIn_75 zhd14 ?_
      refine lv_topi (fun zv15 ezv15 => ?_)
      have hf := lt_at hf ezv15
      refine lv_istore (lv' := [(7, .int zv15), (6, .int zv13), (5, .int zv10), (4, .ref zb12), (3, .ref zb11), (0, .ref zx0), (1, .int zx1), (2, .int zx2)]) hx hb dX8_readyIn_76 hl (by decide) rfl (fun ls hl => ?_)
      refine lv_aload_n hx hb dX8_readyIn_78 rfl (lv_at hl 4 rfl) ?_
      refine xg_5_4 C0 hw tzb11 wd535 dX8_readyIn_79 ?_
      refine lv_if_le (tgt := 102) hx hb dX8_readyIn_82 (by decide) (fun zc16 => ?_) (fun zc16 => ?_)
      · have hf := ite_t hf zc16
        exact w8_readyIn_102 C0 hr hz fl _ _ _ zb11 zv15 tzb11 hw (lv_sub hl [4, 0] rfl) hf
      · have hf := ite_f hf zc16
        refine lv_iload hx hb dX8_readyIn_85 (lv_at hl 0 rfl) ?_
        refine lv_if_le (tgt := 102) hx hb dX8_readyIn_87 (by decide) (fun zc17 => ?_) (fun zc17 => ?_)
        · have hf := ite_t hf zc17
          exact w8_readyIn_102 C0 hr hz fl _ _ _ zb11 zv15 tzb11 hw (lv_sub hl [4, 0] rfl) hf
        · have hf := ite_f hf zc17
          refine lv_aload_n hx hb dX8_readyIn_90 rfl (lv_at hl 4 rfl) ?_
          refine xg_5_4 C0 hw tzb11 wd535 dX8_readyIn_91 ?_
          refine lv_iload hx hb dX8_readyIn_94 (lv_at hl 0 rfl) ?_
          refine lv_iadd hx hb dX8_readyIn_96 ?_
          refine lv_iconst (v := (1 : Int32)) hx hb dX8_readyIn_97 (by decide) ?_
          refine lv_isub hx hb dX8_readyIn_98 ?_
          refine lv_goto (tgt := 109) hx hb dX8_readyIn_99 (by decide) ?_
          exact w8_readyIn_109 C0 hr hz fl _ _ _ (((gF I 84 zb11) + zv15) - (1 : Int32)) hw (lv_sub hl [] rfl) hf
    · have hf := ite_t hf zc7
      exact w8_readyIn_29 C0 hr hz fl _ _ _ hw (lv_sub hl [] rfl) hf
noncomputable def m8_put (fl : Nat) (len : Nat → Nat) (X : Xm) (I : Im) (zx0 : Nat) (zx1 : Int64) : Option (Int32 × Im) :=
  nn (m3_countCharacters fl len X I zx1) fun zv1 =>
  if zv1 = 0 then
    some ((-2 : Int32), I)
  else
    nn (gR X 134 zx0) fun zv4 =>
    if ((gF I 49 zv4) + zv1) ≤ (80 : Int32) then
      nn (m3_append fl len X I zv4 zx1 zv1) fun ⟨zv6, zI7⟩ =>
      some (zv6, zI7)
    else
      some ((-4 : Int32), I)
theorem hy8_put : yX8_put.cls = RX8 ∧ yX8_put.cls ≠ "java/lang/invoke/MethodHandle" ∧ yX8_put.cls ≠ "java/lang/invoke/VarHandle" ∧ (parseMethodDescriptor yX8_put.desc).map (fun d => d.parameters.length) = some 1 := ⟨rfl, by decide +kernel, by decide +kernel, by decide +kernel⟩
set_option maxHeartbeats 4000000 in
set_option maxRecDepth 100000 in
theorem c8_put (l : Launch) (E : EN) (G : GM) (fl : Nat) (X : Xm) (I : Im) (zx0 : Nat) (zx1 : Int64) (zt0 : okA E G 8 zx0) {rr : Int32 × Im} (hf : m8_put fl G.2.2 X I zx0 zx1 = some rr) : MT l yX8_put cX8_put 4 (some .int) ({ frames := 1, cells := 0, slots := 0, locals := 26 } : Room) E G I X [.ref zx0, .long zx1] (QI E G rr.1 rr.2 X) 0 0 := by
  refine Met.ofW (cc := cX8_put) (maxL := 4) (ret := (some .int)) (by decide +kernel) rfl ?_
  intro p e s m args below meth c s₁ B hml hv
  obtain ⟨rfl, hw0, hSE⟩ := hv
  have C0 : CX p s m ([.ref zx0, .long zx1] : List Value).toArray meth c E cX8_put RX8 4 := ⟨B.exec, B.bytes, hml, findClass_of_methodNamed B.named, fun w hw => atoms_spec (ws := WS yX8_put cX8_put 4 (some .int)) B.pre w (List.mem_cons_of_mem _ hw), B.notSynchronized, hSE⟩
  have hz : s.heap.size + 0 ≤ eB E + G.1 := Nat.le_of_eq hw0.2.1
  have hw : WD E G I X s.heap s.heap [] := ⟨hw0, va_S.rf⟩
  have hr := B.returns
  have hx := C0.1; have hb := C0.2.1; have hml := C0.2.2.1; have hown := C0.2.2.2.1; have hts := C0.2.2.2.2.1
  have hl := lv_entry ([.ref zx0, .long zx1]) (n := 4) (Nat.le_of_ble_eq_true rfl)
  rw [lg_entry_eq]
  generalize (lg_sl ([.ref zx0, .long zx1]) ++ List.replicate (4 - (lg_sl ([.ref zx0, .long zx1])).length) Slot.unset).toArray = ls at hl ⊢
  have hl : lv_has ls 4 [(0, .ref zx0), (1, .long zx1)] := hl
  unfold m8_put at hf
  refine lv_lload_n hx hb dX8_put_0 rfl (lv_at hl 1 rfl) ?_
  obtain ⟨zv1, ze2, hf⟩ := nn_some hf
  refine x_ci (r := zv1) (I1 := I) (X1 := X) (x_runSX (As := [.long zx1]) (rest := []) C0 (c3_countCharacters l E G fl X I zx1 ze2) hw wd11 wd585 wd586 wd255 ⟨rfl, rfl⟩ hy3_countCharacters.2 ⟨Nat.le_of_ble_eq_true rfl, Nat.le_of_ble_eq_true rfl⟩ rfl hl.1 (Nat.le_of_ble_eq_true rfl) ⟨Nat.zero_le _, Nat.zero_le _⟩ dX8_put_1) hw (fun H locs hw => ?_)
  refine lv_istore_n (lv' := [(3, .int zv1), (0, .ref zx0), (1, .long zx1)]) hx hb dX8_put_4 rfl hl (by decide) rfl (fun ls hl => ?_)
  refine lv_iload_n hx hb dX8_put_5 rfl (lv_at hl 0 rfl) ?_
  refine lv_if_ne (tgt := 12) hx hb dX8_put_6 (by decide) (fun zc3 => ?_) (fun zc3 => ?_)
  · have hf := ite_f hf zc3
    refine lv_aload_n hx hb dX8_put_12 rfl (lv_at hl 1 rfl) ?_
    obtain ⟨zv4, ezv4, hf⟩ := nn_some hf
    have tzv4 : okA E G 3 zv4 := wt_r hw ezv4
    refine xg_8_6 C0 hw zt0 wd487 ezv4 dX8_put_13 ?_
    refine xg_3_1 C0 hw tzv4 wd558 dX8_put_16 ?_
    refine lv_iload_n hx hb dX8_put_19 rfl (lv_at hl 0 rfl) ?_
    refine lv_iadd hx hb dX8_put_20 ?_
    refine lv_bipush (v := (80 : Int32)) hx hb dX8_put_21 (by decide) ?_
    refine lv_icmp_le (tgt := 29) hx hb dX8_put_23 (by decide) (fun zc5 => ?_) (fun zc5 => ?_)
    · have hf := ite_t hf zc5
      refine lv_aload_n hx hb dX8_put_29 rfl (lv_at hl 1 rfl) ?_
      refine xg_8_6 C0 hw zt0 wd487 ezv4 dX8_put_30 ?_
      refine lv_lload_n hx hb dX8_put_33 rfl (lv_at hl 2 rfl) ?_
      refine lv_iload_n hx hb dX8_put_34 rfl (lv_at hl 0 rfl) ?_
      obtain ⟨⟨zv6, zI7⟩, ze8, hf⟩ := nn_some hf
      refine x_ci (r := zv6) (I1 := zI7) (X1 := X) (x_runV (As := [.long zx1, .int zv1]) (rest := []) C0 (c3_append l E G fl X I zv4 zx1 zv1 tzv4 ze8) hw 3 tzv4 (by decide) rfl wd12 wd587 wd588 wd589 wd255 ⟨rfl, rfl⟩ hy3_append ⟨Nat.le_of_ble_eq_true rfl, Nat.le_of_ble_eq_true rfl⟩ rfl hl.1 (Nat.le_of_ble_eq_true rfl) ⟨Nat.zero_le _, Nat.zero_le _⟩ dX8_put_35) hw (fun H locs hw => ?_)
      obtain rfl := Option.some.inj hf
      exact x_iret C0 hr hw dX8_put_38
    · have hf := ite_f hf zc5
      refine lv_bipush (v := (-4 : Int32)) hx hb dX8_put_26 (by decide) ?_
      obtain rfl := Option.some.inj hf
      exact x_iret C0 hr hw dX8_put_28
  · have hf := ite_t hf zc3
    refine lv_bipush (v := (-2 : Int32)) hx hb dX8_put_9 (by decide) ?_
    obtain rfl := Option.some.inj hf
    exact x_iret C0 hr hw dX8_put_11
noncomputable def m8_wipe (fl : Nat) (len : Nat → Nat) (X : Xm) (I : Im) (zx0 : Nat) : Option (Int32 × Im) :=
  nn (gR X 134 zx0) fun zv1 =>
  lt ((gF I 49 zv1)) fun zv2 =>
  lt (pF I 49 zv1 (0 : Int32)) fun zI3 =>
  some (zv2, zI3)
theorem hy8_wipe : yX8_wipe.cls = RX8 ∧ yX8_wipe.cls ≠ "java/lang/invoke/MethodHandle" ∧ yX8_wipe.cls ≠ "java/lang/invoke/VarHandle" ∧ (parseMethodDescriptor yX8_wipe.desc).map (fun d => d.parameters.length) = some 0 := ⟨rfl, by decide +kernel, by decide +kernel, by decide +kernel⟩
set_option maxHeartbeats 4000000 in
set_option maxRecDepth 100000 in
theorem c8_wipe (l : Launch) (E : EN) (G : GM) (fl : Nat) (X : Xm) (I : Im) (zx0 : Nat) (zt0 : okA E G 8 zx0) {rr : Int32 × Im} (hf : m8_wipe fl G.2.2 X I zx0 = some rr) : MT l yX8_wipe cX8_wipe 2 (some .int) ({ frames := 0, cells := 0, slots := 0, locals := 0 } : Room) E G I X [.ref zx0] (QI E G rr.1 rr.2 X) 0 0 := by
  refine Met.ofW (cc := cX8_wipe) (maxL := 2) (ret := (some .int)) (by decide +kernel) rfl ?_
  intro p e s m args below meth c s₁ B hml hv
  obtain ⟨rfl, hw0, hSE⟩ := hv
  have C0 : CX p s m ([.ref zx0] : List Value).toArray meth c E cX8_wipe RX8 2 := ⟨B.exec, B.bytes, hml, findClass_of_methodNamed B.named, fun w hw => atoms_spec (ws := WS yX8_wipe cX8_wipe 2 (some .int)) B.pre w (List.mem_cons_of_mem _ hw), B.notSynchronized, hSE⟩
  have hz : s.heap.size + 0 ≤ eB E + G.1 := Nat.le_of_eq hw0.2.1
  have hw : WD E G I X s.heap s.heap [] := ⟨hw0, va_S.rf⟩
  have hr := B.returns
  have hx := C0.1; have hb := C0.2.1; have hml := C0.2.2.1; have hown := C0.2.2.2.1; have hts := C0.2.2.2.2.1
  have hl := lv_entry ([.ref zx0]) (n := 2) (Nat.le_of_ble_eq_true rfl)
  rw [lg_entry_eq]
  generalize (lg_sl ([.ref zx0]) ++ List.replicate (2 - (lg_sl ([.ref zx0])).length) Slot.unset).toArray = ls at hl ⊢
  have hl : lv_has ls 2 [(0, .ref zx0)] := hl
  unfold m8_wipe at hf
  refine lv_aload_n hx hb dX8_wipe_0 rfl (lv_at hl 0 rfl) ?_
  obtain ⟨zv1, ezv1, hf⟩ := nn_some hf
  have tzv1 : okA E G 3 zv1 := wt_r hw ezv1
  refine xg_8_6 C0 hw zt0 wd487 ezv1 dX8_wipe_1 ?_
  refine xg_3_1 C0 hw tzv1 wd558 dX8_wipe_4 ?_
  refine lv_topi (fun zv2 ezv2 => ?_)
  have hf := lt_at hf ezv2
  refine lv_istore_n (lv' := [(1, .int zv2), (0, .ref zx0)]) hx hb dX8_wipe_7 rfl hl (by decide) rfl (fun ls hl => ?_)
  refine lv_aload_n hx hb dX8_wipe_8 rfl (lv_at hl 1 rfl) ?_
  refine xg_8_6 C0 hw zt0 wd487 ezv1 dX8_wipe_9 ?_
  refine lv_iconst (v := (0 : Int32)) hx hb dX8_wipe_12 (by decide) ?_
  obtain ⟨zI3, ezI3⟩ : ∃ y : Im, y = pF I 49 zv1 (0 : Int32) := ⟨_, rfl⟩
  have hf := lt_at hf ezI3
  refine xp_3_1 C0 hz hw tzv1 rfl rfl wd558 dX8_wipe_13 ezI3 (fun H locs hw => ?_)
  refine lv_iload_n hx hb dX8_wipe_16 rfl (lv_at hl 0 rfl) ?_
  obtain rfl := Option.some.inj hf
  exact x_iret C0 hr hw dX8_wipe_17
noncomputable def m8_answerOfOrder (fl : Nat) (len : Nat → Nat) (X : Xm) (I : Im) (zx0 : Nat) : Option (Int32 × Im × Xm) :=
  nn (gR X 134 zx0) fun zv1 =>
  nn (gR X 52 zv1) fun zv2 =>
  if (gF I 51 zv1) = (114 : Int32) then
    nn (gR X 128 zx0) fun zv36 =>
    ck (inb (0 : Int32) (len zv2) = true) <|
    ck (inb (1 : Int32) (len zv2) = true) <|
    ck (inb (2 : Int32) (len zv2) = true) <|
    nn (m4_addSound fl len X I zv36 (gA I zv2 ((0 : Int32)).toNatClampNeg) (gA I zv2 ((1 : Int32)).toNatClampNeg) (gA I zv2 ((2 : Int32)).toNatClampNeg)) fun ⟨zv40, zI41⟩ =>
    some (zv40, zI41, X)
  else
    if (gF I 51 zv1) = (115 : Int32) then
      nn (gR X 128 zx0) fun zv28 =>
      ck (inb (0 : Int32) (len zv2) = true) <|
      ck (inb (1 : Int32) (len zv2) = true) <|
      ck (inb (2 : Int32) (len zv2) = true) <|
      nn (m4_addCue fl len X I zv28 (gA I zv2 ((0 : Int32)).toNatClampNeg) (0 : Int32) (gA I zv2 ((1 : Int32)).toNatClampNeg) (gA I zv2 ((2 : Int32)).toNatClampNeg)) fun ⟨zv32, zI33, zX34⟩ =>
      some (zv32, zI33, zX34)
    else
      if (gF I 51 zv1) = (100 : Int32) then
        nn (gR X 128 zx0) fun zv20 =>
        ck (inb (0 : Int32) (len zv2) = true) <|
        ck (inb (1 : Int32) (len zv2) = true) <|
        ck (inb (2 : Int32) (len zv2) = true) <|
        nn (m4_addCue fl len X I zv20 (gA I zv2 ((0 : Int32)).toNatClampNeg) (1 : Int32) (gA I zv2 ((1 : Int32)).toNatClampNeg) (gA I zv2 ((2 : Int32)).toNatClampNeg)) fun ⟨zv24, zI25, zX26⟩ =>
        some (zv24, zI25, zX26)
      else
        if (gF I 51 zv1) = (108 : Int32) then
          nn (gR X 128 zx0) fun zv12 =>
          ck (inb (0 : Int32) (len zv2) = true) <|
          ck (inb (1 : Int32) (len zv2) = true) <|
          ck (inb (2 : Int32) (len zv2) = true) <|
          nn (m4_addCue fl len X I zv12 (gA I zv2 ((0 : Int32)).toNatClampNeg) (2 : Int32) (gA I zv2 ((1 : Int32)).toNatClampNeg) (gA I zv2 ((2 : Int32)).toNatClampNeg)) fun ⟨zv16, zI17, zX18⟩ =>
          some (zv16, zI17, zX18)
        else
          nn (gR X 128 zx0) fun zv7 =>
          ck (inb (0 : Int32) (len zv2) = true) <|
          nn (m4_runSeconds fl len X I zv7 (gA I zv2 ((0 : Int32)).toNatClampNeg)) fun ⟨zv9, zI10⟩ =>
          some (zv9, zI10, X)
theorem hy8_answerOfOrder : yX8_answerOfOrder.cls = RX8 ∧ yX8_answerOfOrder.cls ≠ "java/lang/invoke/MethodHandle" ∧ yX8_answerOfOrder.cls ≠ "java/lang/invoke/VarHandle" ∧ (parseMethodDescriptor yX8_answerOfOrder.desc).map (fun d => d.parameters.length) = some 0 := ⟨rfl, by decide +kernel, by decide +kernel, by decide +kernel⟩
set_option maxHeartbeats 4000000 in
set_option maxRecDepth 100000 in
theorem c8_answerOfOrder (l : Launch) (E : EN) (G : GM) (fl : Nat) (X : Xm) (I : Im) (zx0 : Nat) (zt0 : okA E G 8 zx0) {rr : Int32 × Im × Xm} (hf : m8_answerOfOrder fl G.2.2 X I zx0 = some rr) : MT l yX8_answerOfOrder cX8_answerOfOrder 2 (some .int) ({ frames := 5, cells := 0, slots := 0, locals := 113 } : Room) E G I X [.ref zx0] (QI E G rr.1 rr.2.1 rr.2.2) 0 0 := by
  refine Met.ofW (cc := cX8_answerOfOrder) (maxL := 2) (ret := (some .int)) (by decide +kernel) rfl ?_
  intro p e s m args below meth c s₁ B hml hv
  obtain ⟨rfl, hw0, hSE⟩ := hv
  have C0 : CX p s m ([.ref zx0] : List Value).toArray meth c E cX8_answerOfOrder RX8 2 := ⟨B.exec, B.bytes, hml, findClass_of_methodNamed B.named, fun w hw => atoms_spec (ws := WS yX8_answerOfOrder cX8_answerOfOrder 2 (some .int)) B.pre w (List.mem_cons_of_mem _ hw), B.notSynchronized, hSE⟩
  have hz : s.heap.size + 0 ≤ eB E + G.1 := Nat.le_of_eq hw0.2.1
  have hw : WD E G I X s.heap s.heap [] := ⟨hw0, va_S.rf⟩
  have hr := B.returns
  have hx := C0.1; have hb := C0.2.1; have hml := C0.2.2.1; have hown := C0.2.2.2.1; have hts := C0.2.2.2.2.1
  have hl := lv_entry ([.ref zx0]) (n := 2) (Nat.le_of_ble_eq_true rfl)
  rw [lg_entry_eq]
  generalize (lg_sl ([.ref zx0]) ++ List.replicate (2 - (lg_sl ([.ref zx0])).length) Slot.unset).toArray = ls at hl ⊢
  have hl : lv_has ls 2 [(0, .ref zx0)] := hl
  unfold m8_answerOfOrder at hf
  refine lv_aload_n hx hb dX8_answerOfOrder_0 rfl (lv_at hl 0 rfl) ?_
  obtain ⟨zv1, ezv1, hf⟩ := nn_some hf
  have tzv1 : okA E G 3 zv1 := wt_r hw ezv1
  refine xg_8_6 C0 hw zt0 wd487 ezv1 dX8_answerOfOrder_1 ?_
  obtain ⟨zv2, ezv2, hf⟩ := nn_some hf
  have tzv2 : okA E G 11 zv2 := wt_r hw ezv2
  refine xg_3_4 C0 hw tzv1 wd593 ezv2 dX8_answerOfOrder_4 ?_
  refine lv_astore_n (lv' := [(1, .ref zv2), (0, .ref zx0)]) hx hb dX8_answerOfOrder_7 rfl hl (by decide) rfl (fun ls hl => ?_)
  refine lv_aload_n hx hb dX8_answerOfOrder_8 rfl (lv_at hl 1 rfl) ?_
  refine xg_8_6 C0 hw zt0 wd487 ezv1 dX8_answerOfOrder_9 ?_
  refine xg_3_3 C0 hw tzv1 wd594 dX8_answerOfOrder_12 ?_
  refine lv_bipush (v := (114 : Int32)) hx hb dX8_answerOfOrder_15 (by decide) ?_
  refine lv_icmp_ne (tgt := 37) hx hb dX8_answerOfOrder_17 (by decide) (fun zc3 => ?_) (fun zc3 => ?_)
  · have hf := ite_f hf zc3
    refine lv_aload_n hx hb dX8_answerOfOrder_37 rfl (lv_at hl 1 rfl) ?_
    refine xg_8_6 C0 hw zt0 wd487 ezv1 dX8_answerOfOrder_38 ?_
    refine xg_3_3 C0 hw tzv1 wd594 dX8_answerOfOrder_41 ?_
    refine lv_bipush (v := (115 : Int32)) hx hb dX8_answerOfOrder_44 (by decide) ?_
    refine lv_icmp_ne (tgt := 67) hx hb dX8_answerOfOrder_46 (by decide) (fun zc4 => ?_) (fun zc4 => ?_)
    · have hf := ite_f hf zc4
      refine lv_aload_n hx hb dX8_answerOfOrder_67 rfl (lv_at hl 1 rfl) ?_
      refine xg_8_6 C0 hw zt0 wd487 ezv1 dX8_answerOfOrder_68 ?_
      refine xg_3_3 C0 hw tzv1 wd594 dX8_answerOfOrder_71 ?_
      refine lv_bipush (v := (100 : Int32)) hx hb dX8_answerOfOrder_74 (by decide) ?_
      refine lv_icmp_ne (tgt := 97) hx hb dX8_answerOfOrder_76 (by decide) (fun zc5 => ?_) (fun zc5 => ?_)
      · have hf := ite_f hf zc5
        refine lv_aload_n hx hb dX8_answerOfOrder_97 rfl (lv_at hl 1 rfl) ?_
        refine xg_8_6 C0 hw zt0 wd487 ezv1 dX8_answerOfOrder_98 ?_
        refine xg_3_3 C0 hw tzv1 wd594 dX8_answerOfOrder_101 ?_
        refine lv_bipush (v := (108 : Int32)) hx hb dX8_answerOfOrder_104 (by decide) ?_
        refine lv_icmp_ne (tgt := 127) hx hb dX8_answerOfOrder_106 (by decide) (fun zc6 => ?_) (fun zc6 => ?_)
        · have hf := ite_f hf zc6
          refine lv_aload_n hx hb dX8_answerOfOrder_127 rfl (lv_at hl 1 rfl) ?_
          obtain ⟨zv7, ezv7, hf⟩ := nn_some hf
          have tzv7 : okA E G 4 zv7 := wt_r hw ezv7
          refine xg_8_0 C0 hw zt0 wd479 ezv7 dX8_answerOfOrder_128 ?_
          refine lv_aload_n hx hb dX8_answerOfOrder_131 rfl (lv_at hl 0 rfl) ?_
          refine lv_iconst (v := (0 : Int32)) hx hb dX8_answerOfOrder_132 (by decide) ?_
          obtain ⟨zhb8, hf⟩ := ck_some hf
          refine x_iald C0 hw tzv2 zhb8 dX8_answerOfOrder_133 ?_
          obtain ⟨⟨zv9, zI10⟩, ze11, hf⟩ := nn_some hf
          refine x_ci (r := zv9) (I1 := zI10) (X1 := X) (x_runV (As := [.int (gA I zv2 ((0 : Int32)).toNatClampNeg)]) (rest := []) C0 (c4_runSeconds l E G fl X I zv7 (gA I zv2 ((0 : Int32)).toNatClampNeg) tzv7 ze11) hw 4 tzv7 (by decide) rfl wd71 wd524 wd525 wd526 wd356 ⟨rfl, rfl⟩ hy4_runSeconds ⟨Nat.le_of_ble_eq_true rfl, Nat.le_of_ble_eq_true rfl⟩ rfl hl.1 (Nat.le_of_ble_eq_true rfl) ⟨Nat.zero_le _, Nat.zero_le _⟩ dX8_answerOfOrder_134) hw (fun H locs hw => ?_)
          obtain rfl := Option.some.inj hf
          exact x_iret C0 hr hw dX8_answerOfOrder_137
        · have hf := ite_t hf zc6
          refine lv_aload_n hx hb dX8_answerOfOrder_109 rfl (lv_at hl 1 rfl) ?_
          obtain ⟨zv12, ezv12, hf⟩ := nn_some hf
          have tzv12 : okA E G 4 zv12 := wt_r hw ezv12
          refine xg_8_0 C0 hw zt0 wd479 ezv12 dX8_answerOfOrder_110 ?_
          refine lv_aload_n hx hb dX8_answerOfOrder_113 rfl (lv_at hl 0 rfl) ?_
          refine lv_iconst (v := (0 : Int32)) hx hb dX8_answerOfOrder_114 (by decide) ?_
          obtain ⟨zhb13, hf⟩ := ck_some hf
          refine x_iald C0 hw tzv2 zhb13 dX8_answerOfOrder_115 ?_
          refine lv_iconst (v := (2 : Int32)) hx hb dX8_answerOfOrder_116 (by decide) ?_
          refine lv_aload_n hx hb dX8_answerOfOrder_117 rfl (lv_at hl 0 rfl) ?_
          refine lv_iconst (v := (1 : Int32)) hx hb dX8_answerOfOrder_118 (by decide) ?_
          obtain ⟨zhb14, hf⟩ := ck_some hf
          refine x_iald C0 hw tzv2 zhb14 dX8_answerOfOrder_119 ?_
          refine lv_aload_n hx hb dX8_answerOfOrder_120 rfl (lv_at hl 0 rfl) ?_
          refine lv_iconst (v := (2 : Int32)) hx hb dX8_answerOfOrder_121 (by decide) ?_
          obtain ⟨zhb15, hf⟩ := ck_some hf
          refine x_iald C0 hw tzv2 zhb15 dX8_answerOfOrder_122 ?_
          obtain ⟨⟨zv16, zI17, zX18⟩, ze19, hf⟩ := nn_some hf
          refine x_ci (r := zv16) (I1 := zI17) (X1 := zX18) (x_runV (As := [.int (gA I zv2 ((0 : Int32)).toNatClampNeg), .int (2 : Int32), .int (gA I zv2 ((1 : Int32)).toNatClampNeg), .int (gA I zv2 ((2 : Int32)).toNatClampNeg)]) (rest := []) C0 (c4_addCue l E G fl X I zv12 (gA I zv2 ((0 : Int32)).toNatClampNeg) (2 : Int32) (gA I zv2 ((1 : Int32)).toNatClampNeg) (gA I zv2 ((2 : Int32)).toNatClampNeg) tzv12 ze19) hw 4 tzv12 (by decide) rfl wd52 wd510 wd511 wd512 wd356 ⟨rfl, rfl⟩ hy4_addCue ⟨Nat.le_of_ble_eq_true rfl, Nat.le_of_ble_eq_true rfl⟩ rfl hl.1 (Nat.le_of_ble_eq_true rfl) ⟨Nat.zero_le _, Nat.zero_le _⟩ dX8_answerOfOrder_123) hw (fun H locs hw => ?_)
          obtain rfl := Option.some.inj hf
          exact x_iret C0 hr hw dX8_answerOfOrder_126
      · have hf := ite_t hf zc5
        refine lv_aload_n hx hb dX8_answerOfOrder_79 rfl (lv_at hl 1 rfl) ?_
        obtain ⟨zv20, ezv20, hf⟩ := nn_some hf
        have tzv20 : okA E G 4 zv20 := wt_r hw ezv20
        refine xg_8_0 C0 hw zt0 wd479 ezv20 dX8_answerOfOrder_80 ?_
        refine lv_aload_n hx hb dX8_answerOfOrder_83 rfl (lv_at hl 0 rfl) ?_
        refine lv_iconst (v := (0 : Int32)) hx hb dX8_answerOfOrder_84 (by decide) ?_
        obtain ⟨zhb21, hf⟩ := ck_some hf
        refine x_iald C0 hw tzv2 zhb21 dX8_answerOfOrder_85 ?_
        refine lv_iconst (v := (1 : Int32)) hx hb dX8_answerOfOrder_86 (by decide) ?_
        refine lv_aload_n hx hb dX8_answerOfOrder_87 rfl (lv_at hl 0 rfl) ?_
        refine lv_iconst (v := (1 : Int32)) hx hb dX8_answerOfOrder_88 (by decide) ?_
        obtain ⟨zhb22, hf⟩ := ck_some hf
        refine x_iald C0 hw tzv2 zhb22 dX8_answerOfOrder_89 ?_
        refine lv_aload_n hx hb dX8_answerOfOrder_90 rfl (lv_at hl 0 rfl) ?_
        refine lv_iconst (v := (2 : Int32)) hx hb dX8_answerOfOrder_91 (by decide) ?_
        obtain ⟨zhb23, hf⟩ := ck_some hf
        refine x_iald C0 hw tzv2 zhb23 dX8_answerOfOrder_92 ?_
        obtain ⟨⟨zv24, zI25, zX26⟩, ze27, hf⟩ := nn_some hf
        refine x_ci (r := zv24) (I1 := zI25) (X1 := zX26) (x_runV (As := [.int (gA I zv2 ((0 : Int32)).toNatClampNeg), .int (1 : Int32), .int (gA I zv2 ((1 : Int32)).toNatClampNeg), .int (gA I zv2 ((2 : Int32)).toNatClampNeg)]) (rest := []) C0 (c4_addCue l E G fl X I zv20 (gA I zv2 ((0 : Int32)).toNatClampNeg) (1 : Int32) (gA I zv2 ((1 : Int32)).toNatClampNeg) (gA I zv2 ((2 : Int32)).toNatClampNeg) tzv20 ze27) hw 4 tzv20 (by decide) rfl wd52 wd510 wd511 wd512 wd356 ⟨rfl, rfl⟩ hy4_addCue ⟨Nat.le_of_ble_eq_true rfl, Nat.le_of_ble_eq_true rfl⟩ rfl hl.1 (Nat.le_of_ble_eq_true rfl) ⟨Nat.zero_le _, Nat.zero_le _⟩ dX8_answerOfOrder_93) hw (fun H locs hw => ?_)
        obtain rfl := Option.some.inj hf
        exact x_iret C0 hr hw dX8_answerOfOrder_96
    · have hf := ite_t hf zc4
      refine lv_aload_n hx hb dX8_answerOfOrder_49 rfl (lv_at hl 1 rfl) ?_
      obtain ⟨zv28, ezv28, hf⟩ := nn_some hf
      have tzv28 : okA E G 4 zv28 := wt_r hw ezv28
      refine xg_8_0 C0 hw zt0 wd479 ezv28 dX8_answerOfOrder_50 ?_
      refine lv_aload_n hx hb dX8_answerOfOrder_53 rfl (lv_at hl 0 rfl) ?_
      refine lv_iconst (v := (0 : Int32)) hx hb dX8_answerOfOrder_54 (by decide) ?_
      obtain ⟨zhb29, hf⟩ := ck_some hf
      refine x_iald C0 hw tzv2 zhb29 dX8_answerOfOrder_55 ?_
      refine lv_iconst (v := (0 : Int32)) hx hb dX8_answerOfOrder_56 (by decide) ?_
      refine lv_aload_n hx hb dX8_answerOfOrder_57 rfl (lv_at hl 0 rfl) ?_
      refine lv_iconst (v := (1 : Int32)) hx hb dX8_answerOfOrder_58 (by decide) ?_
      obtain ⟨zhb30, hf⟩ := ck_some hf
      refine x_iald C0 hw tzv2 zhb30 dX8_answerOfOrder_59 ?_
      refine lv_aload_n hx hb dX8_answerOfOrder_60 rfl (lv_at hl 0 rfl) ?_
      refine lv_iconst (v := (2 : Int32)) hx hb dX8_answerOfOrder_61 (by decide) ?_
      obtain ⟨zhb31, hf⟩ := ck_some hf
      refine x_iald C0 hw tzv2 zhb31 dX8_answerOfOrder_62 ?_
      obtain ⟨⟨zv32, zI33, zX34⟩, ze35, hf⟩ := nn_some hf
      refine x_ci (r := zv32) (I1 := zI33) (X1 := zX34) (x_runV (As := [.int (gA I zv2 ((0 : Int32)).toNatClampNeg), .int (0 : Int32), .int (gA I zv2 ((1 : Int32)).toNatClampNeg), .int (gA I zv2 ((2 : Int32)).toNatClampNeg)]) (rest := []) C0 (c4_addCue l E G fl X I zv28 (gA I zv2 ((0 : Int32)).toNatClampNeg) (0 : Int32) (gA I zv2 ((1 : Int32)).toNatClampNeg) (gA I zv2 ((2 : Int32)).toNatClampNeg) tzv28 ze35) hw 4 tzv28 (by decide) rfl wd52 wd510 wd511 wd512 wd356 ⟨rfl, rfl⟩ hy4_addCue ⟨Nat.le_of_ble_eq_true rfl, Nat.le_of_ble_eq_true rfl⟩ rfl hl.1 (Nat.le_of_ble_eq_true rfl) ⟨Nat.zero_le _, Nat.zero_le _⟩ dX8_answerOfOrder_63) hw (fun H locs hw => ?_)
      obtain rfl := Option.some.inj hf
      exact x_iret C0 hr hw dX8_answerOfOrder_66
  · have hf := ite_t hf zc3
    refine lv_aload_n hx hb dX8_answerOfOrder_20 rfl (lv_at hl 1 rfl) ?_
    obtain ⟨zv36, ezv36, hf⟩ := nn_some hf
    have tzv36 : okA E G 4 zv36 := wt_r hw ezv36
    refine xg_8_0 C0 hw zt0 wd479 ezv36 dX8_answerOfOrder_21 ?_
    refine lv_aload_n hx hb dX8_answerOfOrder_24 rfl (lv_at hl 0 rfl) ?_
    refine lv_iconst (v := (0 : Int32)) hx hb dX8_answerOfOrder_25 (by decide) ?_
    obtain ⟨zhb37, hf⟩ := ck_some hf
    refine x_iald C0 hw tzv2 zhb37 dX8_answerOfOrder_26 ?_
    refine lv_aload_n hx hb dX8_answerOfOrder_27 rfl (lv_at hl 0 rfl) ?_
    refine lv_iconst (v := (1 : Int32)) hx hb dX8_answerOfOrder_28 (by decide) ?_
    obtain ⟨zhb38, hf⟩ := ck_some hf
    refine x_iald C0 hw tzv2 zhb38 dX8_answerOfOrder_29 ?_
    refine lv_aload_n hx hb dX8_answerOfOrder_30 rfl (lv_at hl 0 rfl) ?_
    refine lv_iconst (v := (2 : Int32)) hx hb dX8_answerOfOrder_31 (by decide) ?_
    obtain ⟨zhb39, hf⟩ := ck_some hf
    refine x_iald C0 hw tzv2 zhb39 dX8_answerOfOrder_32 ?_
    obtain ⟨⟨zv40, zI41⟩, ze42, hf⟩ := nn_some hf
    refine x_ci (r := zv40) (I1 := zI41) (X1 := X) (x_runV (As := [.int (gA I zv2 ((0 : Int32)).toNatClampNeg), .int (gA I zv2 ((1 : Int32)).toNatClampNeg), .int (gA I zv2 ((2 : Int32)).toNatClampNeg)]) (rest := []) C0 (c4_addSound l E G fl X I zv36 (gA I zv2 ((0 : Int32)).toNatClampNeg) (gA I zv2 ((1 : Int32)).toNatClampNeg) (gA I zv2 ((2 : Int32)).toNatClampNeg) tzv36 ze42) hw 4 tzv36 (by decide) rfl wd47 wd507 wd508 wd509 wd356 ⟨rfl, rfl⟩ hy4_addSound ⟨Nat.le_of_ble_eq_true rfl, Nat.le_of_ble_eq_true rfl⟩ rfl hl.1 (Nat.le_of_ble_eq_true rfl) ⟨Nat.zero_le _, Nat.zero_le _⟩ dX8_answerOfOrder_33) hw (fun H locs hw => ?_)
    obtain rfl := Option.some.inj hf
    exact x_iret C0 hr hw dX8_answerOfOrder_36
noncomputable def m8_undo_19 (fl : Nat) (len : Nat → Nat) (I : Im) (X : Xm) : Option (Int32 × Im × Xm) :=
  some ((-5 : Int32), I, X)
set_option maxHeartbeats 4000000 in
set_option maxRecDepth 100000 in
theorem w8_undo_19 {p : Program} {l : Launch} {e : Env} {s : State} {m : MethodId} {args : Array Value} {below : List Frame} {meth : Method} {c : Code} {E : EN} {G : GM} (C0 : CX p s m args meth c E cX8_undo RX8 2) (hr : meth.sig.returnType = (some .int)) (hz : s.heap.size + 0 ≤ eB E + G.1) {rr : Int32 × Im × Xm} (fl : Nat) : ∀ (I : Im) (X : Xm) (H : Heap) (locs : List Loc) (ls : Array Slot) , WD E G I X s.heap H locs → lv_has ls 2 [] → m8_undo_19 fl G.2.2 I X = some rr → W p l e ({ frames := 0, cells := 0, slots := 0, locals := 0 } : Room) s m args below meth c H locs 0 0 (MQ below (QI E G rr.1 rr.2.1 rr.2.2) args s 0 0 (eA E)) (F0 m 19 ls []) := by
  intro I X H locs ls hw hl hf
  unfold m8_undo_19 at hf
  have hx := C0.1; have hb := C0.2.1; have hml := C0.2.2.1; have hown := C0.2.2.2.1; have hts := C0.2.2.2.2.1
  refine lv_bipush (v := (-5 : Int32)) hx hb dX8_undo_19 (by decide) ?_
  obtain rfl := Option.some.inj hf
  exact x_iret C0 hr hw dX8_undo_21
noncomputable def m8_undo (fl : Nat) (len : Nat → Nat) (X : Xm) (I : Im) (zx0 : Nat) : Option (Int32 × Im × Xm) :=
  if (gF I 131 zx0) ≤ 0 then
    m8_undo_19 fl len I X
  else
    nn (gR X 130 zx0) fun zv2 =>
    if (gF I 131 zx0) ≤ (nI (len zv2)) then
      lt (pF I 131 zx0 ((gF I 131 zx0) - (1 : Int32))) fun zI4 =>
      nn (gR X 128 zx0) fun zv5 =>
      ck (inb (gF zI4 131 zx0) (len zv2) = true) <|
      nn (gQ X zv2 ((gF zI4 131 zx0)).toNatClampNeg) fun zv7 =>
      lt (pR X 128 zx0 (some zv7)) fun zX8 =>
      nn (gR zX8 130 zx0) fun zv9 =>
      ck (inb (gF zI4 131 zx0) (len zv9) = true) <|
      lt (pQ zX8 zv9 ((gF zI4 131 zx0)).toNatClampNeg (some zv5)) fun zX11 =>
      some ((gF zI4 131 zx0), zI4, zX11)
    else
      m8_undo_19 fl len I X
theorem hy8_undo : yX8_undo.cls = RX8 ∧ yX8_undo.cls ≠ "java/lang/invoke/MethodHandle" ∧ yX8_undo.cls ≠ "java/lang/invoke/VarHandle" ∧ (parseMethodDescriptor yX8_undo.desc).map (fun d => d.parameters.length) = some 0 := ⟨rfl, by decide +kernel, by decide +kernel, by decide +kernel⟩
set_option maxHeartbeats 4000000 in
set_option maxRecDepth 100000 in
theorem c8_undo (l : Launch) (E : EN) (G : GM) (fl : Nat) (X : Xm) (I : Im) (zx0 : Nat) (zt0 : okA E G 8 zx0) {rr : Int32 × Im × Xm} (hf : m8_undo fl G.2.2 X I zx0 = some rr) : MT l yX8_undo cX8_undo 2 (some .int) ({ frames := 0, cells := 0, slots := 0, locals := 0 } : Room) E G I X [.ref zx0] (QI E G rr.1 rr.2.1 rr.2.2) 0 0 := by
  refine Met.ofW (cc := cX8_undo) (maxL := 2) (ret := (some .int)) (by decide +kernel) rfl ?_
  intro p e s m args below meth c s₁ B hml hv
  obtain ⟨rfl, hw0, hSE⟩ := hv
  have C0 : CX p s m ([.ref zx0] : List Value).toArray meth c E cX8_undo RX8 2 := ⟨B.exec, B.bytes, hml, findClass_of_methodNamed B.named, fun w hw => atoms_spec (ws := WS yX8_undo cX8_undo 2 (some .int)) B.pre w (List.mem_cons_of_mem _ hw), B.notSynchronized, hSE⟩
  have hz : s.heap.size + 0 ≤ eB E + G.1 := Nat.le_of_eq hw0.2.1
  have hw : WD E G I X s.heap s.heap [] := ⟨hw0, va_S.rf⟩
  have hr := B.returns
  have hx := C0.1; have hb := C0.2.1; have hml := C0.2.2.1; have hown := C0.2.2.2.1; have hts := C0.2.2.2.2.1
  have hl := lv_entry ([.ref zx0]) (n := 2) (Nat.le_of_ble_eq_true rfl)
  rw [lg_entry_eq]
  generalize (lg_sl ([.ref zx0]) ++ List.replicate (2 - (lg_sl ([.ref zx0])).length) Slot.unset).toArray = ls at hl ⊢
  have hl : lv_has ls 2 [(0, .ref zx0)] := hl
  unfold m8_undo at hf
  refine lv_aload_n hx hb dX8_undo_0 rfl (lv_at hl 0 rfl) ?_
  refine xg_8_3 C0 hw zt0 wd491 dX8_undo_1 ?_
  refine lv_if_le (tgt := 19) hx hb dX8_undo_4 (by decide) (fun zc1 => ?_) (fun zc1 => ?_)
  · have hf := ite_t hf zc1
    exact w8_undo_19 C0 hr hz fl I X _ _ _ hw (lv_sub hl [] rfl) hf
  · have hf := ite_f hf zc1
    refine lv_aload_n hx hb dX8_undo_7 rfl (lv_at hl 0 rfl) ?_
    refine xg_8_3 C0 hw zt0 wd491 dX8_undo_8 ?_
    refine lv_aload_n hx hb dX8_undo_11 rfl (lv_at hl 0 rfl) ?_
    obtain ⟨zv2, ezv2, hf⟩ := nn_some hf
    have tzv2 : okA E G 15 zv2 := wt_r hw ezv2
    refine xg_8_2 C0 hw zt0 wd481 ezv2 dX8_undo_12 ?_
    refine x_alen C0 hw 15 tzv2 (by decide) rfl dX8_undo_15 ?_
    refine lv_icmp_le (tgt := 22) hx hb dX8_undo_16 (by decide) (fun zc3 => ?_) (fun zc3 => ?_)
    · have hf := ite_t hf zc3
      refine lv_aload_n hx hb dX8_undo_22 rfl (lv_at hl 0 rfl) ?_
      refine lv_dup hx hb dX8_undo_23 rfl ?_
      refine xg_8_3 C0 hw zt0 wd491 dX8_undo_24 ?_
      refine lv_iconst (v := (1 : Int32)) hx hb dX8_undo_27 (by decide) ?_
      refine lv_isub hx hb dX8_undo_28 ?_
      obtain ⟨zI4, ezI4⟩ : ∃ y : Im, y = pF I 131 zx0 ((gF I 131 zx0) - (1 : Int32)) := ⟨_, rfl⟩
      have hf := lt_at hf ezI4
      refine xp_8_3 C0 hz hw zt0 rfl rfl wd491 dX8_undo_29 ezI4 (fun H locs hw => ?_)
      refine lv_aload_n hx hb dX8_undo_32 rfl (lv_at hl 0 rfl) ?_
      obtain ⟨zv5, ezv5, hf⟩ := nn_some hf
      have tzv5 : okA E G 4 zv5 := wt_r hw ezv5
      refine xg_8_0 C0 hw zt0 wd479 ezv5 dX8_undo_33 ?_
      refine lv_astore_n (lv' := [(1, .ref zv5), (0, .ref zx0)]) hx hb dX8_undo_36 rfl hl (by decide) rfl (fun ls hl => ?_)
      refine lv_aload_n hx hb dX8_undo_37 rfl (lv_at hl 1 rfl) ?_
      refine lv_aload_n hx hb dX8_undo_38 rfl (lv_at hl 1 rfl) ?_
      refine xg_8_2 C0 hw zt0 wd481 ezv2 dX8_undo_39 ?_
      refine lv_aload_n hx hb dX8_undo_42 rfl (lv_at hl 1 rfl) ?_
      refine xg_8_3 C0 hw zt0 wd491 dX8_undo_43 ?_
      obtain ⟨zhb6, hf⟩ := ck_some hf
      obtain ⟨zv7, ezv7, hf⟩ := nn_some hf
      have tzv7 : okA E G 4 zv7 := wt_q hw tzv2 ezv7
      refine x_qald C0 hw 15 tzv2 (by decide) rfl zhb6 ezv7 dX8_undo_46 ?_
      obtain ⟨zX8, ezX8⟩ : ∃ y : Xm, y = pR X 128 zx0 (some zv7) := ⟨_, rfl⟩
      have hf := lt_at hf ezX8
      refine xp_8_0 C0 hz hw zt0 tzv7 wd479 dX8_undo_47 ezX8 (fun H locs hw => ?_)
      refine lv_aload_n hx hb dX8_undo_50 rfl (lv_at hl 1 rfl) ?_
      obtain ⟨zv9, ezv9, hf⟩ := nn_some hf
      have tzv9 : okA E G 15 zv9 := wt_r hw ezv9
      refine xg_8_2 C0 hw zt0 wd481 ezv9 dX8_undo_51 ?_
      refine lv_aload_n hx hb dX8_undo_54 rfl (lv_at hl 1 rfl) ?_
      refine xg_8_3 C0 hw zt0 wd491 dX8_undo_55 ?_
      refine lv_aload_n hx hb dX8_undo_58 rfl (lv_at hl 0 rfl) ?_
      obtain ⟨zhb10, hf⟩ := ck_some hf
      obtain ⟨zX11, ezX11⟩ : ∃ y : Xm, y = pQ zX8 zv9 ((gF zI4 131 zx0)).toNatClampNeg (some zv5) := ⟨_, rfl⟩
      have hf := lt_at hf ezX11
      refine x_qast C0 hz hw 15 tzv9 (by decide) tzv5 (by decide) rfl rfl zhb10 dX8_undo_59 ezX11 (fun H locs hw => ?_)
      refine lv_aload_n hx hb dX8_undo_60 rfl (lv_at hl 1 rfl) ?_
      refine xg_8_3 C0 hw zt0 wd491 dX8_undo_61 ?_
      obtain rfl := Option.some.inj hf
      exact x_iret C0 hr hw dX8_undo_64
    · have hf := ite_f hf zc3
      exact w8_undo_19 C0 hr hz fl I X _ _ _ hw (lv_sub hl [] rfl) hf
noncomputable def m8_save_13 (fl : Nat) (len : Nat → Nat) (X : Xm) (I : Im) : Option (Int32 × Im) :=
  some ((-2 : Int32), I)
set_option maxHeartbeats 4000000 in
set_option maxRecDepth 100000 in
theorem w8_save_13 {p : Program} {l : Launch} {e : Env} {s : State} {m : MethodId} {args : Array Value} {below : List Frame} {meth : Method} {c : Code} {E : EN} {G : GM} {X : Xm} (C0 : CX p s m args meth c E cX8_save RX8 2) (hr : meth.sig.returnType = (some .int)) (hz : s.heap.size + 0 ≤ eB E + G.1) {rr : Int32 × Im} (fl : Nat) : ∀ (I : Im) (H : Heap) (locs : List Loc) (ls : Array Slot) , WD E G I X s.heap H locs → lv_has ls 2 [] → m8_save_13 fl G.2.2 X I = some rr → W p l e ({ frames := 3, cells := 0, slots := 0, locals := 70 } : Room) s m args below meth c H locs 0 0 (MQ below (QI E G rr.1 rr.2 X) args s 0 0 (eA E)) (F0 m 13 ls []) := by
  intro I H locs ls hw hl hf
  unfold m8_save_13 at hf
  have hx := C0.1; have hb := C0.2.1; have hml := C0.2.2.1; have hown := C0.2.2.2.1; have hts := C0.2.2.2.2.1
  refine lv_bipush (v := (-2 : Int32)) hx hb dX8_save_13 (by decide) ?_
  obtain rfl := Option.some.inj hf
  exact x_iret C0 hr hw dX8_save_15
noncomputable def m8_save (fl : Nat) (len : Nat → Nat) (X : Xm) (I : Im) (zx0 : Nat) (zx1 : Int32) : Option (Int32 × Im) :=
  if zx1 < 0 then
    m8_save_13 fl len X I
  else
    nn (gR X 132 zx0) fun zv2 =>
    if zx1 < (nI (len zv2)) then
      ck (inb zx1 (len zv2) = true) <|
      nn (gQ X zv2 (zx1).toNatClampNeg) fun zv5 =>
      nn (gR X 128 zx0) fun zv6 =>
      nn (m4_copyFrom fl len X I zv5 zv6) fun zI7 =>
      nn (gR X 133 zx0) fun zv9 =>
      ck (inb zx1 (len zv9) = true) <|
      lt (pA zI7 zv9 (zx1).toNatClampNeg (1 : Int32)) fun zI11 =>
      nn (gR X 65 zv6) fun zv12 =>
      some ((gF zI11 97 zv12), zI11)
    else
      m8_save_13 fl len X I
theorem hy8_save : yX8_save.cls = RX8 ∧ yX8_save.cls ≠ "java/lang/invoke/MethodHandle" ∧ yX8_save.cls ≠ "java/lang/invoke/VarHandle" ∧ (parseMethodDescriptor yX8_save.desc).map (fun d => d.parameters.length) = some 1 := ⟨rfl, by decide +kernel, by decide +kernel, by decide +kernel⟩
set_option maxHeartbeats 4000000 in
set_option maxRecDepth 100000 in
theorem c8_save (l : Launch) (E : EN) (G : GM) (fl : Nat) (X : Xm) (I : Im) (zx0 : Nat) (zx1 : Int32) (zt0 : okA E G 8 zx0) {rr : Int32 × Im} (hf : m8_save fl G.2.2 X I zx0 zx1 = some rr) : MT l yX8_save cX8_save 2 (some .int) ({ frames := 3, cells := 0, slots := 0, locals := 70 } : Room) E G I X [.ref zx0, .int zx1] (QI E G rr.1 rr.2 X) 0 0 := by
  refine Met.ofW (cc := cX8_save) (maxL := 2) (ret := (some .int)) (by decide +kernel) rfl ?_
  intro p e s m args below meth c s₁ B hml hv
  obtain ⟨rfl, hw0, hSE⟩ := hv
  have C0 : CX p s m ([.ref zx0, .int zx1] : List Value).toArray meth c E cX8_save RX8 2 := ⟨B.exec, B.bytes, hml, findClass_of_methodNamed B.named, fun w hw => atoms_spec (ws := WS yX8_save cX8_save 2 (some .int)) B.pre w (List.mem_cons_of_mem _ hw), B.notSynchronized, hSE⟩
  have hz : s.heap.size + 0 ≤ eB E + G.1 := Nat.le_of_eq hw0.2.1
  have hw : WD E G I X s.heap s.heap [] := ⟨hw0, va_S.rf⟩
  have hr := B.returns
  have hx := C0.1; have hb := C0.2.1; have hml := C0.2.2.1; have hown := C0.2.2.2.1; have hts := C0.2.2.2.2.1
  have hl := lv_entry ([.ref zx0, .int zx1]) (n := 2) (Nat.le_of_ble_eq_true rfl)
  rw [lg_entry_eq]
  generalize (lg_sl ([.ref zx0, .int zx1]) ++ List.replicate (2 - (lg_sl ([.ref zx0, .int zx1])).length) Slot.unset).toArray = ls at hl ⊢
  have hl : lv_has ls 2 [(0, .ref zx0), (1, .int zx1)] := hl
  unfold m8_save at hf
  refine lv_iload_n hx hb dX8_save_0 rfl (lv_at hl 1 rfl) ?_
  refine lv_if_lt (tgt := 13) hx hb dX8_save_1 (by decide) (fun zc1 => ?_) (fun zc1 => ?_)
  · have hf := ite_t hf zc1
    exact w8_save_13 C0 hr hz fl I _ _ _ hw (lv_sub hl [] rfl) hf
  · have hf := ite_f hf zc1
    refine lv_iload_n hx hb dX8_save_4 rfl (lv_at hl 1 rfl) ?_
    refine lv_aload_n hx hb dX8_save_5 rfl (lv_at hl 0 rfl) ?_
    obtain ⟨zv2, ezv2, hf⟩ := nn_some hf
    have tzv2 : okA E G 15 zv2 := wt_r hw ezv2
    refine xg_8_4 C0 hw zt0 wd482 ezv2 dX8_save_6 ?_
    refine x_alen C0 hw 15 tzv2 (by decide) rfl dX8_save_9 ?_
    refine lv_icmp_lt (tgt := 16) hx hb dX8_save_10 (by decide) (fun zc3 => ?_) (fun zc3 => ?_)
    · have hf := ite_t hf zc3
      refine lv_aload_n hx hb dX8_save_16 rfl (lv_at hl 0 rfl) ?_
      refine xg_8_4 C0 hw zt0 wd482 ezv2 dX8_save_17 ?_
      refine lv_iload_n hx hb dX8_save_20 rfl (lv_at hl 1 rfl) ?_
      obtain ⟨zhb4, hf⟩ := ck_some hf
      obtain ⟨zv5, ezv5, hf⟩ := nn_some hf
      have tzv5 : okA E G 4 zv5 := wt_q hw tzv2 ezv5
      refine x_qald C0 hw 15 tzv2 (by decide) rfl zhb4 ezv5 dX8_save_21 ?_
      refine lv_aload_n hx hb dX8_save_22 rfl (lv_at hl 0 rfl) ?_
      obtain ⟨zv6, ezv6, hf⟩ := nn_some hf
      have tzv6 : okA E G 4 zv6 := wt_r hw ezv6
      refine xg_8_0 C0 hw zt0 wd479 ezv6 dX8_save_23 ?_
      obtain ⟨zI7, ze8, hf⟩ := nn_some hf
      refine x_cv (I1 := zI7) (X1 := X) (x_runV (As := [.ref zv6]) (rest := []) C0 (c4_copyFrom l E G fl X I zv5 zv6 tzv5 tzv6 ze8) hw 4 tzv5 (by decide) rfl wd40 wd492 wd493 wd494 wd356 ⟨rfl, rfl⟩ hy4_copyFrom ⟨Nat.le_of_ble_eq_true rfl, Nat.le_of_ble_eq_true rfl⟩ rfl hl.1 (Nat.le_of_ble_eq_true rfl) ⟨Nat.zero_le _, Nat.zero_le _⟩ dX8_save_26) hw (fun H locs hw => ?_)
      refine lv_aload_n hx hb dX8_save_29 rfl (lv_at hl 0 rfl) ?_
      obtain ⟨zv9, ezv9, hf⟩ := nn_some hf
      have tzv9 : okA E G 12 zv9 := wt_r hw ezv9
      refine xg_8_5 C0 hw zt0 wd484 ezv9 dX8_save_30 ?_
      refine lv_iload_n hx hb dX8_save_33 rfl (lv_at hl 1 rfl) ?_
      refine lv_iconst (v := (1 : Int32)) hx hb dX8_save_34 (by decide) ?_
      obtain ⟨zhb10, hf⟩ := ck_some hf
      obtain ⟨zI11, ezI11⟩ : ∃ y : Im, y = pA zI7 zv9 (zx1).toNatClampNeg (1 : Int32) := ⟨_, rfl⟩
      have hf := lt_at hf ezI11
      refine x_zast C0 hz hw tzv9 zhb10 (by decide) dX8_save_35 ezI11 (fun H locs hw => ?_)
      refine lv_aload_n hx hb dX8_save_36 rfl (lv_at hl 0 rfl) ?_
      refine xg_8_0 C0 hw zt0 wd479 ezv6 dX8_save_37 ?_
      obtain ⟨zv12, ezv12, hf⟩ := nn_some hf
      have tzv12 : okA E G 6 zv12 := wt_r hw ezv12
      refine xg_4_1 C0 hw tzv6 wd513 ezv12 dX8_save_40 ?_
      refine xg_6_1 C0 hw tzv12 wd556 dX8_save_43 ?_
      obtain rfl := Option.some.inj hf
      exact x_iret C0 hr hw dX8_save_46
    · have hf := ite_f hf zc3
      exact w8_save_13 C0 hr hz fl I _ _ _ hw (lv_sub hl [] rfl) hf
noncomputable def m8_restore_13 (fl : Nat) (len : Nat → Nat) (I : Im) (X : Xm) : Option (Int32 × Im × Xm) :=
  some ((-2 : Int32), I, X)
set_option maxHeartbeats 4000000 in
set_option maxRecDepth 100000 in
theorem w8_restore_13 {p : Program} {l : Launch} {e : Env} {s : State} {m : MethodId} {args : Array Value} {below : List Frame} {meth : Method} {c : Code} {E : EN} {G : GM} (C0 : CX p s m args meth c E cX8_restore RX8 2) (hr : meth.sig.returnType = (some .int)) (hz : s.heap.size + 0 ≤ eB E + G.1) {rr : Int32 × Im × Xm} (fl : Nat) : ∀ (I : Im) (X : Xm) (H : Heap) (locs : List Loc) (ls : Array Slot) , WD E G I X s.heap H locs → lv_has ls 2 [] → m8_restore_13 fl G.2.2 I X = some rr → W p l e ({ frames := 4, cells := 0, slots := 0, locals := 90 } : Room) s m args below meth c H locs 0 0 (MQ below (QI E G rr.1 rr.2.1 rr.2.2) args s 0 0 (eA E)) (F0 m 13 ls []) := by
  intro I X H locs ls hw hl hf
  unfold m8_restore_13 at hf
  have hx := C0.1; have hb := C0.2.1; have hml := C0.2.2.1; have hown := C0.2.2.2.1; have hts := C0.2.2.2.2.1
  refine lv_bipush (v := (-2 : Int32)) hx hb dX8_restore_13 (by decide) ?_
  obtain rfl := Option.some.inj hf
  exact x_iret C0 hr hw dX8_restore_15
noncomputable def m8_restore (fl : Nat) (len : Nat → Nat) (X : Xm) (I : Im) (zx0 : Nat) (zx1 : Int32) : Option (Int32 × Im × Xm) :=
  if zx1 < 0 then
    m8_restore_13 fl len I X
  else
    nn (gR X 132 zx0) fun zv2 =>
    if zx1 < (nI (len zv2)) then
      nn (gR X 133 zx0) fun zv4 =>
      ck (inb zx1 (len zv4) = true) <|
      if (gA I zv4 (zx1).toNatClampNeg) = 0 then
        some ((-5 : Int32), I, X)
      else
        nn (m8_holdState fl len X I zx0) fun zI7 =>
        nn (gR X 128 zx0) fun zv9 =>
        ck (inb zx1 (len zv2) = true) <|
        nn (gQ X zv2 (zx1).toNatClampNeg) fun zv11 =>
        nn (m4_copyFrom fl len X zI7 zv9 zv11) fun zI12 =>
        nn (gR X 65 zv9) fun zv14 =>
        nn (m8_recorded fl len X zI12 zx0 (gF zI12 97 zv14)) fun ⟨zv15, zI16, zX17⟩ =>
        some (zv15, zI16, zX17)
    else
      m8_restore_13 fl len I X
theorem hy8_restore : yX8_restore.cls = RX8 ∧ yX8_restore.cls ≠ "java/lang/invoke/MethodHandle" ∧ yX8_restore.cls ≠ "java/lang/invoke/VarHandle" ∧ (parseMethodDescriptor yX8_restore.desc).map (fun d => d.parameters.length) = some 1 := ⟨rfl, by decide +kernel, by decide +kernel, by decide +kernel⟩
set_option maxHeartbeats 4000000 in
set_option maxRecDepth 100000 in
theorem c8_restore (l : Launch) (E : EN) (G : GM) (fl : Nat) (X : Xm) (I : Im) (zx0 : Nat) (zx1 : Int32) (zt0 : okA E G 8 zx0) {rr : Int32 × Im × Xm} (hf : m8_restore fl G.2.2 X I zx0 zx1 = some rr) : MT l yX8_restore cX8_restore 2 (some .int) ({ frames := 4, cells := 0, slots := 0, locals := 90 } : Room) E G I X [.ref zx0, .int zx1] (QI E G rr.1 rr.2.1 rr.2.2) 0 0 := by
  refine Met.ofW (cc := cX8_restore) (maxL := 2) (ret := (some .int)) (by decide +kernel) rfl ?_
  intro p e s m args below meth c s₁ B hml hv
  obtain ⟨rfl, hw0, hSE⟩ := hv
  have C0 : CX p s m ([.ref zx0, .int zx1] : List Value).toArray meth c E cX8_restore RX8 2 := ⟨B.exec, B.bytes, hml, findClass_of_methodNamed B.named, fun w hw => atoms_spec (ws := WS yX8_restore cX8_restore 2 (some .int)) B.pre w (List.mem_cons_of_mem _ hw), B.notSynchronized, hSE⟩
  have hz : s.heap.size + 0 ≤ eB E + G.1 := Nat.le_of_eq hw0.2.1
  have hw : WD E G I X s.heap s.heap [] := ⟨hw0, va_S.rf⟩
  have hr := B.returns
  have hx := C0.1; have hb := C0.2.1; have hml := C0.2.2.1; have hown := C0.2.2.2.1; have hts := C0.2.2.2.2.1
  have hl := lv_entry ([.ref zx0, .int zx1]) (n := 2) (Nat.le_of_ble_eq_true rfl)
  rw [lg_entry_eq]
  generalize (lg_sl ([.ref zx0, .int zx1]) ++ List.replicate (2 - (lg_sl ([.ref zx0, .int zx1])).length) Slot.unset).toArray = ls at hl ⊢
  have hl : lv_has ls 2 [(0, .ref zx0), (1, .int zx1)] := hl
  unfold m8_restore at hf
  refine lv_iload_n hx hb dX8_restore_0 rfl (lv_at hl 1 rfl) ?_
  refine lv_if_lt (tgt := 13) hx hb dX8_restore_1 (by decide) (fun zc1 => ?_) (fun zc1 => ?_)
  · have hf := ite_t hf zc1
    exact w8_restore_13 C0 hr hz fl I X _ _ _ hw (lv_sub hl [] rfl) hf
  · have hf := ite_f hf zc1
    refine lv_iload_n hx hb dX8_restore_4 rfl (lv_at hl 1 rfl) ?_
    refine lv_aload_n hx hb dX8_restore_5 rfl (lv_at hl 0 rfl) ?_
    obtain ⟨zv2, ezv2, hf⟩ := nn_some hf
    have tzv2 : okA E G 15 zv2 := wt_r hw ezv2
    refine xg_8_4 C0 hw zt0 wd482 ezv2 dX8_restore_6 ?_
    refine x_alen C0 hw 15 tzv2 (by decide) rfl dX8_restore_9 ?_
    refine lv_icmp_lt (tgt := 16) hx hb dX8_restore_10 (by decide) (fun zc3 => ?_) (fun zc3 => ?_)
    · have hf := ite_t hf zc3
      refine lv_aload_n hx hb dX8_restore_16 rfl (lv_at hl 0 rfl) ?_
      obtain ⟨zv4, ezv4, hf⟩ := nn_some hf
      have tzv4 : okA E G 12 zv4 := wt_r hw ezv4
      refine xg_8_5 C0 hw zt0 wd484 ezv4 dX8_restore_17 ?_
      refine lv_iload_n hx hb dX8_restore_20 rfl (lv_at hl 1 rfl) ?_
      obtain ⟨zhb5, hf⟩ := ck_some hf
      refine x_zald C0 hw tzv4 zhb5 dX8_restore_21 ?_
      refine lv_if_ne (tgt := 28) hx hb dX8_restore_22 (by decide) (fun zc6 => ?_) (fun zc6 => ?_)
      · have hf := ite_f hf zc6
        refine lv_aload_n hx hb dX8_restore_28 rfl (lv_at hl 0 rfl) ?_
        obtain ⟨zI7, ze8, hf⟩ := nn_some hf
        refine x_cv (I1 := zI7) (X1 := X) (x_runV (As := []) (rest := []) C0 (c8_holdState l E G fl X I zx0 zt0 ze8) hw 8 zt0 (by decide) rfl wd79 wd498 wd499 wd500 wd197 ⟨rfl, rfl⟩ hy8_holdState ⟨Nat.le_of_ble_eq_true rfl, Nat.le_of_ble_eq_true rfl⟩ rfl hl.1 (Nat.le_of_ble_eq_true rfl) ⟨Nat.zero_le _, Nat.zero_le _⟩ dX8_restore_29) hw (fun H locs hw => ?_)
        refine lv_aload_n hx hb dX8_restore_32 rfl (lv_at hl 0 rfl) ?_
        obtain ⟨zv9, ezv9, hf⟩ := nn_some hf
        have tzv9 : okA E G 4 zv9 := wt_r hw ezv9
        refine xg_8_0 C0 hw zt0 wd479 ezv9 dX8_restore_33 ?_
        refine lv_aload_n hx hb dX8_restore_36 rfl (lv_at hl 0 rfl) ?_
        refine xg_8_4 C0 hw zt0 wd482 ezv2 dX8_restore_37 ?_
        refine lv_iload_n hx hb dX8_restore_40 rfl (lv_at hl 1 rfl) ?_
        obtain ⟨zhb10, hf⟩ := ck_some hf
        obtain ⟨zv11, ezv11, hf⟩ := nn_some hf
        have tzv11 : okA E G 4 zv11 := wt_q hw tzv2 ezv11
        refine x_qald C0 hw 15 tzv2 (by decide) rfl zhb10 ezv11 dX8_restore_41 ?_
        obtain ⟨zI12, ze13, hf⟩ := nn_some hf
        refine x_cv (I1 := zI12) (X1 := X) (x_runV (As := [.ref zv11]) (rest := []) C0 (c4_copyFrom l E G fl X zI7 zv9 zv11 tzv9 tzv11 ze13) hw 4 tzv9 (by decide) rfl wd40 wd492 wd493 wd494 wd356 ⟨rfl, rfl⟩ hy4_copyFrom ⟨Nat.le_of_ble_eq_true rfl, Nat.le_of_ble_eq_true rfl⟩ rfl hl.1 (Nat.le_of_ble_eq_true rfl) ⟨Nat.zero_le _, Nat.zero_le _⟩ dX8_restore_42) hw (fun H locs hw => ?_)
        refine lv_aload_n hx hb dX8_restore_45 rfl (lv_at hl 0 rfl) ?_
        refine lv_aload_n hx hb dX8_restore_46 rfl (lv_at hl 0 rfl) ?_
        refine xg_8_0 C0 hw zt0 wd479 ezv9 dX8_restore_47 ?_
        obtain ⟨zv14, ezv14, hf⟩ := nn_some hf
        have tzv14 : okA E G 6 zv14 := wt_r hw ezv14
        refine xg_4_1 C0 hw tzv9 wd513 ezv14 dX8_restore_50 ?_
        refine xg_6_1 C0 hw tzv14 wd556 dX8_restore_53 ?_
        obtain ⟨⟨zv15, zI16, zX17⟩, ze18, hf⟩ := nn_some hf
        refine x_ci (r := zv15) (I1 := zI16) (X1 := zX17) (x_runV (As := [.int (gF zI12 97 zv14)]) (rest := []) C0 (c8_recorded l E G fl X zI12 zx0 (gF zI12 97 zv14) zt0 ze18) hw 8 zt0 (by decide) rfl wd81 wd504 wd505 wd506 wd197 ⟨rfl, rfl⟩ hy8_recorded ⟨Nat.le_of_ble_eq_true rfl, Nat.le_of_ble_eq_true rfl⟩ rfl hl.1 (Nat.le_of_ble_eq_true rfl) ⟨Nat.zero_le _, Nat.zero_le _⟩ dX8_restore_56) hw (fun H locs hw => ?_)
        obtain rfl := Option.some.inj hf
        exact x_iret C0 hr hw dX8_restore_59
      · have hf := ite_t hf zc6
        refine lv_bipush (v := (-5 : Int32)) hx hb dX8_restore_25 (by decide) ?_
        obtain rfl := Option.some.inj hf
        exact x_iret C0 hr hw dX8_restore_27
    · have hf := ite_f hf zc3
      exact w8_restore_13 C0 hr hz fl I X _ _ _ hw (lv_sub hl [] rfl) hf
