noncomputable def m8_holdState_35 (fl : Nat) (len : Nat → Nat) (X : Xm) (I : Im) : Option (Im) :=
  some (I)
set_option maxHeartbeats 4000000 in
set_option maxRecDepth 100000 in
theorem w8_holdState_35 {p : Program} {l : Launch} {e : Env} {s : State} {m : MethodId} {args : Array Value} {below : List Frame} {meth : Method} {c : Code} {E : EN} {G : GM} {X : Xm} (C0 : CX p s m args meth c E cX8_holdState RX8 1) (hr : meth.sig.returnType = none) (hz : s.heap.size + 0 ≤ eB E + G.1) {rr : Im} (fl : Nat) : ∀ (I : Im) (H : Heap) (locs : List Loc) (ls : Array Slot) , WD E G I X s.heap H locs → lv_has ls 1 [] → m8_holdState_35 fl G.2.2 X I = some rr → W p l e ({ frames := 3, cells := 0, slots := 0, locals := 70 } : Room) s m args below meth c H locs 0 0 (MQ below (QV E G rr X) args s 0 0 (eA E)) (F0 m 35 ls []) := by
  intro I H locs ls hw hl hf
  unfold m8_holdState_35 at hf
  have hx := C0.1; have hb := C0.2.1; have hml := C0.2.2.1; have hown := C0.2.2.2.1; have hts := C0.2.2.2.2.1
  obtain rfl := Option.some.inj hf
  exact x_vret C0 hr hw dX8_holdState_35
noncomputable def m8_holdState (fl : Nat) (len : Nat → Nat) (X : Xm) (I : Im) (zx0 : Nat) : Option (Im) :=
  if (gF I 131 zx0) < 0 then
    m8_holdState_35 fl len X I
  else
    nn (gR X 130 zx0) fun zv2 =>
    if (nI (len zv2)) ≤ (gF I 131 zx0) then
      m8_holdState_35 fl len X I
    else
      ck (inb (gF I 131 zx0) (len zv2) = true) <|
      nn (gQ X zv2 ((gF I 131 zx0)).toNatClampNeg) fun zv5 =>
      nn (gR X 128 zx0) fun zv6 =>
      nn (m4_copyFrom fl len X I zv5 zv6) fun zI7 =>
      m8_holdState_35 fl len X zI7
theorem hy8_holdState : yX8_holdState.cls = RX8 ∧ yX8_holdState.cls ≠ "java/lang/invoke/MethodHandle" ∧ yX8_holdState.cls ≠ "java/lang/invoke/VarHandle" ∧ (parseMethodDescriptor yX8_holdState.desc).map (fun d => d.parameters.length) = some 0 := ⟨rfl, by decide +kernel, by decide +kernel, by decide +kernel⟩
set_option maxHeartbeats 4000000 in
set_option maxRecDepth 100000 in
theorem c8_holdState (l : Launch) (E : EN) (G : GM) (fl : Nat) (X : Xm) (I : Im) (zx0 : Nat) (zt0 : okA E G 8 zx0) {rr : Im} (hf : m8_holdState fl G.2.2 X I zx0 = some rr) : MT l yX8_holdState cX8_holdState 1 none ({ frames := 3, cells := 0, slots := 0, locals := 70 } : Room) E G I X [.ref zx0] (QV E G rr X) 0 0 := by
  refine Met.ofW (cc := cX8_holdState) (maxL := 1) (ret := none) (by decide +kernel) rfl ?_
  intro p e s m args below meth c s₁ B hml hv
  obtain ⟨rfl, hw0, hSE⟩ := hv
  have C0 : CX p s m ([.ref zx0] : List Value).toArray meth c E cX8_holdState RX8 1 := ⟨B.exec, B.bytes, hml, findClass_of_methodNamed B.named, fun w hw => atoms_spec (ws := WS yX8_holdState cX8_holdState 1 none) B.pre w (List.mem_cons_of_mem _ hw), B.notSynchronized, hSE⟩
  have hz : s.heap.size + 0 ≤ eB E + G.1 := Nat.le_of_eq hw0.2.1
  have hw : WD E G I X s.heap s.heap [] := ⟨hw0, va_S.rf⟩
  have hr := B.returns
  have hx := C0.1; have hb := C0.2.1; have hml := C0.2.2.1; have hown := C0.2.2.2.1; have hts := C0.2.2.2.2.1
  have hl := lv_entry ([.ref zx0]) (n := 1) (Nat.le_of_ble_eq_true rfl)
  rw [lg_entry_eq]
  generalize (lg_sl ([.ref zx0]) ++ List.replicate (1 - (lg_sl ([.ref zx0])).length) Slot.unset).toArray = ls at hl ⊢
  have hl : lv_has ls 1 [(0, .ref zx0)] := hl
  unfold m8_holdState at hf
  refine lv_aload_n hx hb dX8_holdState_0 rfl (lv_at hl 0 rfl) ?_
  refine xg_8_3 C0 hw zt0 wd332 dX8_holdState_1 ?_
  refine lv_if_lt (tgt := 35) hx hb dX8_holdState_4 (by decide) (fun zc1 => ?_) (fun zc1 => ?_)
  · have hf := ite_t hf zc1
    exact w8_holdState_35 C0 hr hz fl I _ _ _ hw (lv_sub hl [] rfl) hf
  · have hf := ite_f hf zc1
    refine lv_aload_n hx hb dX8_holdState_7 rfl (lv_at hl 0 rfl) ?_
    refine xg_8_3 C0 hw zt0 wd332 dX8_holdState_8 ?_
    refine lv_aload_n hx hb dX8_holdState_11 rfl (lv_at hl 0 rfl) ?_
    obtain ⟨zv2, ezv2, hf⟩ := nn_some hf
    have tzv2 : okA E G 15 zv2 := wt_r hw ezv2
    refine xg_8_2 C0 hw zt0 wd321 ezv2 dX8_holdState_12 ?_
    refine x_alen C0 hw 15 tzv2 (by decide) rfl dX8_holdState_15 ?_
    refine lv_icmp_ge (tgt := 35) hx hb dX8_holdState_16 (by decide) (fun zc3 => ?_) (fun zc3 => ?_)
    · have hf := ite_t hf zc3
      exact w8_holdState_35 C0 hr hz fl I _ _ _ hw (lv_sub hl [] rfl) hf
    · have hf := ite_f hf zc3
      refine lv_aload_n hx hb dX8_holdState_19 rfl (lv_at hl 0 rfl) ?_
      refine xg_8_2 C0 hw zt0 wd321 ezv2 dX8_holdState_20 ?_
      refine lv_aload_n hx hb dX8_holdState_23 rfl (lv_at hl 0 rfl) ?_
      refine xg_8_3 C0 hw zt0 wd332 dX8_holdState_24 ?_
      obtain ⟨zhb4, hf⟩ := ck_some hf
      obtain ⟨zv5, ezv5, hf⟩ := nn_some hf
      have tzv5 : okA E G 4 zv5 := wt_q hw tzv2 ezv5
      refine x_qald C0 hw 15 tzv2 (by decide) rfl zhb4 ezv5 dX8_holdState_27 ?_
      refine lv_aload_n hx hb dX8_holdState_28 rfl (lv_at hl 0 rfl) ?_
      obtain ⟨zv6, ezv6, hf⟩ := nn_some hf
      have tzv6 : okA E G 4 zv6 := wt_r hw ezv6
      refine xg_8_0 C0 hw zt0 wd319 ezv6 dX8_holdState_29 ?_
      obtain ⟨zI7, ze8, hf⟩ := nn_some hf
      refine x_cv (I1 := zI7) (X1 := X) (x_runV (As := [.ref zv6]) (rest := []) C0 (c4_copyFrom l E G fl X I zv5 zv6 tzv5 tzv6 ze8) hw 4 tzv5 (by decide) rfl wd19 wd333 wd334 wd335 wd202 ⟨rfl, rfl⟩ hy4_copyFrom ⟨Nat.le_of_ble_eq_true rfl, Nat.le_of_ble_eq_true rfl⟩ rfl hl.1 (Nat.le_of_ble_eq_true rfl) ⟨Nat.zero_le _, Nat.zero_le _⟩ dX8_holdState_32) hw (fun H locs hw => ?_)
      exact w8_holdState_35 C0 hr hz fl zI7 _ _ _ hw (lv_sub hl [] rfl) hf
noncomputable def m6_sortLast_61 (fl : Nat) (len : Nat → Nat) (I : Im) (X : Xm) (zx0 : Nat) (zx1 : Int32) (zx2 : Option Nat) : Option (Int32 × Xm) :=
  nn (gR X 96 zx0) fun zv1 =>
  nn zx2 fun zb2 =>
  ck (inb zx1 (len zv1) = true) <|
  lt (pQ X zv1 (zx1).toNatClampNeg (some zb2)) fun zX4 =>
  some (zx1, zX4)
set_option maxHeartbeats 4000000 in
set_option maxRecDepth 100000 in
theorem w6_sortLast_61 {p : Program} {l : Launch} {e : Env} {s : State} {m : MethodId} {args : Array Value} {below : List Frame} {meth : Method} {c : Code} {E : EN} {G : GM} {I : Im} (C0 : CX p s m args meth c E cX6_sortLast RX6 3) (hr : meth.sig.returnType = (some .int)) (hz : s.heap.size + 0 ≤ eB E + G.1) {rr : Int32 × Xm} (fl : Nat) : ∀ (X : Xm) (H : Heap) (locs : List Loc) (ls : Array Slot) (zx0 : Nat) (zx1 : Int32) (zx2 : Option Nat) (zt0 : okA E G 6 zx0) (zt2 : ∀ a, zx2 = some a → okA E G 1 a), WD E G I X s.heap H locs → lv_has ls 3 [(0, .ref zx0), (1, .int zx1), (2, va_rf zx2)] → m6_sortLast_61 fl G.2.2 I X zx0 zx1 zx2 = some rr → W p l e ({ frames := 1, cells := 0, slots := 0, locals := 21 } : Room) s m args below meth c H locs 0 0 (MQ below (QI E G rr.1 I rr.2) args s 0 0 (eA E)) (F0 m 61 ls []) := by
  intro X H locs ls zx0 zx1 zx2 zt0 zt2 hw hl hf
  unfold m6_sortLast_61 at hf
  have hx := C0.1; have hb := C0.2.1; have hml := C0.2.2.1; have hown := C0.2.2.2.1; have hts := C0.2.2.2.2.1
  refine lv_aload_n hx hb dX6_sortLast_61 rfl (lv_at hl 0 rfl) ?_
  obtain ⟨zv1, ezv1, hf⟩ := nn_some hf
  have tzv1 : okA E G 14 zv1 := wt_r hw ezv1
  refine xg_6_0 C0 hw zt0 wd130 ezv1 dX6_sortLast_62 ?_
  refine lv_iload_n hx hb dX6_sortLast_65 rfl (lv_at hl 1 rfl) ?_
  refine x_aload_n C0 dX6_sortLast_66 rfl (lv_at hl 2 rfl) ?_
  obtain ⟨zb2, ezb2, hfzb2⟩ := nn_some hf
  have tzb2 : okA E G 1 zb2 := zt2 _ ezb2
  subst ezb2
  have hf := hfzb2
  obtain ⟨zhb3, hf⟩ := ck_some hf
  obtain ⟨zX4, ezX4⟩ : ∃ y : Xm, y = pQ X zv1 (zx1).toNatClampNeg (some zb2) := ⟨_, rfl⟩
  have hf := lt_at hf ezX4
  refine x_qast C0 hz hw 14 tzv1 (by decide) tzb2 (by decide) rfl rfl zhb3 dX6_sortLast_67 ezX4 (fun H locs hw => ?_)
  refine lv_iload_n hx hb dX6_sortLast_68 rfl (lv_at hl 1 rfl) ?_
  obtain rfl := Option.some.inj hf
  exact x_iret C0 hr hw dX6_sortLast_69
noncomputable def m6_sortLast_19b (fl : Nat) (len : Nat → Nat) (I : Im) (zr19 : Xm → Nat → Int32 → Option Nat → Option (Int32 × Xm)) (X : Xm) (zx0 : Nat) (zx1 : Int32) (zx2 : Option Nat) : Option (Int32 × Xm) :=
  if zx1 ≤ 0 then
    m6_sortLast_61 fl len I X zx0 zx1 zx2
  else
    nn (gR X 96 zx0) fun zv2 =>
    ck (inb (zx1 - (1 : Int32)) (len zv2) = true) <|
    nn (gQ X zv2 ((zx1 - (1 : Int32))).toNatClampNeg) fun zv4 =>
    nn zx2 fun zb5 =>
    if (gF I 16 zv4) ≤ (gF I 16 zb5) then
      m6_sortLast_61 fl len I X zx0 zx1 (some zb5)
    else
      nn (gQ X zv2 ((zx1 - (1 : Int32))).toNatClampNeg) fun zv7 =>
      ck (inb zx1 (len zv2) = true) <|
      lt (pQ X zv2 (zx1).toNatClampNeg (some zv7)) fun zX9 =>
      lt (zx1 + (-1)) fun zv10 =>
      zr19 zX9 zx0 zv10 (some zb5)
noncomputable def m6_sortLast_19 (fl : Nat) (len : Nat → Nat) (I : Im) (n : Nat) : Xm → Nat → Int32 → Option Nat → Option (Int32 × Xm) :=
  Nat.rec (fun _ _ _ _ => none) (fun _ r => m6_sortLast_19b fl len I r) n
set_option maxHeartbeats 4000000 in
set_option maxRecDepth 100000 in
theorem w6_sortLast_19b {p : Program} {l : Launch} {e : Env} {s : State} {m : MethodId} {args : Array Value} {below : List Frame} {meth : Method} {c : Code} {E : EN} {G : GM} {I : Im} (C0 : CX p s m args meth c E cX6_sortLast RX6 3) (hr : meth.sig.returnType = (some .int)) (hz : s.heap.size + 0 ≤ eB E + G.1) {rr : Int32 × Xm} (fl : Nat) (zr19 : Xm → Nat → Int32 → Option Nat → Option (Int32 × Xm)) (zhr19 : ∀ (X : Xm) (H : Heap) (locs : List Loc) (ls : Array Slot) (zx0 : Nat) (zx1 : Int32) (zx2 : Option Nat) (zt0 : okA E G 6 zx0) (zt2 : ∀ a, zx2 = some a → okA E G 1 a), WD E G I X s.heap H locs → lv_has ls 3 [(0, .ref zx0), (1, .int zx1), (2, va_rf zx2)] → zr19 X zx0 zx1 zx2 = some rr → W p l e ({ frames := 1, cells := 0, slots := 0, locals := 21 } : Room) s m args below meth c H locs 0 0 (MQ below (QI E G rr.1 I rr.2) args s 0 0 (eA E)) (F0 m 19 ls [])) : ∀ (X : Xm) (H : Heap) (locs : List Loc) (ls : Array Slot) (zx0 : Nat) (zx1 : Int32) (zx2 : Option Nat) (zt0 : okA E G 6 zx0) (zt2 : ∀ a, zx2 = some a → okA E G 1 a), WD E G I X s.heap H locs → lv_has ls 3 [(0, .ref zx0), (1, .int zx1), (2, va_rf zx2)] → m6_sortLast_19b fl G.2.2 I zr19 X zx0 zx1 zx2 = some rr → W p l e ({ frames := 1, cells := 0, slots := 0, locals := 21 } : Room) s m args below meth c H locs 0 0 (MQ below (QI E G rr.1 I rr.2) args s 0 0 (eA E)) (F0 m 19 ls []) := by
  intro X H locs ls zx0 zx1 zx2 zt0 zt2 hw hl hf
  unfold m6_sortLast_19b at hf
  have hx := C0.1; have hb := C0.2.1; have hml := C0.2.2.1; have hown := C0.2.2.2.1; have hts := C0.2.2.2.2.1
  refine lv_iload_n hx hb dX6_sortLast_19 rfl (lv_at hl 1 rfl) ?_
  refine lv_if_le (tgt := 61) hx hb dX6_sortLast_20 (by decide) (fun zc1 => ?_) (fun zc1 => ?_)
  · have hf := ite_t hf zc1
    exact w6_sortLast_61 C0 hr hz fl X _ _ _ zx0 zx1 zx2 zt0 zt2 hw (lv_sub hl [0, 1, 2] rfl) hf
  · have hf := ite_f hf zc1
    refine lv_aload_n hx hb dX6_sortLast_23 rfl (lv_at hl 0 rfl) ?_
    obtain ⟨zv2, ezv2, hf⟩ := nn_some hf
    have tzv2 : okA E G 14 zv2 := wt_r hw ezv2
    refine xg_6_0 C0 hw zt0 wd130 ezv2 dX6_sortLast_24 ?_
    refine lv_iload_n hx hb dX6_sortLast_27 rfl (lv_at hl 1 rfl) ?_
    refine lv_iconst (v := (1 : Int32)) hx hb dX6_sortLast_28 (by decide) ?_
    refine lv_isub hx hb dX6_sortLast_29 ?_
    obtain ⟨zhb3, hf⟩ := ck_some hf
    obtain ⟨zv4, ezv4, hf⟩ := nn_some hf
    have tzv4 : okA E G 1 zv4 := wt_q hw tzv2 ezv4
    refine x_qald C0 hw 14 tzv2 (by decide) rfl zhb3 ezv4 dX6_sortLast_30 ?_
    refine xg_1_0 C0 hw tzv4 wd221 dX6_sortLast_31 ?_
    refine x_aload_n C0 dX6_sortLast_34 rfl (lv_at hl 2 rfl) ?_
    obtain ⟨zb5, ezb5, hfzb5⟩ := nn_some hf
    have tzb5 : okA E G 1 zb5 := zt2 _ ezb5
    subst ezb5
    have hf := hfzb5
    refine xg_1_0 C0 hw tzb5 wd221 dX6_sortLast_35 ?_
    refine lv_icmp_le (tgt := 61) hx hb dX6_sortLast_38 (by decide) (fun zc6 => ?_) (fun zc6 => ?_)
    · have hf := ite_t hf zc6
      exact w6_sortLast_61 C0 hr hz fl X _ _ _ zx0 zx1 (some zb5) zt0 (fun a h => by cases h; exact tzb5) hw (lv_sub hl [0, 1, 2] rfl) hf
    · have hf := ite_f hf zc6
      refine lv_aload_n hx hb dX6_sortLast_41 rfl (lv_at hl 0 rfl) ?_
      refine xg_6_0 C0 hw zt0 wd130 ezv2 dX6_sortLast_42 ?_
      refine lv_iload_n hx hb dX6_sortLast_45 rfl (lv_at hl 1 rfl) ?_
      refine lv_aload_n hx hb dX6_sortLast_46 rfl (lv_at hl 0 rfl) ?_
      refine xg_6_0 C0 hw zt0 wd130 ezv2 dX6_sortLast_47 ?_
      refine lv_iload_n hx hb dX6_sortLast_50 rfl (lv_at hl 1 rfl) ?_
      refine lv_iconst (v := (1 : Int32)) hx hb dX6_sortLast_51 (by decide) ?_
      refine lv_isub hx hb dX6_sortLast_52 ?_
      obtain ⟨zv7, ezv7, hf⟩ := nn_some hf
      have tzv7 : okA E G 1 zv7 := wt_q hw tzv2 ezv7
      refine x_qald C0 hw 14 tzv2 (by decide) rfl zhb3 ezv7 dX6_sortLast_53 ?_
      obtain ⟨zhb8, hf⟩ := ck_some hf
      obtain ⟨zX9, ezX9⟩ : ∃ y : Xm, y = pQ X zv2 (zx1).toNatClampNeg (some zv7) := ⟨_, rfl⟩
      have hf := lt_at hf ezX9
      refine x_qast C0 hz hw 14 tzv2 (by decide) tzv7 (by decide) rfl rfl zhb8 dX6_sortLast_54 ezX9 (fun H locs hw => ?_)
      obtain ⟨zv10, ezv10⟩ : ∃ y : Int32, y = zx1 + (-1) := ⟨_, rfl⟩
      have hf := lt_at hf ezv10
      refine lv_iinc (v := zv10) (lv' := [(1, .int zv10), (0, .ref zx0), (2, .ref zb5)]) hx hb dX6_sortLast_55 hl (k := 1) rfl (by rw [ezv10]; rfl) (by decide) rfl (fun ls hl => ?_)
      refine lv_goto (tgt := 19) hx hb dX6_sortLast_58 (by decide) ?_
      exact zhr19 zX9 _ _ _ zx0 zv10 (some zb5) zt0 (fun a h => by cases h; exact tzb5) hw (lv_sub hl [1, 0, 2] rfl) hf
theorem w6_sortLast_19 {p : Program} {l : Launch} {e : Env} {s : State} {m : MethodId} {args : Array Value} {below : List Frame} {meth : Method} {c : Code} {E : EN} {G : GM} {I : Im} (C0 : CX p s m args meth c E cX6_sortLast RX6 3) (hr : meth.sig.returnType = (some .int)) (hz : s.heap.size + 0 ≤ eB E + G.1) {rr : Int32 × Xm} (fl : Nat) : ∀ (n : Nat) (X : Xm) (H : Heap) (locs : List Loc) (ls : Array Slot) (zx0 : Nat) (zx1 : Int32) (zx2 : Option Nat) (zt0 : okA E G 6 zx0) (zt2 : ∀ a, zx2 = some a → okA E G 1 a), WD E G I X s.heap H locs → lv_has ls 3 [(0, .ref zx0), (1, .int zx1), (2, va_rf zx2)] → m6_sortLast_19 fl G.2.2 I n X zx0 zx1 zx2 = some rr → W p l e ({ frames := 1, cells := 0, slots := 0, locals := 21 } : Room) s m args below meth c H locs 0 0 (MQ below (QI E G rr.1 I rr.2) args s 0 0 (eA E)) (F0 m 19 ls []) := by
  intro n
  induction n with
  | zero => intro X H locs ls zx0 zx1 zx2 zt0 zt2 hw hl hf; exact absurd (show (none : Option (Int32 × Xm)) = some rr from hf) (by simp)
  | succ n ih => intro X H locs ls zx0 zx1 zx2 zt0 zt2 hw hl hf; exact w6_sortLast_19b C0 hr hz fl _ ih X H locs ls zx0 zx1 zx2 zt0 zt2 hw hl hf
noncomputable def m6_sortLast (fl : Nat) (len : Nat → Nat) (X : Xm) (I : Im) (zx0 : Nat) : Option (Int32 × Xm) :=
  lt (((gF I 97 zx0) - (1 : Int32))) fun zv1 =>
  nn (m6_cueAt fl len X I zx0 zv1) fun zv2 =>
  if zv2 = none then
    some ((-1 : Int32), X)
  else
    m6_sortLast_19 fl len I fl X zx0 zv1 zv2
theorem hy6_sortLast : yX6_sortLast.cls = RX6 ∧ yX6_sortLast.cls ≠ "java/lang/invoke/MethodHandle" ∧ yX6_sortLast.cls ≠ "java/lang/invoke/VarHandle" ∧ (parseMethodDescriptor yX6_sortLast.desc).map (fun d => d.parameters.length) = some 0 := ⟨rfl, by decide +kernel, by decide +kernel, by decide +kernel⟩
set_option maxHeartbeats 4000000 in
set_option maxRecDepth 100000 in
theorem c6_sortLast (l : Launch) (E : EN) (G : GM) (fl : Nat) (X : Xm) (I : Im) (zx0 : Nat) (zt0 : okA E G 6 zx0) {rr : Int32 × Xm} (hf : m6_sortLast fl G.2.2 X I zx0 = some rr) : MT l yX6_sortLast cX6_sortLast 3 (some .int) ({ frames := 1, cells := 0, slots := 0, locals := 21 } : Room) E G I X [.ref zx0] (QI E G rr.1 I rr.2) 0 0 := by
  refine Met.ofW (cc := cX6_sortLast) (maxL := 3) (ret := (some .int)) (by decide +kernel) rfl ?_
  intro p e s m args below meth c s₁ B hml hv
  obtain ⟨rfl, hw0, hSE⟩ := hv
  have C0 : CX p s m ([.ref zx0] : List Value).toArray meth c E cX6_sortLast RX6 3 := ⟨B.exec, B.bytes, hml, findClass_of_methodNamed B.named, fun w hw => atoms_spec (ws := WS yX6_sortLast cX6_sortLast 3 (some .int)) B.pre w (List.mem_cons_of_mem _ hw), B.notSynchronized, hSE⟩
  have hz : s.heap.size + 0 ≤ eB E + G.1 := Nat.le_of_eq hw0.2.1
  have hw : WD E G I X s.heap s.heap [] := ⟨hw0, va_S.rf⟩
  have hr := B.returns
  have hx := C0.1; have hb := C0.2.1; have hml := C0.2.2.1; have hown := C0.2.2.2.1; have hts := C0.2.2.2.2.1
  have hl := lv_entry ([.ref zx0]) (n := 3) (Nat.le_of_ble_eq_true rfl)
  rw [lg_entry_eq]
  generalize (lg_sl ([.ref zx0]) ++ List.replicate (3 - (lg_sl ([.ref zx0])).length) Slot.unset).toArray = ls at hl ⊢
  have hl : lv_has ls 3 [(0, .ref zx0)] := hl
  unfold m6_sortLast at hf
  refine lv_aload_n hx hb dX6_sortLast_0 rfl (lv_at hl 0 rfl) ?_
  refine xg_6_1 C0 hw zt0 wd168 dX6_sortLast_1 ?_
  refine lv_iconst (v := (1 : Int32)) hx hb dX6_sortLast_4 (by decide) ?_
  refine lv_isub hx hb dX6_sortLast_5 ?_
  refine lv_topi (fun zv1 ezv1 => ?_)
  have hf := lt_at hf ezv1
  refine lv_istore_n (lv' := [(1, .int zv1), (0, .ref zx0)]) hx hb dX6_sortLast_6 rfl hl (by decide) rfl (fun ls hl => ?_)
  refine lv_aload_n hx hb dX6_sortLast_7 rfl (lv_at hl 1 rfl) ?_
  refine lv_iload_n hx hb dX6_sortLast_8 rfl (lv_at hl 0 rfl) ?_
  obtain ⟨zv2, ze3, hf⟩ := nn_some hf
  refine x_co (r := zv2) (I1 := I) (X1 := X) (x_runV (As := [.int zv1]) (rest := []) C0 (c6_cueAt l E G fl X I zx0 zv1 zt0 ze3) hw 6 zt0 (by decide) rfl wd28 wd222 wd223 wd224 wd146 ⟨rfl, rfl⟩ hy6_cueAt ⟨Nat.le_of_ble_eq_true rfl, Nat.le_of_ble_eq_true rfl⟩ rfl hl.1 (Nat.le_of_ble_eq_true rfl) ⟨Nat.zero_le _, Nat.zero_le _⟩ dX6_sortLast_9) hw (fun H locs hw tzv2 => ?_)
  refine x_astore_n (lv' := [(2, va_rf zv2), (1, .int zv1), (0, .ref zx0)]) C0 dX6_sortLast_12 rfl hl (by decide) rfl (fun ls hl => ?_)
  refine x_aload_n C0 dX6_sortLast_13 rfl (lv_at hl 0 rfl) ?_
  refine x_ifnonnull (tgt := 19) C0 dX6_sortLast_14 (by decide) (fun zc4 => ?_) (fun zc4 => ?_)
  · have hf := ite_f hf zc4
    exact w6_sortLast_19 C0 hr hz fl fl X _ _ _ zx0 zv1 zv2 zt0 tzv2 hw (lv_sub hl [2, 1, 0] rfl) hf
  · have hf := ite_t hf zc4
    refine lv_iconst (v := (-1 : Int32)) hx hb dX6_sortLast_17 (by decide) ?_
    obtain rfl := Option.some.inj hf
    exact x_iret C0 hr hw dX6_sortLast_18
noncomputable def m6_insertCue_19 (fl : Nat) (len : Nat → Nat) (I : Im) (X : Xm) : Option (Int32 × Im × Xm) :=
  some ((-4 : Int32), I, X)
set_option maxHeartbeats 4000000 in
set_option maxRecDepth 100000 in
theorem w6_insertCue_19 {p : Program} {l : Launch} {e : Env} {s : State} {m : MethodId} {args : Array Value} {below : List Frame} {meth : Method} {c : Code} {E : EN} {G : GM} (C0 : CX p s m args meth c E cX6_insertCue RX6 6) (hr : meth.sig.returnType = (some .int)) (hz : s.heap.size + 0 ≤ eB E + G.1) {rr : Int32 × Im × Xm} (fl : Nat) : ∀ (I : Im) (X : Xm) (H : Heap) (locs : List Loc) (ls : Array Slot) , WD E G I X s.heap H locs → lv_has ls 6 [] → m6_insertCue_19 fl G.2.2 I X = some rr → W p l e ({ frames := 2, cells := 0, slots := 0, locals := 43 } : Room) s m args below meth c H locs 0 0 (MQ below (QI E G rr.1 rr.2.1 rr.2.2) args s 0 0 (eA E)) (F0 m 19 ls []) := by
  intro I X H locs ls hw hl hf
  unfold m6_insertCue_19 at hf
  have hx := C0.1; have hb := C0.2.1; have hml := C0.2.2.1; have hown := C0.2.2.2.1; have hts := C0.2.2.2.2.1
  refine lv_bipush (v := (-4 : Int32)) hx hb dX6_insertCue_19 (by decide) ?_
  obtain rfl := Option.some.inj hf
  exact x_iret C0 hr hw dX6_insertCue_21
noncomputable def m6_insertCue (fl : Nat) (len : Nat → Nat) (X : Xm) (I : Im) (zx0 : Nat) (zx1 : Int32) (zx2 : Int32) (zx3 : Int32) (zx4 : Int32) : Option (Int32 × Im × Xm) :=
  if (gF I 97 zx0) < 0 then
    m6_insertCue_19 fl len I X
  else
    nn (gR X 96 zx0) fun zv2 =>
    if (gF I 97 zx0) < (nI (len zv2)) then
      ck (inb (gF I 97 zx0) (len zv2) = true) <|
      nn (gQ X zv2 ((gF I 97 zx0)).toNatClampNeg) fun zv5 =>
      lt (pF I 16 zv5 zx1) fun zI6 =>
      lt (pF zI6 17 zv5 zx2) fun zI7 =>
      lt (pF zI7 18 zv5 zx3) fun zI8 =>
      lt (pF zI8 19 zv5 zx4) fun zI9 =>
      lt (pF zI9 20 zv5 (0 : Int32)) fun zI10 =>
      lt (pF zI10 97 zx0 ((gF zI10 97 zx0) + (1 : Int32))) fun zI11 =>
      nn (m6_sortLast fl len X zI11 zx0) fun ⟨zv12, zX13⟩ =>
      some (zv12, zI11, zX13)
    else
      m6_insertCue_19 fl len I X
theorem hy6_insertCue : yX6_insertCue.cls = RX6 ∧ yX6_insertCue.cls ≠ "java/lang/invoke/MethodHandle" ∧ yX6_insertCue.cls ≠ "java/lang/invoke/VarHandle" ∧ (parseMethodDescriptor yX6_insertCue.desc).map (fun d => d.parameters.length) = some 4 := ⟨rfl, by decide +kernel, by decide +kernel, by decide +kernel⟩
set_option maxHeartbeats 4000000 in
set_option maxRecDepth 100000 in
theorem c6_insertCue (l : Launch) (E : EN) (G : GM) (fl : Nat) (X : Xm) (I : Im) (zx0 : Nat) (zx1 : Int32) (zx2 : Int32) (zx3 : Int32) (zx4 : Int32) (zt0 : okA E G 6 zx0) {rr : Int32 × Im × Xm} (hf : m6_insertCue fl G.2.2 X I zx0 zx1 zx2 zx3 zx4 = some rr) : MT l yX6_insertCue cX6_insertCue 6 (some .int) ({ frames := 2, cells := 0, slots := 0, locals := 43 } : Room) E G I X [.ref zx0, .int zx1, .int zx2, .int zx3, .int zx4] (QI E G rr.1 rr.2.1 rr.2.2) 0 0 := by
  refine Met.ofW (cc := cX6_insertCue) (maxL := 6) (ret := (some .int)) (by decide +kernel) rfl ?_
  intro p e s m args below meth c s₁ B hml hv
  obtain ⟨rfl, hw0, hSE⟩ := hv
  have C0 : CX p s m ([.ref zx0, .int zx1, .int zx2, .int zx3, .int zx4] : List Value).toArray meth c E cX6_insertCue RX6 6 := ⟨B.exec, B.bytes, hml, findClass_of_methodNamed B.named, fun w hw => atoms_spec (ws := WS yX6_insertCue cX6_insertCue 6 (some .int)) B.pre w (List.mem_cons_of_mem _ hw), B.notSynchronized, hSE⟩
  have hz : s.heap.size + 0 ≤ eB E + G.1 := Nat.le_of_eq hw0.2.1
  have hw : WD E G I X s.heap s.heap [] := ⟨hw0, va_S.rf⟩
  have hr := B.returns
  have hx := C0.1; have hb := C0.2.1; have hml := C0.2.2.1; have hown := C0.2.2.2.1; have hts := C0.2.2.2.2.1
  have hl := lv_entry ([.ref zx0, .int zx1, .int zx2, .int zx3, .int zx4]) (n := 6) (Nat.le_of_ble_eq_true rfl)
  rw [lg_entry_eq]
  generalize (lg_sl ([.ref zx0, .int zx1, .int zx2, .int zx3, .int zx4]) ++ List.replicate (6 - (lg_sl ([.ref zx0, .int zx1, .int zx2, .int zx3, .int zx4])).length) Slot.unset).toArray = ls at hl ⊢
  have hl : lv_has ls 6 [(0, .ref zx0), (1, .int zx1), (2, .int zx2), (3, .int zx3), (4, .int zx4)] := hl
  unfold m6_insertCue at hf
  refine lv_aload_n hx hb dX6_insertCue_0 rfl (lv_at hl 0 rfl) ?_
  refine xg_6_1 C0 hw zt0 wd168 dX6_insertCue_1 ?_
  refine lv_if_lt (tgt := 19) hx hb dX6_insertCue_4 (by decide) (fun zc1 => ?_) (fun zc1 => ?_)
  · have hf := ite_t hf zc1
    exact w6_insertCue_19 C0 hr hz fl I X _ _ _ hw (lv_sub hl [] rfl) hf
  · have hf := ite_f hf zc1
    refine lv_aload_n hx hb dX6_insertCue_7 rfl (lv_at hl 0 rfl) ?_
    refine xg_6_1 C0 hw zt0 wd168 dX6_insertCue_8 ?_
    refine lv_aload_n hx hb dX6_insertCue_11 rfl (lv_at hl 0 rfl) ?_
    obtain ⟨zv2, ezv2, hf⟩ := nn_some hf
    have tzv2 : okA E G 14 zv2 := wt_r hw ezv2
    refine xg_6_0 C0 hw zt0 wd130 ezv2 dX6_insertCue_12 ?_
    refine x_alen C0 hw 14 tzv2 (by decide) rfl dX6_insertCue_15 ?_
    refine lv_icmp_lt (tgt := 22) hx hb dX6_insertCue_16 (by decide) (fun zc3 => ?_) (fun zc3 => ?_)
    · have hf := ite_t hf zc3
      refine lv_aload_n hx hb dX6_insertCue_22 rfl (lv_at hl 0 rfl) ?_
      refine xg_6_0 C0 hw zt0 wd130 ezv2 dX6_insertCue_23 ?_
      refine lv_aload_n hx hb dX6_insertCue_26 rfl (lv_at hl 0 rfl) ?_
      refine xg_6_1 C0 hw zt0 wd168 dX6_insertCue_27 ?_
      obtain ⟨zhb4, hf⟩ := ck_some hf
      obtain ⟨zv5, ezv5, hf⟩ := nn_some hf
      have tzv5 : okA E G 1 zv5 := wt_q hw tzv2 ezv5
      refine x_qald C0 hw 14 tzv2 (by decide) rfl zhb4 ezv5 dX6_insertCue_30 ?_
      refine lv_astore (lv' := [(5, .ref zv5), (0, .ref zx0), (1, .int zx1), (2, .int zx2), (3, .int zx3), (4, .int zx4)]) hx hb dX6_insertCue_31 hl (by decide) rfl (fun ls hl => ?_)
      refine lv_aload hx hb dX6_insertCue_33 (lv_at hl 0 rfl) ?_
      refine lv_iload_n hx hb dX6_insertCue_35 rfl (lv_at hl 2 rfl) ?_
      obtain ⟨zI6, ezI6⟩ : ∃ y : Im, y = pF I 16 zv5 zx1 := ⟨_, rfl⟩
      have hf := lt_at hf ezI6
      refine xp_1_0 C0 hz hw tzv5 rfl rfl wd221 dX6_insertCue_36 ezI6 (fun H locs hw => ?_)
      refine lv_aload hx hb dX6_insertCue_39 (lv_at hl 0 rfl) ?_
      refine lv_iload_n hx hb dX6_insertCue_41 rfl (lv_at hl 3 rfl) ?_
      obtain ⟨zI7, ezI7⟩ : ∃ y : Im, y = pF zI6 17 zv5 zx2 := ⟨_, rfl⟩
      have hf := lt_at hf ezI7
      refine xp_1_1 C0 hz hw tzv5 rfl rfl wd225 dX6_insertCue_42 ezI7 (fun H locs hw => ?_)
      refine lv_aload hx hb dX6_insertCue_45 (lv_at hl 0 rfl) ?_
      refine lv_iload_n hx hb dX6_insertCue_47 rfl (lv_at hl 4 rfl) ?_
      obtain ⟨zI8, ezI8⟩ : ∃ y : Im, y = pF zI7 18 zv5 zx3 := ⟨_, rfl⟩
      have hf := lt_at hf ezI8
      refine xp_1_2 C0 hz hw tzv5 rfl rfl wd226 dX6_insertCue_48 ezI8 (fun H locs hw => ?_)
      refine lv_aload hx hb dX6_insertCue_51 (lv_at hl 0 rfl) ?_
      refine lv_iload hx hb dX6_insertCue_53 (lv_at hl 5 rfl) ?_
      obtain ⟨zI9, ezI9⟩ : ∃ y : Im, y = pF zI8 19 zv5 zx4 := ⟨_, rfl⟩
      have hf := lt_at hf ezI9
      refine xp_1_3 C0 hz hw tzv5 rfl rfl wd227 dX6_insertCue_55 ezI9 (fun H locs hw => ?_)
      refine lv_aload hx hb dX6_insertCue_58 (lv_at hl 0 rfl) ?_
      refine lv_iconst (v := (0 : Int32)) hx hb dX6_insertCue_60 (by decide) ?_
      obtain ⟨zI10, ezI10⟩ : ∃ y : Im, y = pF zI9 20 zv5 (0 : Int32) := ⟨_, rfl⟩
      have hf := lt_at hf ezI10
      refine xp_1_4 C0 hz hw tzv5 rfl rfl wd228 dX6_insertCue_61 ezI10 (fun H locs hw => ?_)
      refine lv_aload_n hx hb dX6_insertCue_64 rfl (lv_at hl 1 rfl) ?_
      refine lv_dup hx hb dX6_insertCue_65 rfl ?_
      refine xg_6_1 C0 hw zt0 wd168 dX6_insertCue_66 ?_
      refine lv_iconst (v := (1 : Int32)) hx hb dX6_insertCue_69 (by decide) ?_
      refine lv_iadd hx hb dX6_insertCue_70 ?_
      obtain ⟨zI11, ezI11⟩ : ∃ y : Im, y = pF zI10 97 zx0 ((gF zI10 97 zx0) + (1 : Int32)) := ⟨_, rfl⟩
      have hf := lt_at hf ezI11
      refine xp_6_1 C0 hz hw zt0 rfl rfl wd168 dX6_insertCue_71 ezI11 (fun H locs hw => ?_)
      refine lv_aload_n hx hb dX6_insertCue_74 rfl (lv_at hl 1 rfl) ?_
      obtain ⟨⟨zv12, zX13⟩, ze14, hf⟩ := nn_some hf
      refine x_ci (r := zv12) (I1 := zI11) (X1 := zX13) (x_runV (As := []) (rest := []) C0 (c6_sortLast l E G fl X zI11 zx0 zt0 ze14) hw 6 zt0 (by decide) rfl wd29 wd229 wd230 wd231 wd146 ⟨rfl, rfl⟩ hy6_sortLast ⟨Nat.le_of_ble_eq_true rfl, Nat.le_of_ble_eq_true rfl⟩ rfl hl.1 (Nat.le_of_ble_eq_true rfl) ⟨Nat.zero_le _, Nat.zero_le _⟩ dX6_insertCue_75) hw (fun H locs hw => ?_)
      obtain rfl := Option.some.inj hf
      exact x_iret C0 hr hw dX6_insertCue_78
    · have hf := ite_f hf zc3
      exact w6_insertCue_19 C0 hr hz fl I X _ _ _ hw (lv_sub hl [] rfl) hf
noncomputable def m4_addCue_83 (fl : Nat) (len : Nat → Nat) (I : Im) (X : Xm) (zx0 : Nat) (zx1 : Int32) (zx2 : Int32) (zx3 : Int32) (zx4 : Int32) : Option (Int32 × Im × Xm) :=
  if (gF I 72 zx0) ≤ zx1 then
    nn (gR X 65 zx0) fun zv2 =>
    nn (m6_insertCue fl len X I zv2 zx1 zx2 zx3 zx4) fun ⟨zv3, zI4, zX5⟩ =>
    some (zv3, zI4, zX5)
  else
    some ((-5 : Int32), I, X)
set_option maxHeartbeats 4000000 in
set_option maxRecDepth 100000 in
theorem w4_addCue_83 {p : Program} {l : Launch} {e : Env} {s : State} {m : MethodId} {args : Array Value} {below : List Frame} {meth : Method} {c : Code} {E : EN} {G : GM} (C0 : CX p s m args meth c E cX4_addCue RX4 5) (hr : meth.sig.returnType = (some .int)) (hz : s.heap.size + 0 ≤ eB E + G.1) {rr : Int32 × Im × Xm} (fl : Nat) : ∀ (I : Im) (X : Xm) (H : Heap) (locs : List Loc) (ls : Array Slot) (zx0 : Nat) (zx1 : Int32) (zx2 : Int32) (zx3 : Int32) (zx4 : Int32) (zt0 : okA E G 4 zx0), WD E G I X s.heap H locs → lv_has ls 5 [(0, .ref zx0), (1, .int zx1), (2, .int zx2), (3, .int zx3), (4, .int zx4)] → m4_addCue_83 fl G.2.2 I X zx0 zx1 zx2 zx3 zx4 = some rr → W p l e ({ frames := 3, cells := 0, slots := 0, locals := 68 } : Room) s m args below meth c H locs 0 0 (MQ below (QI E G rr.1 rr.2.1 rr.2.2) args s 0 0 (eA E)) (F0 m 83 ls []) := by
  intro I X H locs ls zx0 zx1 zx2 zx3 zx4 zt0 hw hl hf
  unfold m4_addCue_83 at hf
  have hx := C0.1; have hb := C0.2.1; have hml := C0.2.2.1; have hown := C0.2.2.2.1; have hts := C0.2.2.2.2.1
  refine lv_iload_n hx hb dX4_addCue_83 rfl (lv_at hl 1 rfl) ?_
  refine lv_aload_n hx hb dX4_addCue_84 rfl (lv_at hl 0 rfl) ?_
  refine xg_4_8 C0 hw zt0 wd183 dX4_addCue_85 ?_
  refine lv_icmp_ge (tgt := 94) hx hb dX4_addCue_88 (by decide) (fun zc1 => ?_) (fun zc1 => ?_)
  · have hf := ite_t hf zc1
    refine lv_aload_n hx hb dX4_addCue_94 rfl (lv_at hl 0 rfl) ?_
    obtain ⟨zv2, ezv2, hf⟩ := nn_some hf
    have tzv2 : okA E G 6 zv2 := wt_r hw ezv2
    refine xg_4_1 C0 hw zt0 wd147 ezv2 dX4_addCue_95 ?_
    refine lv_iload_n hx hb dX4_addCue_98 rfl (lv_at hl 1 rfl) ?_
    refine lv_iload_n hx hb dX4_addCue_99 rfl (lv_at hl 2 rfl) ?_
    refine lv_iload_n hx hb dX4_addCue_100 rfl (lv_at hl 3 rfl) ?_
    refine lv_iload hx hb dX4_addCue_101 (lv_at hl 4 rfl) ?_
    obtain ⟨⟨zv3, zI4, zX5⟩, ze6, hf⟩ := nn_some hf
    refine x_ci (r := zv3) (I1 := zI4) (X1 := zX5) (x_runV (As := [.int zx1, .int zx2, .int zx3, .int zx4]) (rest := []) C0 (c6_insertCue l E G fl X I zv2 zx1 zx2 zx3 zx4 tzv2 ze6) hw 6 tzv2 (by decide) rfl wd30 wd235 wd236 wd237 wd146 ⟨rfl, rfl⟩ hy6_insertCue ⟨Nat.le_of_ble_eq_true rfl, Nat.le_of_ble_eq_true rfl⟩ rfl hl.1 (Nat.le_of_ble_eq_true rfl) ⟨Nat.zero_le _, Nat.zero_le _⟩ dX4_addCue_103) hw (fun H locs hw => ?_)
    obtain rfl := Option.some.inj hf
    exact x_iret C0 hr hw dX4_addCue_106
  · have hf := ite_f hf zc1
    refine lv_bipush (v := (-5 : Int32)) hx hb dX4_addCue_91 (by decide) ?_
    obtain rfl := Option.some.inj hf
    exact x_iret C0 hr hw dX4_addCue_93
noncomputable def m4_addCue_80 (fl : Nat) (len : Nat → Nat) (I : Im) (X : Xm) : Option (Int32 × Im × Xm) :=
  some ((-2 : Int32), I, X)
set_option maxHeartbeats 4000000 in
set_option maxRecDepth 100000 in
theorem w4_addCue_80 {p : Program} {l : Launch} {e : Env} {s : State} {m : MethodId} {args : Array Value} {below : List Frame} {meth : Method} {c : Code} {E : EN} {G : GM} (C0 : CX p s m args meth c E cX4_addCue RX4 5) (hr : meth.sig.returnType = (some .int)) (hz : s.heap.size + 0 ≤ eB E + G.1) {rr : Int32 × Im × Xm} (fl : Nat) : ∀ (I : Im) (X : Xm) (H : Heap) (locs : List Loc) (ls : Array Slot) , WD E G I X s.heap H locs → lv_has ls 5 [] → m4_addCue_80 fl G.2.2 I X = some rr → W p l e ({ frames := 3, cells := 0, slots := 0, locals := 68 } : Room) s m args below meth c H locs 0 0 (MQ below (QI E G rr.1 rr.2.1 rr.2.2) args s 0 0 (eA E)) (F0 m 80 ls []) := by
  intro I X H locs ls hw hl hf
  unfold m4_addCue_80 at hf
  have hx := C0.1; have hb := C0.2.1; have hml := C0.2.2.1; have hown := C0.2.2.2.1; have hts := C0.2.2.2.2.1
  refine lv_bipush (v := (-2 : Int32)) hx hb dX4_addCue_80 (by decide) ?_
  obtain rfl := Option.some.inj hf
  exact x_iret C0 hr hw dX4_addCue_82
noncomputable def m4_addCue_64 (fl : Nat) (len : Nat → Nat) (I : Im) (X : Xm) (zx0 : Nat) (zx1 : Int32) (zx2 : Int32) (zx3 : Int32) (zx4 : Int32) : Option (Int32 × Im × Xm) :=
  if zx2 = (2 : Int32) then
    nn (m8_within fl len X I zx4 (0 : Int32) (100 : Int32)) fun zv2 =>
    if zv2 = 0 then
      m4_addCue_80 fl len I X
    else
      m4_addCue_83 fl len I X zx0 zx1 zx2 zx3 zx4
  else
    m4_addCue_83 fl len I X zx0 zx1 zx2 zx3 zx4
set_option maxHeartbeats 4000000 in
set_option maxRecDepth 100000 in
theorem w4_addCue_64 {p : Program} {l : Launch} {e : Env} {s : State} {m : MethodId} {args : Array Value} {below : List Frame} {meth : Method} {c : Code} {E : EN} {G : GM} (C0 : CX p s m args meth c E cX4_addCue RX4 5) (hr : meth.sig.returnType = (some .int)) (hz : s.heap.size + 0 ≤ eB E + G.1) {rr : Int32 × Im × Xm} (fl : Nat) : ∀ (I : Im) (X : Xm) (H : Heap) (locs : List Loc) (ls : Array Slot) (zx0 : Nat) (zx1 : Int32) (zx2 : Int32) (zx3 : Int32) (zx4 : Int32) (zt0 : okA E G 4 zx0), WD E G I X s.heap H locs → lv_has ls 5 [(0, .ref zx0), (1, .int zx1), (2, .int zx2), (3, .int zx3), (4, .int zx4)] → m4_addCue_64 fl G.2.2 I X zx0 zx1 zx2 zx3 zx4 = some rr → W p l e ({ frames := 3, cells := 0, slots := 0, locals := 68 } : Room) s m args below meth c H locs 0 0 (MQ below (QI E G rr.1 rr.2.1 rr.2.2) args s 0 0 (eA E)) (F0 m 64 ls []) := by
  intro I X H locs ls zx0 zx1 zx2 zx3 zx4 zt0 hw hl hf
  unfold m4_addCue_64 at hf
  have hx := C0.1; have hb := C0.2.1; have hml := C0.2.2.1; have hown := C0.2.2.2.1; have hts := C0.2.2.2.2.1
  refine lv_iload_n hx hb dX4_addCue_64 rfl (lv_at hl 2 rfl) ?_
  refine lv_iconst (v := (2 : Int32)) hx hb dX4_addCue_65 (by decide) ?_
  refine lv_icmp_ne (tgt := 83) hx hb dX4_addCue_66 (by decide) (fun zc1 => ?_) (fun zc1 => ?_)
  · have hf := ite_f hf zc1
    exact w4_addCue_83 C0 hr hz fl I X _ _ _ zx0 zx1 zx2 zx3 zx4 zt0 hw (lv_sub hl [0, 1, 2, 3, 4] rfl) hf
  · have hf := ite_t hf zc1
    refine lv_iload hx hb dX4_addCue_69 (lv_at hl 4 rfl) ?_
    refine lv_iconst (v := (0 : Int32)) hx hb dX4_addCue_71 (by decide) ?_
    refine lv_bipush (v := (100 : Int32)) hx hb dX4_addCue_72 (by decide) ?_
    obtain ⟨zv2, ze3, hf⟩ := nn_some hf
    refine x_ci (r := zv2) (I1 := I) (X1 := X) (x_runSN (As := [.int zx4, .int (0 : Int32), .int (100 : Int32)]) (rest := []) (host := "RadioCues") C0 (c8_within l E G fl X I zx4 (0 : Int32) (100 : Int32) ze3) hw wd20 (List.mem_of_getElem? (i := 5) rfl) wd203 wd107 ⟨rfl, rfl⟩ hy8_within.2 ⟨Nat.le_of_ble_eq_true rfl, Nat.le_of_ble_eq_true rfl⟩ rfl hl.1 (Nat.le_of_ble_eq_true rfl) ⟨Nat.zero_le _, Nat.zero_le _⟩ dX4_addCue_74) hw (fun H locs hw => ?_)
    refine lv_if_ne (tgt := 83) hx hb dX4_addCue_77 (by decide) (fun zc4 => ?_) (fun zc4 => ?_)
    · have hf := ite_f hf zc4
      exact w4_addCue_83 C0 hr hz fl I X _ _ _ zx0 zx1 zx2 zx3 zx4 zt0 hw (lv_sub hl [0, 1, 2, 3, 4] rfl) hf
    · have hf := ite_t hf zc4
      exact w4_addCue_80 C0 hr hz fl I X _ _ _ hw (lv_sub hl [] rfl) hf
noncomputable def m4_addCue_48 (fl : Nat) (len : Nat → Nat) (I : Im) (X : Xm) (zx0 : Nat) (zx1 : Int32) (zx2 : Int32) (zx3 : Int32) (zx4 : Int32) : Option (Int32 × Im × Xm) :=
  if zx2 = (1 : Int32) then
    nn (m8_within fl len X I zx4 (1 : Int32) (99 : Int32)) fun zv2 =>
    if zv2 = 0 then
      m4_addCue_80 fl len I X
    else
      m4_addCue_64 fl len I X zx0 zx1 zx2 zx3 zx4
  else
    m4_addCue_64 fl len I X zx0 zx1 zx2 zx3 zx4
set_option maxHeartbeats 4000000 in
set_option maxRecDepth 100000 in
theorem w4_addCue_48 {p : Program} {l : Launch} {e : Env} {s : State} {m : MethodId} {args : Array Value} {below : List Frame} {meth : Method} {c : Code} {E : EN} {G : GM} (C0 : CX p s m args meth c E cX4_addCue RX4 5) (hr : meth.sig.returnType = (some .int)) (hz : s.heap.size + 0 ≤ eB E + G.1) {rr : Int32 × Im × Xm} (fl : Nat) : ∀ (I : Im) (X : Xm) (H : Heap) (locs : List Loc) (ls : Array Slot) (zx0 : Nat) (zx1 : Int32) (zx2 : Int32) (zx3 : Int32) (zx4 : Int32) (zt0 : okA E G 4 zx0), WD E G I X s.heap H locs → lv_has ls 5 [(0, .ref zx0), (1, .int zx1), (2, .int zx2), (3, .int zx3), (4, .int zx4)] → m4_addCue_48 fl G.2.2 I X zx0 zx1 zx2 zx3 zx4 = some rr → W p l e ({ frames := 3, cells := 0, slots := 0, locals := 68 } : Room) s m args below meth c H locs 0 0 (MQ below (QI E G rr.1 rr.2.1 rr.2.2) args s 0 0 (eA E)) (F0 m 48 ls []) := by
  intro I X H locs ls zx0 zx1 zx2 zx3 zx4 zt0 hw hl hf
  unfold m4_addCue_48 at hf
  have hx := C0.1; have hb := C0.2.1; have hml := C0.2.2.1; have hown := C0.2.2.2.1; have hts := C0.2.2.2.2.1
  refine lv_iload_n hx hb dX4_addCue_48 rfl (lv_at hl 2 rfl) ?_
  refine lv_iconst (v := (1 : Int32)) hx hb dX4_addCue_49 (by decide) ?_
  refine lv_icmp_ne (tgt := 64) hx hb dX4_addCue_50 (by decide) (fun zc1 => ?_) (fun zc1 => ?_)
  · have hf := ite_f hf zc1
    exact w4_addCue_64 C0 hr hz fl I X _ _ _ zx0 zx1 zx2 zx3 zx4 zt0 hw (lv_sub hl [0, 1, 2, 3, 4] rfl) hf
  · have hf := ite_t hf zc1
    refine lv_iload hx hb dX4_addCue_53 (lv_at hl 4 rfl) ?_
    refine lv_iconst (v := (1 : Int32)) hx hb dX4_addCue_55 (by decide) ?_
    refine lv_bipush (v := (99 : Int32)) hx hb dX4_addCue_56 (by decide) ?_
    obtain ⟨zv2, ze3, hf⟩ := nn_some hf
    refine x_ci (r := zv2) (I1 := I) (X1 := X) (x_runSN (As := [.int zx4, .int (1 : Int32), .int (99 : Int32)]) (rest := []) (host := "RadioCues") C0 (c8_within l E G fl X I zx4 (1 : Int32) (99 : Int32) ze3) hw wd20 (List.mem_of_getElem? (i := 5) rfl) wd203 wd107 ⟨rfl, rfl⟩ hy8_within.2 ⟨Nat.le_of_ble_eq_true rfl, Nat.le_of_ble_eq_true rfl⟩ rfl hl.1 (Nat.le_of_ble_eq_true rfl) ⟨Nat.zero_le _, Nat.zero_le _⟩ dX4_addCue_58) hw (fun H locs hw => ?_)
    refine lv_if_eq (tgt := 80) hx hb dX4_addCue_61 (by decide) (fun zc4 => ?_) (fun zc4 => ?_)
    · have hf := ite_t hf zc4
      exact w4_addCue_80 C0 hr hz fl I X _ _ _ hw (lv_sub hl [] rfl) hf
    · have hf := ite_f hf zc4
      exact w4_addCue_64 C0 hr hz fl I X _ _ _ zx0 zx1 zx2 zx3 zx4 zt0 hw (lv_sub hl [0, 1, 2, 3, 4] rfl) hf
noncomputable def m4_addCue_46 (fl : Nat) (len : Nat → Nat) (I : Im) (X : Xm) : Option (Int32 × Im × Xm) :=
  some ((-1 : Int32), I, X)
set_option maxHeartbeats 4000000 in
set_option maxRecDepth 100000 in
theorem w4_addCue_46 {p : Program} {l : Launch} {e : Env} {s : State} {m : MethodId} {args : Array Value} {below : List Frame} {meth : Method} {c : Code} {E : EN} {G : GM} (C0 : CX p s m args meth c E cX4_addCue RX4 5) (hr : meth.sig.returnType = (some .int)) (hz : s.heap.size + 0 ≤ eB E + G.1) {rr : Int32 × Im × Xm} (fl : Nat) : ∀ (I : Im) (X : Xm) (H : Heap) (locs : List Loc) (ls : Array Slot) , WD E G I X s.heap H locs → lv_has ls 5 [] → m4_addCue_46 fl G.2.2 I X = some rr → W p l e ({ frames := 3, cells := 0, slots := 0, locals := 68 } : Room) s m args below meth c H locs 0 0 (MQ below (QI E G rr.1 rr.2.1 rr.2.2) args s 0 0 (eA E)) (F0 m 46 ls []) := by
  intro I X H locs ls hw hl hf
  unfold m4_addCue_46 at hf
  have hx := C0.1; have hb := C0.2.1; have hml := C0.2.2.1; have hown := C0.2.2.2.1; have hts := C0.2.2.2.2.1
  refine lv_iconst (v := (-1 : Int32)) hx hb dX4_addCue_46 (by decide) ?_
  obtain rfl := Option.some.inj hf
  exact x_iret C0 hr hw dX4_addCue_47
noncomputable def m4_addCue_20 (fl : Nat) (len : Nat → Nat) (I : Im) (X : Xm) : Option (Int32 × Im × Xm) :=
  some ((-2 : Int32), I, X)
set_option maxHeartbeats 4000000 in
set_option maxRecDepth 100000 in
theorem w4_addCue_20 {p : Program} {l : Launch} {e : Env} {s : State} {m : MethodId} {args : Array Value} {below : List Frame} {meth : Method} {c : Code} {E : EN} {G : GM} (C0 : CX p s m args meth c E cX4_addCue RX4 5) (hr : meth.sig.returnType = (some .int)) (hz : s.heap.size + 0 ≤ eB E + G.1) {rr : Int32 × Im × Xm} (fl : Nat) : ∀ (I : Im) (X : Xm) (H : Heap) (locs : List Loc) (ls : Array Slot) , WD E G I X s.heap H locs → lv_has ls 5 [] → m4_addCue_20 fl G.2.2 I X = some rr → W p l e ({ frames := 3, cells := 0, slots := 0, locals := 68 } : Room) s m args below meth c H locs 0 0 (MQ below (QI E G rr.1 rr.2.1 rr.2.2) args s 0 0 (eA E)) (F0 m 20 ls []) := by
  intro I X H locs ls hw hl hf
  unfold m4_addCue_20 at hf
  have hx := C0.1; have hb := C0.2.1; have hml := C0.2.2.1; have hown := C0.2.2.2.1; have hts := C0.2.2.2.2.1
  refine lv_bipush (v := (-2 : Int32)) hx hb dX4_addCue_20 (by decide) ?_
  obtain rfl := Option.some.inj hf
  exact x_iret C0 hr hw dX4_addCue_22
noncomputable def m4_addCue (fl : Nat) (len : Nat → Nat) (X : Xm) (I : Im) (zx0 : Nat) (zx1 : Int32) (zx2 : Int32) (zx3 : Int32) (zx4 : Int32) : Option (Int32 × Im × Xm) :=
  nn (m8_within fl len X I zx1 (0 : Int32) (999 : Int32)) fun zv1 =>
  if zv1 = 0 then
    m4_addCue_20 fl len I X
  else
    nn (m8_within fl len X I zx2 (0 : Int32) (2 : Int32)) fun zv4 =>
    if zv4 = 0 then
      m4_addCue_20 fl len I X
    else
      nn (m8_within fl len X I zx3 (0 : Int32) (3 : Int32)) fun zv7 =>
      if zv7 = 0 then
        m4_addCue_46 fl len I X
      else
        if zx2 = 0 then
          nn (m4_soundAt fl len X I zx0 zx3 zx4) fun zv11 =>
          if zv11 = none then
            m4_addCue_46 fl len I X
          else
            m4_addCue_48 fl len I X zx0 zx1 zx2 zx3 zx4
        else
          m4_addCue_48 fl len I X zx0 zx1 zx2 zx3 zx4
theorem hy4_addCue : yX4_addCue.cls = RX4 ∧ yX4_addCue.cls ≠ "java/lang/invoke/MethodHandle" ∧ yX4_addCue.cls ≠ "java/lang/invoke/VarHandle" ∧ (parseMethodDescriptor yX4_addCue.desc).map (fun d => d.parameters.length) = some 4 := ⟨rfl, by decide +kernel, by decide +kernel, by decide +kernel⟩
set_option maxHeartbeats 4000000 in
set_option maxRecDepth 100000 in
theorem c4_addCue (l : Launch) (E : EN) (G : GM) (fl : Nat) (X : Xm) (I : Im) (zx0 : Nat) (zx1 : Int32) (zx2 : Int32) (zx3 : Int32) (zx4 : Int32) (zt0 : okA E G 4 zx0) {rr : Int32 × Im × Xm} (hf : m4_addCue fl G.2.2 X I zx0 zx1 zx2 zx3 zx4 = some rr) : MT l yX4_addCue cX4_addCue 5 (some .int) ({ frames := 3, cells := 0, slots := 0, locals := 68 } : Room) E G I X [.ref zx0, .int zx1, .int zx2, .int zx3, .int zx4] (QI E G rr.1 rr.2.1 rr.2.2) 0 0 := by
  refine Met.ofW (cc := cX4_addCue) (maxL := 5) (ret := (some .int)) (by decide +kernel) rfl ?_
  intro p e s m args below meth c s₁ B hml hv
  obtain ⟨rfl, hw0, hSE⟩ := hv
  have C0 : CX p s m ([.ref zx0, .int zx1, .int zx2, .int zx3, .int zx4] : List Value).toArray meth c E cX4_addCue RX4 5 := ⟨B.exec, B.bytes, hml, findClass_of_methodNamed B.named, fun w hw => atoms_spec (ws := WS yX4_addCue cX4_addCue 5 (some .int)) B.pre w (List.mem_cons_of_mem _ hw), B.notSynchronized, hSE⟩
  have hz : s.heap.size + 0 ≤ eB E + G.1 := Nat.le_of_eq hw0.2.1
  have hw : WD E G I X s.heap s.heap [] := ⟨hw0, va_S.rf⟩
  have hr := B.returns
  have hx := C0.1; have hb := C0.2.1; have hml := C0.2.2.1; have hown := C0.2.2.2.1; have hts := C0.2.2.2.2.1
  have hl := lv_entry ([.ref zx0, .int zx1, .int zx2, .int zx3, .int zx4]) (n := 5) (Nat.le_of_ble_eq_true rfl)
  rw [lg_entry_eq]
  generalize (lg_sl ([.ref zx0, .int zx1, .int zx2, .int zx3, .int zx4]) ++ List.replicate (5 - (lg_sl ([.ref zx0, .int zx1, .int zx2, .int zx3, .int zx4])).length) Slot.unset).toArray = ls at hl ⊢
  have hl : lv_has ls 5 [(0, .ref zx0), (1, .int zx1), (2, .int zx2), (3, .int zx3), (4, .int zx4)] := hl
  unfold m4_addCue at hf
  refine lv_iload_n hx hb dX4_addCue_0 rfl (lv_at hl 1 rfl) ?_
  refine lv_iconst (v := (0 : Int32)) hx hb dX4_addCue_1 (by decide) ?_
  refine lv_sipush (v := (999 : Int32)) hx hb dX4_addCue_2 (by decide) ?_
  obtain ⟨zv1, ze2, hf⟩ := nn_some hf
  refine x_ci (r := zv1) (I1 := I) (X1 := X) (x_runSN (As := [.int zx1, .int (0 : Int32), .int (999 : Int32)]) (rest := []) (host := "RadioCues") C0 (c8_within l E G fl X I zx1 (0 : Int32) (999 : Int32) ze2) hw wd20 (List.mem_of_getElem? (i := 5) rfl) wd203 wd107 ⟨rfl, rfl⟩ hy8_within.2 ⟨Nat.le_of_ble_eq_true rfl, Nat.le_of_ble_eq_true rfl⟩ rfl hl.1 (Nat.le_of_ble_eq_true rfl) ⟨Nat.zero_le _, Nat.zero_le _⟩ dX4_addCue_5) hw (fun H locs hw => ?_)
  refine lv_if_eq (tgt := 20) hx hb dX4_addCue_8 (by decide) (fun zc3 => ?_) (fun zc3 => ?_)
  · have hf := ite_t hf zc3
    exact w4_addCue_20 C0 hr hz fl I X _ _ _ hw (lv_sub hl [] rfl) hf
  · have hf := ite_f hf zc3
    refine lv_iload_n hx hb dX4_addCue_11 rfl (lv_at hl 2 rfl) ?_
    refine lv_iconst (v := (0 : Int32)) hx hb dX4_addCue_12 (by decide) ?_
    refine lv_iconst (v := (2 : Int32)) hx hb dX4_addCue_13 (by decide) ?_
    obtain ⟨zv4, ze5, hf⟩ := nn_some hf
    refine x_ci (r := zv4) (I1 := I) (X1 := X) (x_runSN (As := [.int zx2, .int (0 : Int32), .int (2 : Int32)]) (rest := []) (host := "RadioCues") C0 (c8_within l E G fl X I zx2 (0 : Int32) (2 : Int32) ze5) hw wd20 (List.mem_of_getElem? (i := 5) rfl) wd203 wd107 ⟨rfl, rfl⟩ hy8_within.2 ⟨Nat.le_of_ble_eq_true rfl, Nat.le_of_ble_eq_true rfl⟩ rfl hl.1 (Nat.le_of_ble_eq_true rfl) ⟨Nat.zero_le _, Nat.zero_le _⟩ dX4_addCue_14) hw (fun H locs hw => ?_)
    refine lv_if_ne (tgt := 23) hx hb dX4_addCue_17 (by decide) (fun zc6 => ?_) (fun zc6 => ?_)
    · have hf := ite_f hf zc6
      refine lv_iload_n hx hb dX4_addCue_23 rfl (lv_at hl 3 rfl) ?_
      refine lv_iconst (v := (0 : Int32)) hx hb dX4_addCue_24 (by decide) ?_
      refine lv_iconst (v := (3 : Int32)) hx hb dX4_addCue_25 (by decide) ?_
      obtain ⟨zv7, ze8, hf⟩ := nn_some hf
      refine x_ci (r := zv7) (I1 := I) (X1 := X) (x_runSN (As := [.int zx3, .int (0 : Int32), .int (3 : Int32)]) (rest := []) (host := "RadioCues") C0 (c8_within l E G fl X I zx3 (0 : Int32) (3 : Int32) ze8) hw wd20 (List.mem_of_getElem? (i := 5) rfl) wd203 wd107 ⟨rfl, rfl⟩ hy8_within.2 ⟨Nat.le_of_ble_eq_true rfl, Nat.le_of_ble_eq_true rfl⟩ rfl hl.1 (Nat.le_of_ble_eq_true rfl) ⟨Nat.zero_le _, Nat.zero_le _⟩ dX4_addCue_26) hw (fun H locs hw => ?_)
      refine lv_if_eq (tgt := 46) hx hb dX4_addCue_29 (by decide) (fun zc9 => ?_) (fun zc9 => ?_)
      · have hf := ite_t hf zc9
        exact w4_addCue_46 C0 hr hz fl I X _ _ _ hw (lv_sub hl [] rfl) hf
      · have hf := ite_f hf zc9
        refine lv_iload_n hx hb dX4_addCue_32 rfl (lv_at hl 2 rfl) ?_
        refine lv_if_ne (tgt := 48) hx hb dX4_addCue_33 (by decide) (fun zc10 => ?_) (fun zc10 => ?_)
        · have hf := ite_f hf zc10
          exact w4_addCue_48 C0 hr hz fl I X _ _ _ zx0 zx1 zx2 zx3 zx4 zt0 hw (lv_sub hl [0, 1, 2, 3, 4] rfl) hf
        · have hf := ite_t hf zc10
          refine lv_aload_n hx hb dX4_addCue_36 rfl (lv_at hl 0 rfl) ?_
          refine lv_iload_n hx hb dX4_addCue_37 rfl (lv_at hl 3 rfl) ?_
          refine lv_iload hx hb dX4_addCue_38 (lv_at hl 4 rfl) ?_
          obtain ⟨zv11, ze12, hf⟩ := nn_some hf
          refine x_co (r := zv11) (I1 := I) (X1 := X) (x_runV (As := [.int zx3, .int zx4]) (rest := []) C0 (c4_soundAt l E G fl X I zx0 zx3 zx4 zt0 ze12) hw 4 zt0 (by decide) rfl wd27 wd232 wd233 wd234 wd202 ⟨rfl, rfl⟩ hy4_soundAt ⟨Nat.le_of_ble_eq_true rfl, Nat.le_of_ble_eq_true rfl⟩ rfl hl.1 (Nat.le_of_ble_eq_true rfl) ⟨Nat.zero_le _, Nat.zero_le _⟩ dX4_addCue_40) hw (fun H locs hw tzv11 => ?_)
          refine x_ifnonnull (tgt := 48) C0 dX4_addCue_43 (by decide) (fun zc13 => ?_) (fun zc13 => ?_)
          · have hf := ite_f hf zc13
            exact w4_addCue_48 C0 hr hz fl I X _ _ _ zx0 zx1 zx2 zx3 zx4 zt0 hw (lv_sub hl [0, 1, 2, 3, 4] rfl) hf
          · have hf := ite_t hf zc13
            exact w4_addCue_46 C0 hr hz fl I X _ _ _ hw (lv_sub hl [] rfl) hf
    · have hf := ite_t hf zc6
      exact w4_addCue_20 C0 hr hz fl I X _ _ _ hw (lv_sub hl [] rfl) hf
noncomputable def m8_dropOldestState_9b (fl : Nat) (len : Nat → Nat) (zr9 : Im → Xm → Nat → Nat → Int32 → Option (Im × Xm)) (I : Im) (X : Xm) (zx0 : Nat) (zx1 : Nat) (zx2 : Int32) : Option (Im × Xm) :=
  nn (gR X 130 zx0) fun zv1 =>
  if (nI (len zv1)) ≤ zx2 then
    ck (inb ((nI (len zv1)) - (1 : Int32)) (len zv1) = true) <|
    lt (pQ X zv1 (((nI (len zv1)) - (1 : Int32))).toNatClampNeg (some zx1)) fun zX4 =>
    lt (pF I 131 zx0 (6 : Int32)) fun zI5 =>
    some (zI5, zX4)
  else
    ck (inb zx2 (len zv1) = true) <|
    nn (gQ X zv1 (zx2).toNatClampNeg) fun zv7 =>
    ck (inb (zx2 - (1 : Int32)) (len zv1) = true) <|
    lt (pQ X zv1 ((zx2 - (1 : Int32))).toNatClampNeg (some zv7)) fun zX9 =>
    lt (zx2 + 1) fun zv10 =>
    zr9 I zX9 zx0 zx1 zv10
noncomputable def m8_dropOldestState_9 (fl : Nat) (len : Nat → Nat) (n : Nat) : Im → Xm → Nat → Nat → Int32 → Option (Im × Xm) :=
  Nat.rec (fun _ _ _ _ _ => none) (fun _ r => m8_dropOldestState_9b fl len r) n
set_option maxHeartbeats 4000000 in
set_option maxRecDepth 100000 in
theorem w8_dropOldestState_9b {p : Program} {l : Launch} {e : Env} {s : State} {m : MethodId} {args : Array Value} {below : List Frame} {meth : Method} {c : Code} {E : EN} {G : GM} (C0 : CX p s m args meth c E cX8_dropOldestState RX8 3) (hr : meth.sig.returnType = none) (hz : s.heap.size + 0 ≤ eB E + G.1) {rr : Im × Xm} (fl : Nat) (zr9 : Im → Xm → Nat → Nat → Int32 → Option (Im × Xm)) (zhr9 : ∀ (I : Im) (X : Xm) (H : Heap) (locs : List Loc) (ls : Array Slot) (zx0 : Nat) (zx1 : Nat) (zx2 : Int32) (zt0 : okA E G 8 zx0) (zt1 : okA E G 4 zx1), WD E G I X s.heap H locs → lv_has ls 3 [(0, .ref zx0), (1, .ref zx1), (2, .int zx2)] → zr9 I X zx0 zx1 zx2 = some rr → W p l e ({ frames := 0, cells := 0, slots := 0, locals := 0 } : Room) s m args below meth c H locs 0 0 (MQ below (QV E G rr.1 rr.2) args s 0 0 (eA E)) (F0 m 9 ls [])) : ∀ (I : Im) (X : Xm) (H : Heap) (locs : List Loc) (ls : Array Slot) (zx0 : Nat) (zx1 : Nat) (zx2 : Int32) (zt0 : okA E G 8 zx0) (zt1 : okA E G 4 zx1), WD E G I X s.heap H locs → lv_has ls 3 [(0, .ref zx0), (1, .ref zx1), (2, .int zx2)] → m8_dropOldestState_9b fl G.2.2 zr9 I X zx0 zx1 zx2 = some rr → W p l e ({ frames := 0, cells := 0, slots := 0, locals := 0 } : Room) s m args below meth c H locs 0 0 (MQ below (QV E G rr.1 rr.2) args s 0 0 (eA E)) (F0 m 9 ls []) := by
  intro I X H locs ls zx0 zx1 zx2 zt0 zt1 hw hl hf
  unfold m8_dropOldestState_9b at hf
  have hx := C0.1; have hb := C0.2.1; have hml := C0.2.2.1; have hown := C0.2.2.2.1; have hts := C0.2.2.2.2.1
  refine lv_iload_n hx hb dX8_dropOldestState_9 rfl (lv_at hl 2 rfl) ?_
  refine lv_aload_n hx hb dX8_dropOldestState_10 rfl (lv_at hl 0 rfl) ?_
  obtain ⟨zv1, ezv1, hf⟩ := nn_some hf
  have tzv1 : okA E G 15 zv1 := wt_r hw ezv1
  refine xg_8_2 C0 hw zt0 wd321 ezv1 dX8_dropOldestState_11 ?_
  refine x_alen C0 hw 15 tzv1 (by decide) rfl dX8_dropOldestState_14 ?_
  refine lv_icmp_ge (tgt := 38) hx hb dX8_dropOldestState_15 (by decide) (fun zc2 => ?_) (fun zc2 => ?_)
  · have hf := ite_t hf zc2
    refine lv_aload_n hx hb dX8_dropOldestState_38 rfl (lv_at hl 0 rfl) ?_
    refine xg_8_2 C0 hw zt0 wd321 ezv1 dX8_dropOldestState_39 ?_
    refine lv_aload_n hx hb dX8_dropOldestState_42 rfl (lv_at hl 0 rfl) ?_
    refine xg_8_2 C0 hw zt0 wd321 ezv1 dX8_dropOldestState_43 ?_
    refine x_alen C0 hw 15 tzv1 (by decide) rfl dX8_dropOldestState_46 ?_
    refine lv_iconst (v := (1 : Int32)) hx hb dX8_dropOldestState_47 (by decide) ?_
    refine lv_isub hx hb dX8_dropOldestState_48 ?_
    refine lv_aload_n hx hb dX8_dropOldestState_49 rfl (lv_at hl 1 rfl) ?_
    obtain ⟨zhb3, hf⟩ := ck_some hf
    obtain ⟨zX4, ezX4⟩ : ∃ y : Xm, y = pQ X zv1 (((nI (G.2.2 zv1)) - (1 : Int32))).toNatClampNeg (some zx1) := ⟨_, rfl⟩
    have hf := lt_at hf ezX4
    refine x_qast C0 hz hw 15 tzv1 (by decide) zt1 (by decide) rfl rfl zhb3 dX8_dropOldestState_50 ezX4 (fun H locs hw => ?_)
    refine lv_aload_n hx hb dX8_dropOldestState_51 rfl (lv_at hl 0 rfl) ?_
    refine lv_bipush (v := (6 : Int32)) hx hb dX8_dropOldestState_52 (by decide) ?_
    obtain ⟨zI5, ezI5⟩ : ∃ y : Im, y = pF I 131 zx0 (6 : Int32) := ⟨_, rfl⟩
    have hf := lt_at hf ezI5
    refine xp_8_3 C0 hz hw zt0 rfl rfl wd332 dX8_dropOldestState_54 ezI5 (fun H locs hw => ?_)
    obtain rfl := Option.some.inj hf
    exact x_vret C0 hr hw dX8_dropOldestState_57
  · have hf := ite_f hf zc2
    refine lv_aload_n hx hb dX8_dropOldestState_18 rfl (lv_at hl 0 rfl) ?_
    refine xg_8_2 C0 hw zt0 wd321 ezv1 dX8_dropOldestState_19 ?_
    refine lv_iload_n hx hb dX8_dropOldestState_22 rfl (lv_at hl 2 rfl) ?_
    refine lv_iconst (v := (1 : Int32)) hx hb dX8_dropOldestState_23 (by decide) ?_
    refine lv_isub hx hb dX8_dropOldestState_24 ?_
    refine lv_aload_n hx hb dX8_dropOldestState_25 rfl (lv_at hl 0 rfl) ?_
    refine xg_8_2 C0 hw zt0 wd321 ezv1 dX8_dropOldestState_26 ?_
    refine lv_iload_n hx hb dX8_dropOldestState_29 rfl (lv_at hl 2 rfl) ?_
    obtain ⟨zhb6, hf⟩ := ck_some hf
    obtain ⟨zv7, ezv7, hf⟩ := nn_some hf
    have tzv7 : okA E G 4 zv7 := wt_q hw tzv1 ezv7
    refine x_qald C0 hw 15 tzv1 (by decide) rfl zhb6 ezv7 dX8_dropOldestState_30 ?_
    obtain ⟨zhb8, hf⟩ := ck_some hf
    obtain ⟨zX9, ezX9⟩ : ∃ y : Xm, y = pQ X zv1 ((zx2 - (1 : Int32))).toNatClampNeg (some zv7) := ⟨_, rfl⟩
    have hf := lt_at hf ezX9
    refine x_qast C0 hz hw 15 tzv1 (by decide) tzv7 (by decide) rfl rfl zhb8 dX8_dropOldestState_31 ezX9 (fun H locs hw => ?_)
    obtain ⟨zv10, ezv10⟩ : ∃ y : Int32, y = zx2 + 1 := ⟨_, rfl⟩
    have hf := lt_at hf ezv10
    refine lv_iinc (v := zv10) (lv' := [(2, .int zv10), (0, .ref zx0), (1, .ref zx1)]) hx hb dX8_dropOldestState_32 hl (k := 2) rfl (by rw [ezv10]; rfl) (by decide) rfl (fun ls hl => ?_)
    refine lv_goto (tgt := 9) hx hb dX8_dropOldestState_35 (by decide) ?_
    exact zhr9 I zX9 _ _ _ zx0 zx1 zv10 zt0 zt1 hw (lv_sub hl [1, 2, 0] rfl) hf
theorem w8_dropOldestState_9 {p : Program} {l : Launch} {e : Env} {s : State} {m : MethodId} {args : Array Value} {below : List Frame} {meth : Method} {c : Code} {E : EN} {G : GM} (C0 : CX p s m args meth c E cX8_dropOldestState RX8 3) (hr : meth.sig.returnType = none) (hz : s.heap.size + 0 ≤ eB E + G.1) {rr : Im × Xm} (fl : Nat) : ∀ (n : Nat) (I : Im) (X : Xm) (H : Heap) (locs : List Loc) (ls : Array Slot) (zx0 : Nat) (zx1 : Nat) (zx2 : Int32) (zt0 : okA E G 8 zx0) (zt1 : okA E G 4 zx1), WD E G I X s.heap H locs → lv_has ls 3 [(0, .ref zx0), (1, .ref zx1), (2, .int zx2)] → m8_dropOldestState_9 fl G.2.2 n I X zx0 zx1 zx2 = some rr → W p l e ({ frames := 0, cells := 0, slots := 0, locals := 0 } : Room) s m args below meth c H locs 0 0 (MQ below (QV E G rr.1 rr.2) args s 0 0 (eA E)) (F0 m 9 ls []) := by
  intro n
  induction n with
  | zero => intro I X H locs ls zx0 zx1 zx2 zt0 zt1 hw hl hf; exact absurd (show (none : Option (Im × Xm)) = some rr from hf) (by simp)
  | succ n ih => intro I X H locs ls zx0 zx1 zx2 zt0 zt1 hw hl hf; exact w8_dropOldestState_9b C0 hr hz fl _ ih I X H locs ls zx0 zx1 zx2 zt0 zt1 hw hl hf
noncomputable def m8_dropOldestState (fl : Nat) (len : Nat → Nat) (X : Xm) (I : Im) (zx0 : Nat) : Option (Im × Xm) :=
  nn (gR X 130 zx0) fun zv1 =>
  ck (inb (0 : Int32) (len zv1) = true) <|
  nn (gQ X zv1 ((0 : Int32)).toNatClampNeg) fun zv3 =>
  m8_dropOldestState_9 fl len fl I X zx0 zv3 (1 : Int32)
theorem hy8_dropOldestState : yX8_dropOldestState.cls = RX8 ∧ yX8_dropOldestState.cls ≠ "java/lang/invoke/MethodHandle" ∧ yX8_dropOldestState.cls ≠ "java/lang/invoke/VarHandle" ∧ (parseMethodDescriptor yX8_dropOldestState.desc).map (fun d => d.parameters.length) = some 0 := ⟨rfl, by decide +kernel, by decide +kernel, by decide +kernel⟩
set_option maxHeartbeats 4000000 in
set_option maxRecDepth 100000 in
theorem c8_dropOldestState (l : Launch) (E : EN) (G : GM) (fl : Nat) (X : Xm) (I : Im) (zx0 : Nat) (zt0 : okA E G 8 zx0) {rr : Im × Xm} (hf : m8_dropOldestState fl G.2.2 X I zx0 = some rr) : MT l yX8_dropOldestState cX8_dropOldestState 3 none ({ frames := 0, cells := 0, slots := 0, locals := 0 } : Room) E G I X [.ref zx0] (QV E G rr.1 rr.2) 0 0 := by
  refine Met.ofW (cc := cX8_dropOldestState) (maxL := 3) (ret := none) (by decide +kernel) rfl ?_
  intro p e s m args below meth c s₁ B hml hv
  obtain ⟨rfl, hw0, hSE⟩ := hv
  have C0 : CX p s m ([.ref zx0] : List Value).toArray meth c E cX8_dropOldestState RX8 3 := ⟨B.exec, B.bytes, hml, findClass_of_methodNamed B.named, fun w hw => atoms_spec (ws := WS yX8_dropOldestState cX8_dropOldestState 3 none) B.pre w (List.mem_cons_of_mem _ hw), B.notSynchronized, hSE⟩
  have hz : s.heap.size + 0 ≤ eB E + G.1 := Nat.le_of_eq hw0.2.1
  have hw : WD E G I X s.heap s.heap [] := ⟨hw0, va_S.rf⟩
  have hr := B.returns
  have hx := C0.1; have hb := C0.2.1; have hml := C0.2.2.1; have hown := C0.2.2.2.1; have hts := C0.2.2.2.2.1
  have hl := lv_entry ([.ref zx0]) (n := 3) (Nat.le_of_ble_eq_true rfl)
  rw [lg_entry_eq]
  generalize (lg_sl ([.ref zx0]) ++ List.replicate (3 - (lg_sl ([.ref zx0])).length) Slot.unset).toArray = ls at hl ⊢
  have hl : lv_has ls 3 [(0, .ref zx0)] := hl
  unfold m8_dropOldestState at hf
  refine lv_aload_n hx hb dX8_dropOldestState_0 rfl (lv_at hl 0 rfl) ?_
  obtain ⟨zv1, ezv1, hf⟩ := nn_some hf
  have tzv1 : okA E G 15 zv1 := wt_r hw ezv1
  refine xg_8_2 C0 hw zt0 wd321 ezv1 dX8_dropOldestState_1 ?_
  refine lv_iconst (v := (0 : Int32)) hx hb dX8_dropOldestState_4 (by decide) ?_
  obtain ⟨zhb2, hf⟩ := ck_some hf
  obtain ⟨zv3, ezv3, hf⟩ := nn_some hf
  have tzv3 : okA E G 4 zv3 := wt_q hw tzv1 ezv3
  refine x_qald C0 hw 15 tzv1 (by decide) rfl zhb2 ezv3 dX8_dropOldestState_5 ?_
  refine lv_astore_n (lv' := [(1, .ref zv3), (0, .ref zx0)]) hx hb dX8_dropOldestState_6 rfl hl (by decide) rfl (fun ls hl => ?_)
  refine lv_iconst (v := (1 : Int32)) hx hb dX8_dropOldestState_7 (by decide) ?_
  refine lv_istore_n (lv' := [(2, .int (1 : Int32)), (1, .ref zv3), (0, .ref zx0)]) hx hb dX8_dropOldestState_8 rfl hl (by decide) rfl (fun ls hl => ?_)
  exact w8_dropOldestState_9 C0 hr hz fl fl I X _ _ _ zx0 zv3 (1 : Int32) zt0 tzv3 hw (lv_sub hl [2, 1, 0] rfl) hf
noncomputable def m8_recorded_29 (fl : Nat) (len : Nat → Nat) (I : Im) (X : Xm) (zx1 : Int32) : Option (Int32 × Im × Xm) :=
  some (zx1, I, X)
set_option maxHeartbeats 4000000 in
set_option maxRecDepth 100000 in
theorem w8_recorded_29 {p : Program} {l : Launch} {e : Env} {s : State} {m : MethodId} {args : Array Value} {below : List Frame} {meth : Method} {c : Code} {E : EN} {G : GM} (C0 : CX p s m args meth c E cX8_recorded RX8 2) (hr : meth.sig.returnType = (some .int)) (hz : s.heap.size + 0 ≤ eB E + G.1) {rr : Int32 × Im × Xm} (fl : Nat) : ∀ (I : Im) (X : Xm) (H : Heap) (locs : List Loc) (ls : Array Slot) (zx1 : Int32) , WD E G I X s.heap H locs → lv_has ls 2 [(1, .int zx1)] → m8_recorded_29 fl G.2.2 I X zx1 = some rr → W p l e ({ frames := 1, cells := 0, slots := 0, locals := 22 } : Room) s m args below meth c H locs 0 0 (MQ below (QI E G rr.1 rr.2.1 rr.2.2) args s 0 0 (eA E)) (F0 m 29 ls []) := by
  intro I X H locs ls zx1 hw hl hf
  unfold m8_recorded_29 at hf
  have hx := C0.1; have hb := C0.2.1; have hml := C0.2.2.1; have hown := C0.2.2.2.1; have hts := C0.2.2.2.2.1
  refine lv_iload_n hx hb dX8_recorded_29 rfl (lv_at hl 0 rfl) ?_
  obtain rfl := Option.some.inj hf
  exact x_iret C0 hr hw dX8_recorded_30
noncomputable def m8_recorded (fl : Nat) (len : Nat → Nat) (X : Xm) (I : Im) (zx0 : Nat) (zx1 : Int32) : Option (Int32 × Im × Xm) :=
  if 0 ≤ zx1 then
    lt (pF I 131 zx0 ((gF I 131 zx0) + (1 : Int32))) fun zI2 =>
    if (gF zI2 131 zx0) ≤ (6 : Int32) then
      m8_recorded_29 fl len zI2 X zx1
    else
      nn (m8_dropOldestState fl len X zI2 zx0) fun ⟨zI4, zX5⟩ =>
      m8_recorded_29 fl len zI4 zX5 zx1
  else
    some (zx1, I, X)
theorem hy8_recorded : yX8_recorded.cls = RX8 ∧ yX8_recorded.cls ≠ "java/lang/invoke/MethodHandle" ∧ yX8_recorded.cls ≠ "java/lang/invoke/VarHandle" ∧ (parseMethodDescriptor yX8_recorded.desc).map (fun d => d.parameters.length) = some 1 := ⟨rfl, by decide +kernel, by decide +kernel, by decide +kernel⟩
set_option maxHeartbeats 4000000 in
set_option maxRecDepth 100000 in
theorem c8_recorded (l : Launch) (E : EN) (G : GM) (fl : Nat) (X : Xm) (I : Im) (zx0 : Nat) (zx1 : Int32) (zt0 : okA E G 8 zx0) {rr : Int32 × Im × Xm} (hf : m8_recorded fl G.2.2 X I zx0 zx1 = some rr) : MT l yX8_recorded cX8_recorded 2 (some .int) ({ frames := 1, cells := 0, slots := 0, locals := 22 } : Room) E G I X [.ref zx0, .int zx1] (QI E G rr.1 rr.2.1 rr.2.2) 0 0 := by
  refine Met.ofW (cc := cX8_recorded) (maxL := 2) (ret := (some .int)) (by decide +kernel) rfl ?_
  intro p e s m args below meth c s₁ B hml hv
  obtain ⟨rfl, hw0, hSE⟩ := hv
  have C0 : CX p s m ([.ref zx0, .int zx1] : List Value).toArray meth c E cX8_recorded RX8 2 := ⟨B.exec, B.bytes, hml, findClass_of_methodNamed B.named, fun w hw => atoms_spec (ws := WS yX8_recorded cX8_recorded 2 (some .int)) B.pre w (List.mem_cons_of_mem _ hw), B.notSynchronized, hSE⟩
  have hz : s.heap.size + 0 ≤ eB E + G.1 := Nat.le_of_eq hw0.2.1
  have hw : WD E G I X s.heap s.heap [] := ⟨hw0, va_S.rf⟩
  have hr := B.returns
  have hx := C0.1; have hb := C0.2.1; have hml := C0.2.2.1; have hown := C0.2.2.2.1; have hts := C0.2.2.2.2.1
  have hl := lv_entry ([.ref zx0, .int zx1]) (n := 2) (Nat.le_of_ble_eq_true rfl)
  rw [lg_entry_eq]
  generalize (lg_sl ([.ref zx0, .int zx1]) ++ List.replicate (2 - (lg_sl ([.ref zx0, .int zx1])).length) Slot.unset).toArray = ls at hl ⊢
  have hl : lv_has ls 2 [(0, .ref zx0), (1, .int zx1)] := hl
  unfold m8_recorded at hf
  refine lv_iload_n hx hb dX8_recorded_0 rfl (lv_at hl 1 rfl) ?_
  refine lv_if_ge (tgt := 6) hx hb dX8_recorded_1 (by decide) (fun zc1 => ?_) (fun zc1 => ?_)
  · have hf := ite_t hf zc1
    refine lv_aload_n hx hb dX8_recorded_6 rfl (lv_at hl 0 rfl) ?_
    refine lv_dup hx hb dX8_recorded_7 rfl ?_
    refine xg_8_3 C0 hw zt0 wd332 dX8_recorded_8 ?_
    refine lv_iconst (v := (1 : Int32)) hx hb dX8_recorded_11 (by decide) ?_
    refine lv_iadd hx hb dX8_recorded_12 ?_
    obtain ⟨zI2, ezI2⟩ : ∃ y : Im, y = pF I 131 zx0 ((gF I 131 zx0) + (1 : Int32)) := ⟨_, rfl⟩
    have hf := lt_at hf ezI2
    refine xp_8_3 C0 hz hw zt0 rfl rfl wd332 dX8_recorded_13 ezI2 (fun H locs hw => ?_)
    refine lv_aload_n hx hb dX8_recorded_16 rfl (lv_at hl 0 rfl) ?_
    refine xg_8_3 C0 hw zt0 wd332 dX8_recorded_17 ?_
    refine lv_bipush (v := (6 : Int32)) hx hb dX8_recorded_20 (by decide) ?_
    refine lv_icmp_le (tgt := 29) hx hb dX8_recorded_22 (by decide) (fun zc3 => ?_) (fun zc3 => ?_)
    · have hf := ite_t hf zc3
      exact w8_recorded_29 C0 hr hz fl zI2 X _ _ _ zx1 hw (lv_sub hl [1] rfl) hf
    · have hf := ite_f hf zc3
      refine lv_aload_n hx hb dX8_recorded_25 rfl (lv_at hl 0 rfl) ?_
      obtain ⟨⟨zI4, zX5⟩, ze6, hf⟩ := nn_some hf
      refine x_cv (I1 := zI4) (X1 := zX5) (x_runV (As := []) (rest := []) C0 (c8_dropOldestState l E G fl X zI2 zx0 zt0 ze6) hw 8 zt0 (by decide) rfl wd58 wd336 wd337 wd338 wd107 ⟨rfl, rfl⟩ hy8_dropOldestState ⟨Nat.le_of_ble_eq_true rfl, Nat.le_of_ble_eq_true rfl⟩ rfl hl.1 (Nat.le_of_ble_eq_true rfl) ⟨Nat.zero_le _, Nat.zero_le _⟩ dX8_recorded_26) hw (fun H locs hw => ?_)
      exact w8_recorded_29 C0 hr hz fl zI4 zX5 _ _ _ zx1 hw (lv_sub hl [1] rfl) hf
  · have hf := ite_f hf zc1
    refine lv_iload_n hx hb dX8_recorded_4 rfl (lv_at hl 1 rfl) ?_
    obtain rfl := Option.some.inj hf
    exact x_iret C0 hr hw dX8_recorded_5
noncomputable def m8_cue (fl : Nat) (len : Nat → Nat) (X : Xm) (I : Im) (zx0 : Nat) (zx1 : Int32) (zx2 : Int32) (zx3 : Int32) (zx4 : Int32) : Option (Int32 × Im × Xm) :=
  nn (m8_holdState fl len X I zx0) fun zI1 =>
  nn (gR X 128 zx0) fun zv3 =>
  nn (m4_addCue fl len X zI1 zv3 zx1 zx2 zx3 zx4) fun ⟨zv4, zI5, zX6⟩ =>
  nn (m8_recorded fl len zX6 zI5 zx0 zv4) fun ⟨zv8, zI9, zX10⟩ =>
  some (zv8, zI9, zX10)
theorem hy8_cue : yX8_cue.cls = RX8 ∧ yX8_cue.cls ≠ "java/lang/invoke/MethodHandle" ∧ yX8_cue.cls ≠ "java/lang/invoke/VarHandle" ∧ (parseMethodDescriptor yX8_cue.desc).map (fun d => d.parameters.length) = some 4 := ⟨rfl, by decide +kernel, by decide +kernel, by decide +kernel⟩
set_option maxHeartbeats 4000000 in
set_option maxRecDepth 100000 in
theorem c8_cue (l : Launch) (E : EN) (G : GM) (fl : Nat) (X : Xm) (I : Im) (zx0 : Nat) (zx1 : Int32) (zx2 : Int32) (zx3 : Int32) (zx4 : Int32) (zt0 : okA E G 8 zx0) {rr : Int32 × Im × Xm} (hf : m8_cue fl G.2.2 X I zx0 zx1 zx2 zx3 zx4 = some rr) : MT l yX8_cue cX8_cue 5 (some .int) ({ frames := 4, cells := 0, slots := 0, locals := 92 } : Room) E G I X [.ref zx0, .int zx1, .int zx2, .int zx3, .int zx4] (QI E G rr.1 rr.2.1 rr.2.2) 0 0 := by
  refine Met.ofW (cc := cX8_cue) (maxL := 5) (ret := (some .int)) (by decide +kernel) rfl ?_
  intro p e s m args below meth c s₁ B hml hv
  obtain ⟨rfl, hw0, hSE⟩ := hv
  have C0 : CX p s m ([.ref zx0, .int zx1, .int zx2, .int zx3, .int zx4] : List Value).toArray meth c E cX8_cue RX8 5 := ⟨B.exec, B.bytes, hml, findClass_of_methodNamed B.named, fun w hw => atoms_spec (ws := WS yX8_cue cX8_cue 5 (some .int)) B.pre w (List.mem_cons_of_mem _ hw), B.notSynchronized, hSE⟩
  have hz : s.heap.size + 0 ≤ eB E + G.1 := Nat.le_of_eq hw0.2.1
  have hw : WD E G I X s.heap s.heap [] := ⟨hw0, va_S.rf⟩
  have hr := B.returns
  have hx := C0.1; have hb := C0.2.1; have hml := C0.2.2.1; have hown := C0.2.2.2.1; have hts := C0.2.2.2.2.1
  have hl := lv_entry ([.ref zx0, .int zx1, .int zx2, .int zx3, .int zx4]) (n := 5) (Nat.le_of_ble_eq_true rfl)
  rw [lg_entry_eq]
  generalize (lg_sl ([.ref zx0, .int zx1, .int zx2, .int zx3, .int zx4]) ++ List.replicate (5 - (lg_sl ([.ref zx0, .int zx1, .int zx2, .int zx3, .int zx4])).length) Slot.unset).toArray = ls at hl ⊢
  have hl : lv_has ls 5 [(0, .ref zx0), (1, .int zx1), (2, .int zx2), (3, .int zx3), (4, .int zx4)] := hl
  unfold m8_cue at hf
  refine lv_aload_n hx hb dX8_cue_0 rfl (lv_at hl 0 rfl) ?_
  obtain ⟨zI1, ze2, hf⟩ := nn_some hf
  refine x_cv (I1 := zI1) (X1 := X) (x_runV (As := []) (rest := []) C0 (c8_holdState l E G fl X I zx0 zt0 ze2) hw 8 zt0 (by decide) rfl wd57 wd339 wd340 wd341 wd107 ⟨rfl, rfl⟩ hy8_holdState ⟨Nat.le_of_ble_eq_true rfl, Nat.le_of_ble_eq_true rfl⟩ rfl hl.1 (Nat.le_of_ble_eq_true rfl) ⟨Nat.zero_le _, Nat.zero_le _⟩ dX8_cue_1) hw (fun H locs hw => ?_)
  refine lv_aload_n hx hb dX8_cue_4 rfl (lv_at hl 0 rfl) ?_
  refine lv_aload_n hx hb dX8_cue_5 rfl (lv_at hl 0 rfl) ?_
  obtain ⟨zv3, ezv3, hf⟩ := nn_some hf
  have tzv3 : okA E G 4 zv3 := wt_r hw ezv3
  refine xg_8_0 C0 hw zt0 wd319 ezv3 dX8_cue_6 ?_
  refine lv_iload_n hx hb dX8_cue_9 rfl (lv_at hl 1 rfl) ?_
  refine lv_iload_n hx hb dX8_cue_10 rfl (lv_at hl 2 rfl) ?_
  refine lv_iload_n hx hb dX8_cue_11 rfl (lv_at hl 3 rfl) ?_
  refine lv_iload hx hb dX8_cue_12 (lv_at hl 4 rfl) ?_
  obtain ⟨⟨zv4, zI5, zX6⟩, ze7, hf⟩ := nn_some hf
  refine x_ci (r := zv4) (I1 := zI5) (X1 := zX6) (x_runV (As := [.int zx1, .int zx2, .int zx3, .int zx4]) (rest := [.ref zx0]) C0 (c4_addCue l E G fl X zI1 zv3 zx1 zx2 zx3 zx4 tzv3 ze7) hw 4 tzv3 (by decide) rfl wd31 wd351 wd352 wd353 wd202 ⟨rfl, rfl⟩ hy4_addCue ⟨Nat.le_of_ble_eq_true rfl, Nat.le_of_ble_eq_true rfl⟩ rfl hl.1 (Nat.le_of_ble_eq_true rfl) ⟨Nat.zero_le _, Nat.zero_le _⟩ dX8_cue_14) hw (fun H locs hw => ?_)
  obtain ⟨⟨zv8, zI9, zX10⟩, ze11, hf⟩ := nn_some hf
  refine x_ci (r := zv8) (I1 := zI9) (X1 := zX10) (x_runV (As := [.int zv4]) (rest := []) C0 (c8_recorded l E G fl zX6 zI5 zx0 zv4 zt0 ze11) hw 8 zt0 (by decide) rfl wd59 wd345 wd346 wd347 wd107 ⟨rfl, rfl⟩ hy8_recorded ⟨Nat.le_of_ble_eq_true rfl, Nat.le_of_ble_eq_true rfl⟩ rfl hl.1 (Nat.le_of_ble_eq_true rfl) ⟨Nat.zero_le _, Nat.zero_le _⟩ dX8_cue_17) hw (fun H locs hw => ?_)
  obtain rfl := Option.some.inj hf
  exact x_iret C0 hr hw dX8_cue_20
noncomputable def m6_makeLast_58 (fl : Nat) (len : Nat → Nat) (I : Im) (X : Xm) : Option (Xm) :=
  some (X)
set_option maxHeartbeats 4000000 in
set_option maxRecDepth 100000 in
theorem w6_makeLast_58 {p : Program} {l : Launch} {e : Env} {s : State} {m : MethodId} {args : Array Value} {below : List Frame} {meth : Method} {c : Code} {E : EN} {G : GM} {I : Im} (C0 : CX p s m args meth c E cX6_makeLast RX6 4) (hr : meth.sig.returnType = none) (hz : s.heap.size + 0 ≤ eB E + G.1) {rr : Xm} (fl : Nat) : ∀ (X : Xm) (H : Heap) (locs : List Loc) (ls : Array Slot) , WD E G I X s.heap H locs → lv_has ls 4 [] → m6_makeLast_58 fl G.2.2 I X = some rr → W p l e ({ frames := 1, cells := 0, slots := 0, locals := 21 } : Room) s m args below meth c H locs 0 0 (MQ below (QV E G I rr) args s 0 0 (eA E)) (F0 m 58 ls []) := by
  intro X H locs ls hw hl hf
  unfold m6_makeLast_58 at hf
  have hx := C0.1; have hb := C0.2.1; have hml := C0.2.2.1; have hown := C0.2.2.2.1; have hts := C0.2.2.2.2.1
  obtain rfl := Option.some.inj hf
  exact x_vret C0 hr hw dX6_makeLast_58
noncomputable def m6_makeLast_14b (fl : Nat) (len : Nat → Nat) (I : Im) (zr14 : Xm → Nat → Option Nat → Int32 → Option (Xm)) (X : Xm) (zx0 : Nat) (zx2 : Option Nat) (zx3 : Int32) : Option (Xm) :=
  if (gF I 97 zx0) ≤ zx3 then
    m6_makeLast_58 fl len I X
  else
    nn (gR X 96 zx0) fun zv2 =>
    if (nI (len zv2)) ≤ zx3 then
      m6_makeLast_58 fl len I X
    else
      ck (inb zx3 (len zv2) = true) <|
      nn (gQ X zv2 (zx3).toNatClampNeg) fun zv5 =>
      ck (inb (zx3 - (1 : Int32)) (len zv2) = true) <|
      lt (pQ X zv2 ((zx3 - (1 : Int32))).toNatClampNeg (some zv5)) fun zX7 =>
      nn (gR zX7 96 zx0) fun zv8 =>
      nn zx2 fun zb9 =>
      ck (inb zx3 (len zv8) = true) <|
      lt (pQ zX7 zv8 (zx3).toNatClampNeg (some zb9)) fun zX11 =>
      lt (zx3 + 1) fun zv12 =>
      zr14 zX11 zx0 (some zb9) zv12
noncomputable def m6_makeLast_14 (fl : Nat) (len : Nat → Nat) (I : Im) (n : Nat) : Xm → Nat → Option Nat → Int32 → Option (Xm) :=
  Nat.rec (fun _ _ _ _ => none) (fun _ r => m6_makeLast_14b fl len I r) n
set_option maxHeartbeats 4000000 in
set_option maxRecDepth 100000 in
theorem w6_makeLast_14b {p : Program} {l : Launch} {e : Env} {s : State} {m : MethodId} {args : Array Value} {below : List Frame} {meth : Method} {c : Code} {E : EN} {G : GM} {I : Im} (C0 : CX p s m args meth c E cX6_makeLast RX6 4) (hr : meth.sig.returnType = none) (hz : s.heap.size + 0 ≤ eB E + G.1) {rr : Xm} (fl : Nat) (zr14 : Xm → Nat → Option Nat → Int32 → Option (Xm)) (zhr14 : ∀ (X : Xm) (H : Heap) (locs : List Loc) (ls : Array Slot) (zx0 : Nat) (zx2 : Option Nat) (zx3 : Int32) (zt0 : okA E G 6 zx0) (zt2 : ∀ a, zx2 = some a → okA E G 1 a), WD E G I X s.heap H locs → lv_has ls 4 [(0, .ref zx0), (2, va_rf zx2), (3, .int zx3)] → zr14 X zx0 zx2 zx3 = some rr → W p l e ({ frames := 1, cells := 0, slots := 0, locals := 21 } : Room) s m args below meth c H locs 0 0 (MQ below (QV E G I rr) args s 0 0 (eA E)) (F0 m 14 ls [])) : ∀ (X : Xm) (H : Heap) (locs : List Loc) (ls : Array Slot) (zx0 : Nat) (zx2 : Option Nat) (zx3 : Int32) (zt0 : okA E G 6 zx0) (zt2 : ∀ a, zx2 = some a → okA E G 1 a), WD E G I X s.heap H locs → lv_has ls 4 [(0, .ref zx0), (2, va_rf zx2), (3, .int zx3)] → m6_makeLast_14b fl G.2.2 I zr14 X zx0 zx2 zx3 = some rr → W p l e ({ frames := 1, cells := 0, slots := 0, locals := 21 } : Room) s m args below meth c H locs 0 0 (MQ below (QV E G I rr) args s 0 0 (eA E)) (F0 m 14 ls []) := by
  intro X H locs ls zx0 zx2 zx3 zt0 zt2 hw hl hf
  unfold m6_makeLast_14b at hf
  have hx := C0.1; have hb := C0.2.1; have hml := C0.2.2.1; have hown := C0.2.2.2.1; have hts := C0.2.2.2.2.1
  refine lv_iload_n hx hb dX6_makeLast_14 rfl (lv_at hl 2 rfl) ?_
  refine lv_aload_n hx hb dX6_makeLast_15 rfl (lv_at hl 0 rfl) ?_
  refine xg_6_1 C0 hw zt0 wd168 dX6_makeLast_16 ?_
  refine lv_icmp_ge (tgt := 58) hx hb dX6_makeLast_19 (by decide) (fun zc1 => ?_) (fun zc1 => ?_)
  · have hf := ite_t hf zc1
    exact w6_makeLast_58 C0 hr hz fl X _ _ _ hw (lv_sub hl [] rfl) hf
  · have hf := ite_f hf zc1
    refine lv_iload_n hx hb dX6_makeLast_22 rfl (lv_at hl 2 rfl) ?_
    refine lv_aload_n hx hb dX6_makeLast_23 rfl (lv_at hl 0 rfl) ?_
    obtain ⟨zv2, ezv2, hf⟩ := nn_some hf
    have tzv2 : okA E G 14 zv2 := wt_r hw ezv2
    refine xg_6_0 C0 hw zt0 wd130 ezv2 dX6_makeLast_24 ?_
    refine x_alen C0 hw 14 tzv2 (by decide) rfl dX6_makeLast_27 ?_
    refine lv_icmp_ge (tgt := 58) hx hb dX6_makeLast_28 (by decide) (fun zc3 => ?_) (fun zc3 => ?_)
    · have hf := ite_t hf zc3
      exact w6_makeLast_58 C0 hr hz fl X _ _ _ hw (lv_sub hl [] rfl) hf
    · have hf := ite_f hf zc3
      refine lv_aload_n hx hb dX6_makeLast_31 rfl (lv_at hl 0 rfl) ?_
      refine xg_6_0 C0 hw zt0 wd130 ezv2 dX6_makeLast_32 ?_
      refine lv_iload_n hx hb dX6_makeLast_35 rfl (lv_at hl 2 rfl) ?_
      refine lv_iconst (v := (1 : Int32)) hx hb dX6_makeLast_36 (by decide) ?_
      refine lv_isub hx hb dX6_makeLast_37 ?_
      refine lv_aload_n hx hb dX6_makeLast_38 rfl (lv_at hl 0 rfl) ?_
      refine xg_6_0 C0 hw zt0 wd130 ezv2 dX6_makeLast_39 ?_
      refine lv_iload_n hx hb dX6_makeLast_42 rfl (lv_at hl 2 rfl) ?_
      obtain ⟨zhb4, hf⟩ := ck_some hf
      obtain ⟨zv5, ezv5, hf⟩ := nn_some hf
      have tzv5 : okA E G 1 zv5 := wt_q hw tzv2 ezv5
      refine x_qald C0 hw 14 tzv2 (by decide) rfl zhb4 ezv5 dX6_makeLast_43 ?_
      obtain ⟨zhb6, hf⟩ := ck_some hf
      obtain ⟨zX7, ezX7⟩ : ∃ y : Xm, y = pQ X zv2 ((zx3 - (1 : Int32))).toNatClampNeg (some zv5) := ⟨_, rfl⟩
      have hf := lt_at hf ezX7
      refine x_qast C0 hz hw 14 tzv2 (by decide) tzv5 (by decide) rfl rfl zhb6 dX6_makeLast_44 ezX7 (fun H locs hw => ?_)
      refine lv_aload_n hx hb dX6_makeLast_45 rfl (lv_at hl 0 rfl) ?_
      obtain ⟨zv8, ezv8, hf⟩ := nn_some hf
      have tzv8 : okA E G 14 zv8 := wt_r hw ezv8
      refine xg_6_0 C0 hw zt0 wd130 ezv8 dX6_makeLast_46 ?_
      refine lv_iload_n hx hb dX6_makeLast_49 rfl (lv_at hl 2 rfl) ?_
      refine x_aload_n C0 dX6_makeLast_50 rfl (lv_at hl 1 rfl) ?_
      obtain ⟨zb9, ezb9, hfzb9⟩ := nn_some hf
      have tzb9 : okA E G 1 zb9 := zt2 _ ezb9
      subst ezb9
      have hf := hfzb9
      obtain ⟨zhb10, hf⟩ := ck_some hf
      obtain ⟨zX11, ezX11⟩ : ∃ y : Xm, y = pQ zX7 zv8 (zx3).toNatClampNeg (some zb9) := ⟨_, rfl⟩
      have hf := lt_at hf ezX11
      refine x_qast C0 hz hw 14 tzv8 (by decide) tzb9 (by decide) rfl rfl zhb10 dX6_makeLast_51 ezX11 (fun H locs hw => ?_)
      obtain ⟨zv12, ezv12⟩ : ∃ y : Int32, y = zx3 + 1 := ⟨_, rfl⟩
      have hf := lt_at hf ezv12
      refine lv_iinc (v := zv12) (lv' := [(3, .int zv12), (0, .ref zx0), (2, .ref zb9)]) hx hb dX6_makeLast_52 hl (k := 2) rfl (by rw [ezv12]; rfl) (by decide) rfl (fun ls hl => ?_)
      refine lv_goto (tgt := 14) hx hb dX6_makeLast_55 (by decide) ?_
      exact zhr14 zX11 _ _ _ zx0 (some zb9) zv12 zt0 (fun a h => by cases h; exact tzb9) hw (lv_sub hl [1, 2, 0] rfl) hf
theorem w6_makeLast_14 {p : Program} {l : Launch} {e : Env} {s : State} {m : MethodId} {args : Array Value} {below : List Frame} {meth : Method} {c : Code} {E : EN} {G : GM} {I : Im} (C0 : CX p s m args meth c E cX6_makeLast RX6 4) (hr : meth.sig.returnType = none) (hz : s.heap.size + 0 ≤ eB E + G.1) {rr : Xm} (fl : Nat) : ∀ (n : Nat) (X : Xm) (H : Heap) (locs : List Loc) (ls : Array Slot) (zx0 : Nat) (zx2 : Option Nat) (zx3 : Int32) (zt0 : okA E G 6 zx0) (zt2 : ∀ a, zx2 = some a → okA E G 1 a), WD E G I X s.heap H locs → lv_has ls 4 [(0, .ref zx0), (2, va_rf zx2), (3, .int zx3)] → m6_makeLast_14 fl G.2.2 I n X zx0 zx2 zx3 = some rr → W p l e ({ frames := 1, cells := 0, slots := 0, locals := 21 } : Room) s m args below meth c H locs 0 0 (MQ below (QV E G I rr) args s 0 0 (eA E)) (F0 m 14 ls []) := by
  intro n
  induction n with
  | zero => intro X H locs ls zx0 zx2 zx3 zt0 zt2 hw hl hf; exact absurd (show (none : Option (Xm)) = some rr from hf) (by simp)
  | succ n ih => intro X H locs ls zx0 zx2 zx3 zt0 zt2 hw hl hf; exact w6_makeLast_14b C0 hr hz fl _ ih X H locs ls zx0 zx2 zx3 zt0 zt2 hw hl hf
noncomputable def m6_makeLast (fl : Nat) (len : Nat → Nat) (X : Xm) (I : Im) (zx0 : Nat) (zx1 : Int32) : Option (Xm) :=
  nn (m6_cueAt fl len X I zx0 zx1) fun zv1 =>
  lt (((if (0 : Int32) < zx1 then zx1 else (0 : Int32)) + (1 : Int32))) fun zv3 =>
  m6_makeLast_14 fl len I fl X zx0 zv1 zv3
theorem hy6_makeLast : yX6_makeLast.cls = RX6 ∧ yX6_makeLast.cls ≠ "java/lang/invoke/MethodHandle" ∧ yX6_makeLast.cls ≠ "java/lang/invoke/VarHandle" ∧ (parseMethodDescriptor yX6_makeLast.desc).map (fun d => d.parameters.length) = some 1 := ⟨rfl, by decide +kernel, by decide +kernel, by decide +kernel⟩
set_option maxHeartbeats 4000000 in
set_option maxRecDepth 100000 in
theorem c6_makeLast (l : Launch) (E : EN) (G : GM) (fl : Nat) (X : Xm) (I : Im) (zx0 : Nat) (zx1 : Int32) (zt0 : okA E G 6 zx0) {rr : Xm} (hf : m6_makeLast fl G.2.2 X I zx0 zx1 = some rr) : MT l yX6_makeLast cX6_makeLast 4 none ({ frames := 1, cells := 0, slots := 0, locals := 21 } : Room) E G I X [.ref zx0, .int zx1] (QV E G I rr) 0 0 := by
  refine Met.ofW (cc := cX6_makeLast) (maxL := 4) (ret := none) (by decide +kernel) rfl ?_
  intro p e s m args below meth c s₁ B hml hv
  obtain ⟨rfl, hw0, hSE⟩ := hv
  have C0 : CX p s m ([.ref zx0, .int zx1] : List Value).toArray meth c E cX6_makeLast RX6 4 := ⟨B.exec, B.bytes, hml, findClass_of_methodNamed B.named, fun w hw => atoms_spec (ws := WS yX6_makeLast cX6_makeLast 4 none) B.pre w (List.mem_cons_of_mem _ hw), B.notSynchronized, hSE⟩
  have hz : s.heap.size + 0 ≤ eB E + G.1 := Nat.le_of_eq hw0.2.1
  have hw : WD E G I X s.heap s.heap [] := ⟨hw0, va_S.rf⟩
  have hr := B.returns
  have hx := C0.1; have hb := C0.2.1; have hml := C0.2.2.1; have hown := C0.2.2.2.1; have hts := C0.2.2.2.2.1
  have hl := lv_entry ([.ref zx0, .int zx1]) (n := 4) (Nat.le_of_ble_eq_true rfl)
  rw [lg_entry_eq]
  generalize (lg_sl ([.ref zx0, .int zx1]) ++ List.replicate (4 - (lg_sl ([.ref zx0, .int zx1])).length) Slot.unset).toArray = ls at hl ⊢
  have hl : lv_has ls 4 [(0, .ref zx0), (1, .int zx1)] := hl
  unfold m6_makeLast at hf
  refine lv_aload_n hx hb dX6_makeLast_0 rfl (lv_at hl 0 rfl) ?_
  refine lv_iload_n hx hb dX6_makeLast_1 rfl (lv_at hl 1 rfl) ?_
  obtain ⟨zv1, ze2, hf⟩ := nn_some hf
  refine x_co (r := zv1) (I1 := I) (X1 := X) (x_runV (As := [.int zx1]) (rest := []) C0 (c6_cueAt l E G fl X I zx0 zx1 zt0 ze2) hw 6 zt0 (by decide) rfl wd28 wd222 wd223 wd224 wd146 ⟨rfl, rfl⟩ hy6_cueAt ⟨Nat.le_of_ble_eq_true rfl, Nat.le_of_ble_eq_true rfl⟩ rfl hl.1 (Nat.le_of_ble_eq_true rfl) ⟨Nat.zero_le _, Nat.zero_le _⟩ dX6_makeLast_2) hw (fun H locs hw tzv1 => ?_)
  refine x_astore_n (lv' := [(2, va_rf zv1), (0, .ref zx0), (1, .int zx1)]) C0 dX6_makeLast_5 rfl hl (by decide) rfl (fun ls hl => ?_)
  refine lv_iconst (v := (0 : Int32)) hx hb dX6_makeLast_6 (by decide) ?_
  refine lv_iload_n hx hb dX6_makeLast_7 rfl (lv_at hl 2 rfl) ?_
  refine va_mmax hx hb (hml.trans hl.1.symm) hown (hts _ wd238) (hts _ wd104) (hts _ wd101) (hts _ wd105) (Nat.le_of_ble_eq_true rfl) (Nat.le_of_ble_eq_true rfl) (Nat.zero_le _) (Nat.zero_le _) dX6_makeLast_8 ?_
  refine lv_iconst (v := (1 : Int32)) hx hb dX6_makeLast_11 (by decide) ?_
  refine lv_iadd hx hb dX6_makeLast_12 ?_
  refine lv_topi (fun zv3 ezv3 => ?_)
  have hf := lt_at hf ezv3
  refine lv_istore_n (lv' := [(3, .int zv3), (2, va_rf zv1), (0, .ref zx0), (1, .int zx1)]) hx hb dX6_makeLast_13 rfl hl (by decide) (by cases zv1 <;> rfl) (fun ls hl => ?_)
  exact w6_makeLast_14 C0 hr hz fl fl X _ _ _ zx0 zv1 zv3 zt0 tzv1 hw (lv_sub hl [2, 1, 0] rfl) hf
noncomputable def m6_removeCue (fl : Nat) (len : Nat → Nat) (X : Xm) (I : Im) (zx0 : Nat) (zx1 : Int32) : Option (Int32 × Im × Xm) :=
  nn (m6_cueAt fl len X I zx0 zx1) fun zv1 =>
  if zv1 = none then
    some ((-1 : Int32), I, X)
  else
    nn zv1 fun zb4 =>
    if (gF I 20 zb4) = 0 then
      nn (m6_makeLast fl len X I zx0 zx1) fun zX6 =>
      lt (pF I 97 zx0 ((gF I 97 zx0) - (1 : Int32))) fun zI8 =>
      some ((gF zI8 97 zx0), zI8, zX6)
    else
      some ((-5 : Int32), I, X)
theorem hy6_removeCue : yX6_removeCue.cls = RX6 ∧ yX6_removeCue.cls ≠ "java/lang/invoke/MethodHandle" ∧ yX6_removeCue.cls ≠ "java/lang/invoke/VarHandle" ∧ (parseMethodDescriptor yX6_removeCue.desc).map (fun d => d.parameters.length) = some 1 := ⟨rfl, by decide +kernel, by decide +kernel, by decide +kernel⟩
set_option maxHeartbeats 4000000 in
set_option maxRecDepth 100000 in
theorem c6_removeCue (l : Launch) (E : EN) (G : GM) (fl : Nat) (X : Xm) (I : Im) (zx0 : Nat) (zx1 : Int32) (zt0 : okA E G 6 zx0) {rr : Int32 × Im × Xm} (hf : m6_removeCue fl G.2.2 X I zx0 zx1 = some rr) : MT l yX6_removeCue cX6_removeCue 3 (some .int) ({ frames := 2, cells := 0, slots := 0, locals := 44 } : Room) E G I X [.ref zx0, .int zx1] (QI E G rr.1 rr.2.1 rr.2.2) 0 0 := by
  refine Met.ofW (cc := cX6_removeCue) (maxL := 3) (ret := (some .int)) (by decide +kernel) rfl ?_
  intro p e s m args below meth c s₁ B hml hv
  obtain ⟨rfl, hw0, hSE⟩ := hv
  have C0 : CX p s m ([.ref zx0, .int zx1] : List Value).toArray meth c E cX6_removeCue RX6 3 := ⟨B.exec, B.bytes, hml, findClass_of_methodNamed B.named, fun w hw => atoms_spec (ws := WS yX6_removeCue cX6_removeCue 3 (some .int)) B.pre w (List.mem_cons_of_mem _ hw), B.notSynchronized, hSE⟩
  have hz : s.heap.size + 0 ≤ eB E + G.1 := Nat.le_of_eq hw0.2.1
  have hw : WD E G I X s.heap s.heap [] := ⟨hw0, va_S.rf⟩
  have hr := B.returns
  have hx := C0.1; have hb := C0.2.1; have hml := C0.2.2.1; have hown := C0.2.2.2.1; have hts := C0.2.2.2.2.1
  have hl := lv_entry ([.ref zx0, .int zx1]) (n := 3) (Nat.le_of_ble_eq_true rfl)
  rw [lg_entry_eq]
  generalize (lg_sl ([.ref zx0, .int zx1]) ++ List.replicate (3 - (lg_sl ([.ref zx0, .int zx1])).length) Slot.unset).toArray = ls at hl ⊢
  have hl : lv_has ls 3 [(0, .ref zx0), (1, .int zx1)] := hl
  unfold m6_removeCue at hf
  refine lv_aload_n hx hb dX6_removeCue_0 rfl (lv_at hl 0 rfl) ?_
  refine lv_iload_n hx hb dX6_removeCue_1 rfl (lv_at hl 1 rfl) ?_
  obtain ⟨zv1, ze2, hf⟩ := nn_some hf
  refine x_co (r := zv1) (I1 := I) (X1 := X) (x_runV (As := [.int zx1]) (rest := []) C0 (c6_cueAt l E G fl X I zx0 zx1 zt0 ze2) hw 6 zt0 (by decide) rfl wd28 wd222 wd223 wd224 wd146 ⟨rfl, rfl⟩ hy6_cueAt ⟨Nat.le_of_ble_eq_true rfl, Nat.le_of_ble_eq_true rfl⟩ rfl hl.1 (Nat.le_of_ble_eq_true rfl) ⟨Nat.zero_le _, Nat.zero_le _⟩ dX6_removeCue_2) hw (fun H locs hw tzv1 => ?_)
  refine x_astore_n (lv' := [(2, va_rf zv1), (0, .ref zx0), (1, .int zx1)]) C0 dX6_removeCue_5 rfl hl (by decide) rfl (fun ls hl => ?_)
  refine x_aload_n C0 dX6_removeCue_6 rfl (lv_at hl 0 rfl) ?_
  refine x_ifnonnull (tgt := 12) C0 dX6_removeCue_7 (by decide) (fun zc3 => ?_) (fun zc3 => ?_)
  · have hf := ite_f hf zc3
    refine x_aload_n C0 dX6_removeCue_12 rfl (lv_at hl 0 rfl) ?_
    obtain ⟨zb4, ezb4, hfzb4⟩ := nn_some hf
    have tzb4 : okA E G 1 zb4 := tzv1 _ ezb4
    subst ezb4
    have hf := hfzb4
    refine xg_1_4 C0 hw tzb4 wd228 dX6_removeCue_13 ?_
    refine lv_if_eq (tgt := 22) hx hb dX6_removeCue_16 (by decide) (fun zc5 => ?_) (fun zc5 => ?_)
    · have hf := ite_t hf zc5
      refine lv_aload_n hx hb dX6_removeCue_22 rfl (lv_at hl 1 rfl) ?_
      refine lv_iload_n hx hb dX6_removeCue_23 rfl (lv_at hl 2 rfl) ?_
      obtain ⟨zX6, ze7, hf⟩ := nn_some hf
      refine x_cv (I1 := I) (X1 := zX6) (x_runV (As := [.int zx1]) (rest := []) C0 (c6_makeLast l E G fl X I zx0 zx1 zt0 ze7) hw 6 zt0 (by decide) rfl wd32 wd315 wd243 wd244 wd146 ⟨rfl, rfl⟩ hy6_makeLast ⟨Nat.le_of_ble_eq_true rfl, Nat.le_of_ble_eq_true rfl⟩ rfl hl.1 (Nat.le_of_ble_eq_true rfl) ⟨Nat.zero_le _, Nat.zero_le _⟩ dX6_removeCue_24) hw (fun H locs hw => ?_)
      refine lv_aload_n hx hb dX6_removeCue_27 rfl (lv_at hl 1 rfl) ?_
      refine lv_dup hx hb dX6_removeCue_28 rfl ?_
      refine xg_6_1 C0 hw zt0 wd168 dX6_removeCue_29 ?_
      refine lv_iconst (v := (1 : Int32)) hx hb dX6_removeCue_32 (by decide) ?_
      refine lv_isub hx hb dX6_removeCue_33 ?_
      obtain ⟨zI8, ezI8⟩ : ∃ y : Im, y = pF I 97 zx0 ((gF I 97 zx0) - (1 : Int32)) := ⟨_, rfl⟩
      have hf := lt_at hf ezI8
      refine xp_6_1 C0 hz hw zt0 rfl rfl wd168 dX6_removeCue_34 ezI8 (fun H locs hw => ?_)
      refine lv_aload_n hx hb dX6_removeCue_37 rfl (lv_at hl 1 rfl) ?_
      refine xg_6_1 C0 hw zt0 wd168 dX6_removeCue_38 ?_
      obtain rfl := Option.some.inj hf
      exact x_iret C0 hr hw dX6_removeCue_41
    · have hf := ite_f hf zc5
      refine lv_bipush (v := (-5 : Int32)) hx hb dX6_removeCue_19 (by decide) ?_
      obtain rfl := Option.some.inj hf
      exact x_iret C0 hr hw dX6_removeCue_21
  · have hf := ite_t hf zc3
    refine lv_iconst (v := (-1 : Int32)) hx hb dX6_removeCue_10 (by decide) ?_
    obtain rfl := Option.some.inj hf
    exact x_iret C0 hr hw dX6_removeCue_11
noncomputable def m8_takeOut (fl : Nat) (len : Nat → Nat) (X : Xm) (I : Im) (zx0 : Nat) (zx1 : Int32) : Option (Int32 × Im × Xm) :=
  nn (m8_holdState fl len X I zx0) fun zI1 =>
  nn (gR X 128 zx0) fun zv3 =>
  nn (gR X 65 zv3) fun zv4 =>
  nn (m6_removeCue fl len X zI1 zv4 zx1) fun ⟨zv5, zI6, zX7⟩ =>
  nn (m8_recorded fl len zX7 zI6 zx0 zv5) fun ⟨zv9, zI10, zX11⟩ =>
  some (zv9, zI10, zX11)
theorem hy8_takeOut : yX8_takeOut.cls = RX8 ∧ yX8_takeOut.cls ≠ "java/lang/invoke/MethodHandle" ∧ yX8_takeOut.cls ≠ "java/lang/invoke/VarHandle" ∧ (parseMethodDescriptor yX8_takeOut.desc).map (fun d => d.parameters.length) = some 1 := ⟨rfl, by decide +kernel, by decide +kernel, by decide +kernel⟩
set_option maxHeartbeats 4000000 in
set_option maxRecDepth 100000 in
theorem c8_takeOut (l : Launch) (E : EN) (G : GM) (fl : Nat) (X : Xm) (I : Im) (zx0 : Nat) (zx1 : Int32) (zt0 : okA E G 8 zx0) {rr : Int32 × Im × Xm} (hf : m8_takeOut fl G.2.2 X I zx0 zx1 = some rr) : MT l yX8_takeOut cX8_takeOut 2 (some .int) ({ frames := 4, cells := 0, slots := 0, locals := 90 } : Room) E G I X [.ref zx0, .int zx1] (QI E G rr.1 rr.2.1 rr.2.2) 0 0 := by
  refine Met.ofW (cc := cX8_takeOut) (maxL := 2) (ret := (some .int)) (by decide +kernel) rfl ?_
  intro p e s m args below meth c s₁ B hml hv
  obtain ⟨rfl, hw0, hSE⟩ := hv
  have C0 : CX p s m ([.ref zx0, .int zx1] : List Value).toArray meth c E cX8_takeOut RX8 2 := ⟨B.exec, B.bytes, hml, findClass_of_methodNamed B.named, fun w hw => atoms_spec (ws := WS yX8_takeOut cX8_takeOut 2 (some .int)) B.pre w (List.mem_cons_of_mem _ hw), B.notSynchronized, hSE⟩
  have hz : s.heap.size + 0 ≤ eB E + G.1 := Nat.le_of_eq hw0.2.1
  have hw : WD E G I X s.heap s.heap [] := ⟨hw0, va_S.rf⟩
  have hr := B.returns
  have hx := C0.1; have hb := C0.2.1; have hml := C0.2.2.1; have hown := C0.2.2.2.1; have hts := C0.2.2.2.2.1
  have hl := lv_entry ([.ref zx0, .int zx1]) (n := 2) (Nat.le_of_ble_eq_true rfl)
  rw [lg_entry_eq]
  generalize (lg_sl ([.ref zx0, .int zx1]) ++ List.replicate (2 - (lg_sl ([.ref zx0, .int zx1])).length) Slot.unset).toArray = ls at hl ⊢
  have hl : lv_has ls 2 [(0, .ref zx0), (1, .int zx1)] := hl
  unfold m8_takeOut at hf
  refine lv_aload_n hx hb dX8_takeOut_0 rfl (lv_at hl 0 rfl) ?_
  obtain ⟨zI1, ze2, hf⟩ := nn_some hf
  refine x_cv (I1 := zI1) (X1 := X) (x_runV (As := []) (rest := []) C0 (c8_holdState l E G fl X I zx0 zt0 ze2) hw 8 zt0 (by decide) rfl wd57 wd339 wd340 wd341 wd107 ⟨rfl, rfl⟩ hy8_holdState ⟨Nat.le_of_ble_eq_true rfl, Nat.le_of_ble_eq_true rfl⟩ rfl hl.1 (Nat.le_of_ble_eq_true rfl) ⟨Nat.zero_le _, Nat.zero_le _⟩ dX8_takeOut_1) hw (fun H locs hw => ?_)
  refine lv_aload_n hx hb dX8_takeOut_4 rfl (lv_at hl 0 rfl) ?_
  refine lv_aload_n hx hb dX8_takeOut_5 rfl (lv_at hl 0 rfl) ?_
  obtain ⟨zv3, ezv3, hf⟩ := nn_some hf
  have tzv3 : okA E G 4 zv3 := wt_r hw ezv3
  refine xg_8_0 C0 hw zt0 wd319 ezv3 dX8_takeOut_6 ?_
  obtain ⟨zv4, ezv4, hf⟩ := nn_some hf
  have tzv4 : okA E G 6 zv4 := wt_r hw ezv4
  refine xg_4_1 C0 hw tzv3 wd354 ezv4 dX8_takeOut_9 ?_
  refine lv_iload_n hx hb dX8_takeOut_12 rfl (lv_at hl 1 rfl) ?_
  obtain ⟨⟨zv5, zI6, zX7⟩, ze8, hf⟩ := nn_some hf
  refine x_ci (r := zv5) (I1 := zI6) (X1 := zX7) (x_runV (As := [.int zx1]) (rest := [.ref zx0]) C0 (c6_removeCue l E G fl X zI1 zv4 zx1 tzv4 ze8) hw 6 tzv4 (by decide) rfl wd55 wd355 wd356 wd357 wd146 ⟨rfl, rfl⟩ hy6_removeCue ⟨Nat.le_of_ble_eq_true rfl, Nat.le_of_ble_eq_true rfl⟩ rfl hl.1 (Nat.le_of_ble_eq_true rfl) ⟨Nat.zero_le _, Nat.zero_le _⟩ dX8_takeOut_13) hw (fun H locs hw => ?_)
  obtain ⟨⟨zv9, zI10, zX11⟩, ze12, hf⟩ := nn_some hf
  refine x_ci (r := zv9) (I1 := zI10) (X1 := zX11) (x_runV (As := [.int zv5]) (rest := []) C0 (c8_recorded l E G fl zX7 zI6 zx0 zv5 zt0 ze12) hw 8 zt0 (by decide) rfl wd59 wd345 wd346 wd347 wd107 ⟨rfl, rfl⟩ hy8_recorded ⟨Nat.le_of_ble_eq_true rfl, Nat.le_of_ble_eq_true rfl⟩ rfl hl.1 (Nat.le_of_ble_eq_true rfl) ⟨Nat.zero_le _, Nat.zero_le _⟩ dX8_takeOut_16) hw (fun H locs hw => ?_)
  obtain rfl := Option.some.inj hf
  exact x_iret C0 hr hw dX8_takeOut_19
noncomputable def m4_moveCue_44 (fl : Nat) (len : Nat → Nat) (I : Im) (X : Xm) : Option (Int32 × Im × Xm) :=
  some ((-5 : Int32), I, X)
set_option maxHeartbeats 4000000 in
set_option maxRecDepth 100000 in
theorem w4_moveCue_44 {p : Program} {l : Launch} {e : Env} {s : State} {m : MethodId} {args : Array Value} {below : List Frame} {meth : Method} {c : Code} {E : EN} {G : GM} (C0 : CX p s m args meth c E cX4_moveCue RX4 4) (hr : meth.sig.returnType = (some .int)) (hz : s.heap.size + 0 ≤ eB E + G.1) {rr : Int32 × Im × Xm} (fl : Nat) : ∀ (I : Im) (X : Xm) (H : Heap) (locs : List Loc) (ls : Array Slot) , WD E G I X s.heap H locs → lv_has ls 4 [] → m4_moveCue_44 fl G.2.2 I X = some rr → W p l e ({ frames := 2, cells := 0, slots := 0, locals := 44 } : Room) s m args below meth c H locs 0 0 (MQ below (QI E G rr.1 rr.2.1 rr.2.2) args s 0 0 (eA E)) (F0 m 44 ls []) := by
  intro I X H locs ls hw hl hf
  unfold m4_moveCue_44 at hf
  have hx := C0.1; have hb := C0.2.1; have hml := C0.2.2.1; have hown := C0.2.2.2.1; have hts := C0.2.2.2.2.1
  refine lv_bipush (v := (-5 : Int32)) hx hb dX4_moveCue_44 (by decide) ?_
  obtain rfl := Option.some.inj hf
  exact x_iret C0 hr hw dX4_moveCue_46
noncomputable def m4_moveCue (fl : Nat) (len : Nat → Nat) (X : Xm) (I : Im) (zx0 : Nat) (zx1 : Int32) (zx2 : Int32) : Option (Int32 × Im × Xm) :=
  nn (gR X 65 zx0) fun zv1 =>
  nn (m6_cueAt fl len X I zv1 zx1) fun zv2 =>
  if zv2 = none then
    some ((-1 : Int32), I, X)
  else
    nn (m8_within fl len X I zx2 (0 : Int32) (999 : Int32)) fun zv5 =>
    if zv5 = 0 then
      some ((-2 : Int32), I, X)
    else
      nn zv2 fun zb8 =>
      if (gF I 20 zb8) = 0 then
        if (gF I 72 zx0) ≤ zx2 then
          nn (m6_makeLast fl len X I zv1 zx1) fun zX11 =>
          lt (pF I 16 zb8 zx2) fun zI13 =>
          nn (gR zX11 65 zx0) fun zv14 =>
          nn (m6_sortLast fl len zX11 zI13 zv14) fun ⟨zv15, zX16⟩ =>
          some (zv15, zI13, zX16)
        else
          m4_moveCue_44 fl len I X
      else
        m4_moveCue_44 fl len I X
theorem hy4_moveCue : yX4_moveCue.cls = RX4 ∧ yX4_moveCue.cls ≠ "java/lang/invoke/MethodHandle" ∧ yX4_moveCue.cls ≠ "java/lang/invoke/VarHandle" ∧ (parseMethodDescriptor yX4_moveCue.desc).map (fun d => d.parameters.length) = some 2 := ⟨rfl, by decide +kernel, by decide +kernel, by decide +kernel⟩
set_option maxHeartbeats 4000000 in
set_option maxRecDepth 100000 in
theorem c4_moveCue (l : Launch) (E : EN) (G : GM) (fl : Nat) (X : Xm) (I : Im) (zx0 : Nat) (zx1 : Int32) (zx2 : Int32) (zt0 : okA E G 4 zx0) {rr : Int32 × Im × Xm} (hf : m4_moveCue fl G.2.2 X I zx0 zx1 zx2 = some rr) : MT l yX4_moveCue cX4_moveCue 4 (some .int) ({ frames := 2, cells := 0, slots := 0, locals := 44 } : Room) E G I X [.ref zx0, .int zx1, .int zx2] (QI E G rr.1 rr.2.1 rr.2.2) 0 0 := by
  refine Met.ofW (cc := cX4_moveCue) (maxL := 4) (ret := (some .int)) (by decide +kernel) rfl ?_
  intro p e s m args below meth c s₁ B hml hv
  obtain ⟨rfl, hw0, hSE⟩ := hv
  have C0 : CX p s m ([.ref zx0, .int zx1, .int zx2] : List Value).toArray meth c E cX4_moveCue RX4 4 := ⟨B.exec, B.bytes, hml, findClass_of_methodNamed B.named, fun w hw => atoms_spec (ws := WS yX4_moveCue cX4_moveCue 4 (some .int)) B.pre w (List.mem_cons_of_mem _ hw), B.notSynchronized, hSE⟩
  have hz : s.heap.size + 0 ≤ eB E + G.1 := Nat.le_of_eq hw0.2.1
  have hw : WD E G I X s.heap s.heap [] := ⟨hw0, va_S.rf⟩
  have hr := B.returns
  have hx := C0.1; have hb := C0.2.1; have hml := C0.2.2.1; have hown := C0.2.2.2.1; have hts := C0.2.2.2.2.1
  have hl := lv_entry ([.ref zx0, .int zx1, .int zx2]) (n := 4) (Nat.le_of_ble_eq_true rfl)
  rw [lg_entry_eq]
  generalize (lg_sl ([.ref zx0, .int zx1, .int zx2]) ++ List.replicate (4 - (lg_sl ([.ref zx0, .int zx1, .int zx2])).length) Slot.unset).toArray = ls at hl ⊢
  have hl : lv_has ls 4 [(0, .ref zx0), (1, .int zx1), (2, .int zx2)] := hl
  unfold m4_moveCue at hf
  refine lv_aload_n hx hb dX4_moveCue_0 rfl (lv_at hl 0 rfl) ?_
  obtain ⟨zv1, ezv1, hf⟩ := nn_some hf
  have tzv1 : okA E G 6 zv1 := wt_r hw ezv1
  refine xg_4_1 C0 hw zt0 wd147 ezv1 dX4_moveCue_1 ?_
  refine lv_iload_n hx hb dX4_moveCue_4 rfl (lv_at hl 1 rfl) ?_
  obtain ⟨zv2, ze3, hf⟩ := nn_some hf
  refine x_co (r := zv2) (I1 := I) (X1 := X) (x_runV (As := [.int zx1]) (rest := []) C0 (c6_cueAt l E G fl X I zv1 zx1 tzv1 ze3) hw 6 tzv1 (by decide) rfl wd28 wd241 wd223 wd224 wd146 ⟨rfl, rfl⟩ hy6_cueAt ⟨Nat.le_of_ble_eq_true rfl, Nat.le_of_ble_eq_true rfl⟩ rfl hl.1 (Nat.le_of_ble_eq_true rfl) ⟨Nat.zero_le _, Nat.zero_le _⟩ dX4_moveCue_5) hw (fun H locs hw tzv2 => ?_)
  refine x_astore_n (lv' := [(3, va_rf zv2), (0, .ref zx0), (1, .int zx1), (2, .int zx2)]) C0 dX4_moveCue_8 rfl hl (by decide) rfl (fun ls hl => ?_)
  refine x_aload_n C0 dX4_moveCue_9 rfl (lv_at hl 0 rfl) ?_
  refine x_ifnonnull (tgt := 15) C0 dX4_moveCue_10 (by decide) (fun zc4 => ?_) (fun zc4 => ?_)
  · have hf := ite_f hf zc4
    refine lv_iload_n hx hb dX4_moveCue_15 rfl (lv_at hl 3 rfl) ?_
    refine lv_iconst (v := (0 : Int32)) hx hb dX4_moveCue_16 (by decide) ?_
    refine lv_sipush (v := (999 : Int32)) hx hb dX4_moveCue_17 (by decide) ?_
    obtain ⟨zv5, ze6, hf⟩ := nn_some hf
    refine x_ci (r := zv5) (I1 := I) (X1 := X) (x_runSN (As := [.int zx2, .int (0 : Int32), .int (999 : Int32)]) (rest := []) (host := "RadioCues") C0 (c8_within l E G fl X I zx2 (0 : Int32) (999 : Int32) ze6) hw wd20 (List.mem_of_getElem? (i := 5) rfl) wd203 wd107 ⟨rfl, rfl⟩ hy8_within.2 ⟨Nat.le_of_ble_eq_true rfl, Nat.le_of_ble_eq_true rfl⟩ rfl hl.1 (Nat.le_of_ble_eq_true rfl) ⟨Nat.zero_le _, Nat.zero_le _⟩ dX4_moveCue_20) hw (fun H locs hw => ?_)
    refine lv_if_ne (tgt := 29) hx hb dX4_moveCue_23 (by decide) (fun zc7 => ?_) (fun zc7 => ?_)
    · have hf := ite_f hf zc7
      refine x_aload_n C0 dX4_moveCue_29 rfl (lv_at hl 0 rfl) ?_
      obtain ⟨zb8, ezb8, hfzb8⟩ := nn_some hf
      have tzb8 : okA E G 1 zb8 := tzv2 _ ezb8
      subst ezb8
      have hf := hfzb8
      refine xg_1_4 C0 hw tzb8 wd239 dX4_moveCue_30 ?_
      refine lv_if_ne (tgt := 44) hx hb dX4_moveCue_33 (by decide) (fun zc9 => ?_) (fun zc9 => ?_)
      · have hf := ite_f hf zc9
        exact w4_moveCue_44 C0 hr hz fl I X _ _ _ hw (lv_sub hl [] rfl) hf
      · have hf := ite_t hf zc9
        refine lv_iload_n hx hb dX4_moveCue_36 rfl (lv_at hl 3 rfl) ?_
        refine lv_aload_n hx hb dX4_moveCue_37 rfl (lv_at hl 1 rfl) ?_
        refine xg_4_8 C0 hw zt0 wd183 dX4_moveCue_38 ?_
        refine lv_icmp_ge (tgt := 47) hx hb dX4_moveCue_41 (by decide) (fun zc10 => ?_) (fun zc10 => ?_)
        · have hf := ite_t hf zc10
          refine lv_aload_n hx hb dX4_moveCue_47 rfl (lv_at hl 1 rfl) ?_
          refine xg_4_1 C0 hw zt0 wd147 ezv1 dX4_moveCue_48 ?_
          refine lv_iload_n hx hb dX4_moveCue_51 rfl (lv_at hl 2 rfl) ?_
          obtain ⟨zX11, ze12, hf⟩ := nn_some hf
          refine x_cv (I1 := I) (X1 := zX11) (x_runV (As := [.int zx1]) (rest := []) C0 (c6_makeLast l E G fl X I zv1 zx1 tzv1 ze12) hw 6 tzv1 (by decide) rfl wd32 wd242 wd243 wd244 wd146 ⟨rfl, rfl⟩ hy6_makeLast ⟨Nat.le_of_ble_eq_true rfl, Nat.le_of_ble_eq_true rfl⟩ rfl hl.1 (Nat.le_of_ble_eq_true rfl) ⟨Nat.zero_le _, Nat.zero_le _⟩ dX4_moveCue_52) hw (fun H locs hw => ?_)
          refine lv_aload_n hx hb dX4_moveCue_55 rfl (lv_at hl 0 rfl) ?_
          refine lv_iload_n hx hb dX4_moveCue_56 rfl (lv_at hl 3 rfl) ?_
          obtain ⟨zI13, ezI13⟩ : ∃ y : Im, y = pF I 16 zb8 zx2 := ⟨_, rfl⟩
          have hf := lt_at hf ezI13
          refine xp_1_0 C0 hz hw tzb8 rfl rfl wd240 dX4_moveCue_57 ezI13 (fun H locs hw => ?_)
          refine lv_aload_n hx hb dX4_moveCue_60 rfl (lv_at hl 1 rfl) ?_
          obtain ⟨zv14, ezv14, hf⟩ := nn_some hf
          have tzv14 : okA E G 6 zv14 := wt_r hw ezv14
          refine xg_4_1 C0 hw zt0 wd147 ezv14 dX4_moveCue_61 ?_
          obtain ⟨⟨zv15, zX16⟩, ze17, hf⟩ := nn_some hf
          refine x_ci (r := zv15) (I1 := zI13) (X1 := zX16) (x_runV (As := []) (rest := []) C0 (c6_sortLast l E G fl zX11 zI13 zv14 tzv14 ze17) hw 6 tzv14 (by decide) rfl wd29 wd245 wd230 wd231 wd146 ⟨rfl, rfl⟩ hy6_sortLast ⟨Nat.le_of_ble_eq_true rfl, Nat.le_of_ble_eq_true rfl⟩ rfl hl.1 (Nat.le_of_ble_eq_true rfl) ⟨Nat.zero_le _, Nat.zero_le _⟩ dX4_moveCue_64) hw (fun H locs hw => ?_)
          obtain rfl := Option.some.inj hf
          exact x_iret C0 hr hw dX4_moveCue_67
        · have hf := ite_f hf zc10
          exact w4_moveCue_44 C0 hr hz fl I X _ _ _ hw (lv_sub hl [] rfl) hf
    · have hf := ite_t hf zc7
      refine lv_bipush (v := (-2 : Int32)) hx hb dX4_moveCue_26 (by decide) ?_
      obtain rfl := Option.some.inj hf
      exact x_iret C0 hr hw dX4_moveCue_28
  · have hf := ite_t hf zc4
    refine lv_iconst (v := (-1 : Int32)) hx hb dX4_moveCue_13 (by decide) ?_
    obtain rfl := Option.some.inj hf
    exact x_iret C0 hr hw dX4_moveCue_14
noncomputable def m8_move (fl : Nat) (len : Nat → Nat) (X : Xm) (I : Im) (zx0 : Nat) (zx1 : Int32) (zx2 : Int32) : Option (Int32 × Im × Xm) :=
  nn (m8_holdState fl len X I zx0) fun zI1 =>
  nn (gR X 128 zx0) fun zv3 =>
  nn (m4_moveCue fl len X zI1 zv3 zx1 zx2) fun ⟨zv4, zI5, zX6⟩ =>
  nn (m8_recorded fl len zX6 zI5 zx0 zv4) fun ⟨zv8, zI9, zX10⟩ =>
  some (zv8, zI9, zX10)
theorem hy8_move : yX8_move.cls = RX8 ∧ yX8_move.cls ≠ "java/lang/invoke/MethodHandle" ∧ yX8_move.cls ≠ "java/lang/invoke/VarHandle" ∧ (parseMethodDescriptor yX8_move.desc).map (fun d => d.parameters.length) = some 2 := ⟨rfl, by decide +kernel, by decide +kernel, by decide +kernel⟩
set_option maxHeartbeats 4000000 in
set_option maxRecDepth 100000 in
theorem c8_move (l : Launch) (E : EN) (G : GM) (fl : Nat) (X : Xm) (I : Im) (zx0 : Nat) (zx1 : Int32) (zx2 : Int32) (zt0 : okA E G 8 zx0) {rr : Int32 × Im × Xm} (hf : m8_move fl G.2.2 X I zx0 zx1 zx2 = some rr) : MT l yX8_move cX8_move 3 (some .int) ({ frames := 4, cells := 0, slots := 0, locals := 90 } : Room) E G I X [.ref zx0, .int zx1, .int zx2] (QI E G rr.1 rr.2.1 rr.2.2) 0 0 := by
  refine Met.ofW (cc := cX8_move) (maxL := 3) (ret := (some .int)) (by decide +kernel) rfl ?_
  intro p e s m args below meth c s₁ B hml hv
  obtain ⟨rfl, hw0, hSE⟩ := hv
  have C0 : CX p s m ([.ref zx0, .int zx1, .int zx2] : List Value).toArray meth c E cX8_move RX8 3 := ⟨B.exec, B.bytes, hml, findClass_of_methodNamed B.named, fun w hw => atoms_spec (ws := WS yX8_move cX8_move 3 (some .int)) B.pre w (List.mem_cons_of_mem _ hw), B.notSynchronized, hSE⟩
  have hz : s.heap.size + 0 ≤ eB E + G.1 := Nat.le_of_eq hw0.2.1
  have hw : WD E G I X s.heap s.heap [] := ⟨hw0, va_S.rf⟩
  have hr := B.returns
  have hx := C0.1; have hb := C0.2.1; have hml := C0.2.2.1; have hown := C0.2.2.2.1; have hts := C0.2.2.2.2.1
  have hl := lv_entry ([.ref zx0, .int zx1, .int zx2]) (n := 3) (Nat.le_of_ble_eq_true rfl)
  rw [lg_entry_eq]
  generalize (lg_sl ([.ref zx0, .int zx1, .int zx2]) ++ List.replicate (3 - (lg_sl ([.ref zx0, .int zx1, .int zx2])).length) Slot.unset).toArray = ls at hl ⊢
  have hl : lv_has ls 3 [(0, .ref zx0), (1, .int zx1), (2, .int zx2)] := hl
  unfold m8_move at hf
  refine lv_aload_n hx hb dX8_move_0 rfl (lv_at hl 0 rfl) ?_
  obtain ⟨zI1, ze2, hf⟩ := nn_some hf
  refine x_cv (I1 := zI1) (X1 := X) (x_runV (As := []) (rest := []) C0 (c8_holdState l E G fl X I zx0 zt0 ze2) hw 8 zt0 (by decide) rfl wd57 wd339 wd340 wd341 wd107 ⟨rfl, rfl⟩ hy8_holdState ⟨Nat.le_of_ble_eq_true rfl, Nat.le_of_ble_eq_true rfl⟩ rfl hl.1 (Nat.le_of_ble_eq_true rfl) ⟨Nat.zero_le _, Nat.zero_le _⟩ dX8_move_1) hw (fun H locs hw => ?_)
  refine lv_aload_n hx hb dX8_move_4 rfl (lv_at hl 0 rfl) ?_
  refine lv_aload_n hx hb dX8_move_5 rfl (lv_at hl 0 rfl) ?_
  obtain ⟨zv3, ezv3, hf⟩ := nn_some hf
  have tzv3 : okA E G 4 zv3 := wt_r hw ezv3
  refine xg_8_0 C0 hw zt0 wd319 ezv3 dX8_move_6 ?_
  refine lv_iload_n hx hb dX8_move_9 rfl (lv_at hl 1 rfl) ?_
  refine lv_iload_n hx hb dX8_move_10 rfl (lv_at hl 2 rfl) ?_
  obtain ⟨⟨zv4, zI5, zX6⟩, ze7, hf⟩ := nn_some hf
  refine x_ci (r := zv4) (I1 := zI5) (X1 := zX6) (x_runV (As := [.int zx1, .int zx2]) (rest := [.ref zx0]) C0 (c4_moveCue l E G fl X zI1 zv3 zx1 zx2 tzv3 ze7) hw 4 tzv3 (by decide) rfl wd33 wd358 wd359 wd360 wd202 ⟨rfl, rfl⟩ hy4_moveCue ⟨Nat.le_of_ble_eq_true rfl, Nat.le_of_ble_eq_true rfl⟩ rfl hl.1 (Nat.le_of_ble_eq_true rfl) ⟨Nat.zero_le _, Nat.zero_le _⟩ dX8_move_11) hw (fun H locs hw => ?_)
  obtain ⟨⟨zv8, zI9, zX10⟩, ze11, hf⟩ := nn_some hf
  refine x_ci (r := zv8) (I1 := zI9) (X1 := zX10) (x_runV (As := [.int zv4]) (rest := []) C0 (c8_recorded l E G fl zX6 zI5 zx0 zv4 zt0 ze11) hw 8 zt0 (by decide) rfl wd59 wd345 wd346 wd347 wd107 ⟨rfl, rfl⟩ hy8_recorded ⟨Nat.le_of_ble_eq_true rfl, Nat.le_of_ble_eq_true rfl⟩ rfl hl.1 (Nat.le_of_ble_eq_true rfl) ⟨Nat.zero_le _, Nat.zero_le _⟩ dX8_move_14) hw (fun H locs hw => ?_)
  obtain rfl := Option.some.inj hf
  exact x_iret C0 hr hw dX8_move_17
noncomputable def m4_changeSetting_49 (fl : Nat) (len : Nat → Nat) (X : Xm) (I : Im) : Option (Int32 × Im) :=
  some ((-2 : Int32), I)
set_option maxHeartbeats 4000000 in
set_option maxRecDepth 100000 in
theorem w4_changeSetting_49 {p : Program} {l : Launch} {e : Env} {s : State} {m : MethodId} {args : Array Value} {below : List Frame} {meth : Method} {c : Code} {E : EN} {G : GM} {X : Xm} (C0 : CX p s m args meth c E cX4_changeSetting RX4 4) (hr : meth.sig.returnType = (some .int)) (hz : s.heap.size + 0 ≤ eB E + G.1) {rr : Int32 × Im} (fl : Nat) : ∀ (I : Im) (H : Heap) (locs : List Loc) (ls : Array Slot) , WD E G I X s.heap H locs → lv_has ls 4 [] → m4_changeSetting_49 fl G.2.2 X I = some rr → W p l e ({ frames := 1, cells := 0, slots := 0, locals := 22 } : Room) s m args below meth c H locs 0 0 (MQ below (QI E G rr.1 rr.2 X) args s 0 0 (eA E)) (F0 m 49 ls []) := by
  intro I H locs ls hw hl hf
  unfold m4_changeSetting_49 at hf
  have hx := C0.1; have hb := C0.2.1; have hml := C0.2.2.1; have hown := C0.2.2.2.1; have hts := C0.2.2.2.2.1
  refine lv_bipush (v := (-2 : Int32)) hx hb dX4_changeSetting_49 (by decide) ?_
  obtain rfl := Option.some.inj hf
  exact x_iret C0 hr hw dX4_changeSetting_51
noncomputable def m4_changeSetting_21 (fl : Nat) (len : Nat → Nat) (X : Xm) (I : Im) : Option (Int32 × Im) :=
  some ((-2 : Int32), I)
set_option maxHeartbeats 4000000 in
set_option maxRecDepth 100000 in
theorem w4_changeSetting_21 {p : Program} {l : Launch} {e : Env} {s : State} {m : MethodId} {args : Array Value} {below : List Frame} {meth : Method} {c : Code} {E : EN} {G : GM} {X : Xm} (C0 : CX p s m args meth c E cX4_changeSetting RX4 4) (hr : meth.sig.returnType = (some .int)) (hz : s.heap.size + 0 ≤ eB E + G.1) {rr : Int32 × Im} (fl : Nat) : ∀ (I : Im) (H : Heap) (locs : List Loc) (ls : Array Slot) , WD E G I X s.heap H locs → lv_has ls 4 [] → m4_changeSetting_21 fl G.2.2 X I = some rr → W p l e ({ frames := 1, cells := 0, slots := 0, locals := 22 } : Room) s m args below meth c H locs 0 0 (MQ below (QI E G rr.1 rr.2 X) args s 0 0 (eA E)) (F0 m 21 ls []) := by
  intro I H locs ls hw hl hf
  unfold m4_changeSetting_21 at hf
  have hx := C0.1; have hb := C0.2.1; have hml := C0.2.2.1; have hown := C0.2.2.2.1; have hts := C0.2.2.2.2.1
  refine lv_bipush (v := (-2 : Int32)) hx hb dX4_changeSetting_21 (by decide) ?_
  obtain rfl := Option.some.inj hf
  exact x_iret C0 hr hw dX4_changeSetting_23
noncomputable def m4_changeSetting (fl : Nat) (len : Nat → Nat) (X : Xm) (I : Im) (zx0 : Nat) (zx1 : Int32) (zx2 : Int32) : Option (Int32 × Im) :=
  if zx1 < 0 then
    m4_changeSetting_21 fl len X I
  else
    nn (gR X 64 zx0) fun zv2 =>
    if (nI (len zv2)) ≤ zx1 then
      m4_changeSetting_21 fl len X I
    else
      if zx1 < (4 : Int32) then
        if (4 : Int32) ≤ zx1 then
          m4_changeSetting_49 fl len X I
        else
          ck (inb zx1 4 = true) <|
          ck (inb zx1 4 = true) <|
          nn (m8_within fl len X I zx2 (leastS.getD (zx1).toNatClampNeg 0) (mostS.getD (zx1).toNatClampNeg 0)) fun zv12 =>
          if zv12 = 0 then
            m4_changeSetting_49 fl len X I
          else
            ck (inb zx1 (len zv2) = true) <|
            lt ((gA I zv2 (zx1).toNatClampNeg)) fun zv16 =>
            lt (pA I zv2 (zx1).toNatClampNeg zx2) fun zI17 =>
            some (zv16, zI17)
      else
        m4_changeSetting_21 fl len X I
theorem hy4_changeSetting : yX4_changeSetting.cls = RX4 ∧ yX4_changeSetting.cls ≠ "java/lang/invoke/MethodHandle" ∧ yX4_changeSetting.cls ≠ "java/lang/invoke/VarHandle" ∧ (parseMethodDescriptor yX4_changeSetting.desc).map (fun d => d.parameters.length) = some 2 := ⟨rfl, by decide +kernel, by decide +kernel, by decide +kernel⟩
set_option maxHeartbeats 4000000 in
set_option maxRecDepth 100000 in
theorem c4_changeSetting (l : Launch) (E : EN) (G : GM) (fl : Nat) (X : Xm) (I : Im) (zx0 : Nat) (zx1 : Int32) (zx2 : Int32) (zt0 : okA E G 4 zx0) {rr : Int32 × Im} (hf : m4_changeSetting fl G.2.2 X I zx0 zx1 zx2 = some rr) : MT l yX4_changeSetting cX4_changeSetting 4 (some .int) ({ frames := 1, cells := 0, slots := 0, locals := 22 } : Room) E G I X [.ref zx0, .int zx1, .int zx2] (QI E G rr.1 rr.2 X) 0 0 := by
  refine Met.ofW (cc := cX4_changeSetting) (maxL := 4) (ret := (some .int)) (by decide +kernel) rfl ?_
  intro p e s m args below meth c s₁ B hml hv
  obtain ⟨rfl, hw0, hSE⟩ := hv
  have C0 : CX p s m ([.ref zx0, .int zx1, .int zx2] : List Value).toArray meth c E cX4_changeSetting RX4 4 := ⟨B.exec, B.bytes, hml, findClass_of_methodNamed B.named, fun w hw => atoms_spec (ws := WS yX4_changeSetting cX4_changeSetting 4 (some .int)) B.pre w (List.mem_cons_of_mem _ hw), B.notSynchronized, hSE⟩
  have hz : s.heap.size + 0 ≤ eB E + G.1 := Nat.le_of_eq hw0.2.1
  have hw : WD E G I X s.heap s.heap [] := ⟨hw0, va_S.rf⟩
  have hr := B.returns
  have hx := C0.1; have hb := C0.2.1; have hml := C0.2.2.1; have hown := C0.2.2.2.1; have hts := C0.2.2.2.2.1
  have hl := lv_entry ([.ref zx0, .int zx1, .int zx2]) (n := 4) (Nat.le_of_ble_eq_true rfl)
  rw [lg_entry_eq]
  generalize (lg_sl ([.ref zx0, .int zx1, .int zx2]) ++ List.replicate (4 - (lg_sl ([.ref zx0, .int zx1, .int zx2])).length) Slot.unset).toArray = ls at hl ⊢
  have hl : lv_has ls 4 [(0, .ref zx0), (1, .int zx1), (2, .int zx2)] := hl
  unfold m4_changeSetting at hf
  refine lv_iload_n hx hb dX4_changeSetting_0 rfl (lv_at hl 1 rfl) ?_
  refine lv_if_lt (tgt := 21) hx hb dX4_changeSetting_1 (by decide) (fun zc1 => ?_) (fun zc1 => ?_)
  · have hf := ite_t hf zc1
    exact w4_changeSetting_21 C0 hr hz fl I _ _ _ hw (lv_sub hl [] rfl) hf
  · have hf := ite_f hf zc1
    refine lv_iload_n hx hb dX4_changeSetting_4 rfl (lv_at hl 1 rfl) ?_
    refine lv_aload_n hx hb dX4_changeSetting_5 rfl (lv_at hl 0 rfl) ?_
    obtain ⟨zv2, ezv2, hf⟩ := nn_some hf
    have tzv2 : okA E G 11 zv2 := wt_r hw ezv2
    refine xg_4_0 C0 hw zt0 wd143 ezv2 dX4_changeSetting_6 ?_
    refine x_alen C0 hw 11 tzv2 (by decide) rfl dX4_changeSetting_9 ?_
    refine lv_icmp_ge (tgt := 21) hx hb dX4_changeSetting_10 (by decide) (fun zc3 => ?_) (fun zc3 => ?_)
    · have hf := ite_t hf zc3
      exact w4_changeSetting_21 C0 hr hz fl I _ _ _ hw (lv_sub hl [] rfl) hf
    · have hf := ite_f hf zc3
      refine lv_iload_n hx hb dX4_changeSetting_13 rfl (lv_at hl 1 rfl) ?_
      obtain ⟨zz4, hZzz4, hTzz4⟩ := C0.2.2.2.2.2.2.2.2.2.2.2.1
      refine va_getsN (ref := "RadioCues") (host := "RadioCues") hx hb hZzz4 hw.2 hown (va_Nw.use rfl (C0.2.2.2.2.2.2.2.2.1 ("RadioCues$Play", 82, "RadioCues", "LEAST_SETTING", "[I", "RadioCues") (by decide +kernel))) (fun _ h => h) dX4_changeSetting_14 ?_
      refine va_tlen (v := (4 : Int32)) hx hb hTzz4 hw.2 rfl dX4_changeSetting_17 ?_
      refine lv_icmp_lt (tgt := 24) hx hb dX4_changeSetting_18 (by decide) (fun zc5 => ?_) (fun zc5 => ?_)
      · have hf := ite_t hf zc5
        refine lv_iload_n hx hb dX4_changeSetting_24 rfl (lv_at hl 1 rfl) ?_
        obtain ⟨zz6, hZzz6, hTzz6⟩ := C0.2.2.2.2.2.2.2.2.2.2.2.2.1
        refine va_getsN (ref := "RadioCues") (host := "RadioCues") hx hb hZzz6 hw.2 hown (va_Nw.use rfl (C0.2.2.2.2.2.2.2.2.1 ("RadioCues$Play", 85, "RadioCues", "MOST_SETTING", "[I", "RadioCues") (by decide +kernel))) (fun _ h => h) dX4_changeSetting_25 ?_
        refine va_tlen (v := (4 : Int32)) hx hb hTzz6 hw.2 rfl dX4_changeSetting_28 ?_
        refine lv_icmp_ge (tgt := 49) hx hb dX4_changeSetting_29 (by decide) (fun zc7 => ?_) (fun zc7 => ?_)
        · have hf := ite_t hf zc7
          exact w4_changeSetting_49 C0 hr hz fl I _ _ _ hw (lv_sub hl [] rfl) hf
        · have hf := ite_f hf zc7
          refine lv_iload_n hx hb dX4_changeSetting_32 rfl (lv_at hl 2 rfl) ?_
          obtain ⟨zz8, hZzz8, hTzz8⟩ := C0.2.2.2.2.2.2.2.2.2.2.2.1
          refine va_getsN (ref := "RadioCues") (host := "RadioCues") hx hb hZzz8 hw.2 hown (va_Nw.use rfl (C0.2.2.2.2.2.2.2.2.1 ("RadioCues$Play", 82, "RadioCues", "LEAST_SETTING", "[I", "RadioCues") (by decide +kernel))) (fun _ h => h) dX4_changeSetting_33 ?_
          refine lv_iload_n hx hb dX4_changeSetting_36 rfl (lv_at hl 1 rfl) ?_
          obtain ⟨zhb9, hf⟩ := ck_some hf
          refine va_ti (v := .int (leastS.getD (zx1).toNatClampNeg 0)) hx hb hTzz8 hw.2 (inb_in zhb9) rfl dX4_changeSetting_37 ?_
          obtain ⟨zz10, hZzz10, hTzz10⟩ := C0.2.2.2.2.2.2.2.2.2.2.2.2.1
          refine va_getsN (ref := "RadioCues") (host := "RadioCues") hx hb hZzz10 hw.2 hown (va_Nw.use rfl (C0.2.2.2.2.2.2.2.2.1 ("RadioCues$Play", 85, "RadioCues", "MOST_SETTING", "[I", "RadioCues") (by decide +kernel))) (fun _ h => h) dX4_changeSetting_38 ?_
          refine lv_iload_n hx hb dX4_changeSetting_41 rfl (lv_at hl 1 rfl) ?_
          obtain ⟨zhb11, hf⟩ := ck_some hf
          refine va_ti (v := .int (mostS.getD (zx1).toNatClampNeg 0)) hx hb hTzz10 hw.2 (inb_in zhb11) rfl dX4_changeSetting_42 ?_
          obtain ⟨zv12, ze13, hf⟩ := nn_some hf
          refine x_ci (r := zv12) (I1 := I) (X1 := X) (x_runSN (As := [.int zx2, .int (leastS.getD (zx1).toNatClampNeg 0), .int (mostS.getD (zx1).toNatClampNeg 0)]) (rest := []) (host := "RadioCues") C0 (c8_within l E G fl X I zx2 (leastS.getD (zx1).toNatClampNeg 0) (mostS.getD (zx1).toNatClampNeg 0) ze13) hw wd20 (List.mem_of_getElem? (i := 5) rfl) wd203 wd107 ⟨rfl, rfl⟩ hy8_within.2 ⟨Nat.le_of_ble_eq_true rfl, Nat.le_of_ble_eq_true rfl⟩ rfl hl.1 (Nat.le_of_ble_eq_true rfl) ⟨Nat.zero_le _, Nat.zero_le _⟩ dX4_changeSetting_43) hw (fun H locs hw => ?_)
          refine lv_if_ne (tgt := 52) hx hb dX4_changeSetting_46 (by decide) (fun zc14 => ?_) (fun zc14 => ?_)
          · have hf := ite_f hf zc14
            refine lv_aload_n hx hb dX4_changeSetting_52 rfl (lv_at hl 0 rfl) ?_
            refine xg_4_0 C0 hw zt0 wd143 ezv2 dX4_changeSetting_53 ?_
            refine lv_iload_n hx hb dX4_changeSetting_56 rfl (lv_at hl 1 rfl) ?_
            obtain ⟨zhb15, hf⟩ := ck_some hf
            refine x_iald C0 hw tzv2 zhb15 dX4_changeSetting_57 ?_
            refine lv_topi (fun zv16 ezv16 => ?_)
            have hf := lt_at hf ezv16
            refine lv_istore_n (lv' := [(3, .int zv16), (0, .ref zx0), (1, .int zx1), (2, .int zx2)]) hx hb dX4_changeSetting_58 rfl hl (by decide) rfl (fun ls hl => ?_)
            refine lv_aload_n hx hb dX4_changeSetting_59 rfl (lv_at hl 1 rfl) ?_
            refine xg_4_0 C0 hw zt0 wd143 ezv2 dX4_changeSetting_60 ?_
            refine lv_iload_n hx hb dX4_changeSetting_63 rfl (lv_at hl 2 rfl) ?_
            refine lv_iload_n hx hb dX4_changeSetting_64 rfl (lv_at hl 3 rfl) ?_
            obtain ⟨zI17, ezI17⟩ : ∃ y : Im, y = pA I zv2 (zx1).toNatClampNeg zx2 := ⟨_, rfl⟩
            have hf := lt_at hf ezI17
            refine x_iast C0 hz hw tzv2 zhb15 dX4_changeSetting_65 ezI17 (fun H locs hw => ?_)
            refine lv_iload_n hx hb dX4_changeSetting_66 rfl (lv_at hl 0 rfl) ?_
            obtain rfl := Option.some.inj hf
            exact x_iret C0 hr hw dX4_changeSetting_67
          · have hf := ite_t hf zc14
            exact w4_changeSetting_49 C0 hr hz fl I _ _ _ hw (lv_sub hl [] rfl) hf
      · have hf := ite_f hf zc5
        exact w4_changeSetting_21 C0 hr hz fl I _ _ _ hw (lv_sub hl [] rfl) hf
noncomputable def m8_set (fl : Nat) (len : Nat → Nat) (X : Xm) (I : Im) (zx0 : Nat) (zx1 : Int32) (zx2 : Int32) : Option (Int32 × Im × Xm) :=
  nn (m8_holdState fl len X I zx0) fun zI1 =>
  nn (gR X 128 zx0) fun zv3 =>
  nn (m4_changeSetting fl len X zI1 zv3 zx1 zx2) fun ⟨zv4, zI5⟩ =>
  nn (m8_recorded fl len X zI5 zx0 zv4) fun ⟨zv7, zI8, zX9⟩ =>
  some (zv7, zI8, zX9)
theorem hy8_set : yX8_set.cls = RX8 ∧ yX8_set.cls ≠ "java/lang/invoke/MethodHandle" ∧ yX8_set.cls ≠ "java/lang/invoke/VarHandle" ∧ (parseMethodDescriptor yX8_set.desc).map (fun d => d.parameters.length) = some 2 := ⟨rfl, by decide +kernel, by decide +kernel, by decide +kernel⟩
set_option maxHeartbeats 4000000 in
set_option maxRecDepth 100000 in
theorem c8_set (l : Launch) (E : EN) (G : GM) (fl : Nat) (X : Xm) (I : Im) (zx0 : Nat) (zx1 : Int32) (zx2 : Int32) (zt0 : okA E G 8 zx0) {rr : Int32 × Im × Xm} (hf : m8_set fl G.2.2 X I zx0 zx1 zx2 = some rr) : MT l yX8_set cX8_set 3 (some .int) ({ frames := 4, cells := 0, slots := 0, locals := 90 } : Room) E G I X [.ref zx0, .int zx1, .int zx2] (QI E G rr.1 rr.2.1 rr.2.2) 0 0 := by
  refine Met.ofW (cc := cX8_set) (maxL := 3) (ret := (some .int)) (by decide +kernel) rfl ?_
  intro p e s m args below meth c s₁ B hml hv
  obtain ⟨rfl, hw0, hSE⟩ := hv
  have C0 : CX p s m ([.ref zx0, .int zx1, .int zx2] : List Value).toArray meth c E cX8_set RX8 3 := ⟨B.exec, B.bytes, hml, findClass_of_methodNamed B.named, fun w hw => atoms_spec (ws := WS yX8_set cX8_set 3 (some .int)) B.pre w (List.mem_cons_of_mem _ hw), B.notSynchronized, hSE⟩
  have hz : s.heap.size + 0 ≤ eB E + G.1 := Nat.le_of_eq hw0.2.1
  have hw : WD E G I X s.heap s.heap [] := ⟨hw0, va_S.rf⟩
  have hr := B.returns
  have hx := C0.1; have hb := C0.2.1; have hml := C0.2.2.1; have hown := C0.2.2.2.1; have hts := C0.2.2.2.2.1
  have hl := lv_entry ([.ref zx0, .int zx1, .int zx2]) (n := 3) (Nat.le_of_ble_eq_true rfl)
  rw [lg_entry_eq]
  generalize (lg_sl ([.ref zx0, .int zx1, .int zx2]) ++ List.replicate (3 - (lg_sl ([.ref zx0, .int zx1, .int zx2])).length) Slot.unset).toArray = ls at hl ⊢
  have hl : lv_has ls 3 [(0, .ref zx0), (1, .int zx1), (2, .int zx2)] := hl
  unfold m8_set at hf
  refine lv_aload_n hx hb dX8_set_0 rfl (lv_at hl 0 rfl) ?_
  obtain ⟨zI1, ze2, hf⟩ := nn_some hf
  refine x_cv (I1 := zI1) (X1 := X) (x_runV (As := []) (rest := []) C0 (c8_holdState l E G fl X I zx0 zt0 ze2) hw 8 zt0 (by decide) rfl wd57 wd339 wd340 wd341 wd107 ⟨rfl, rfl⟩ hy8_holdState ⟨Nat.le_of_ble_eq_true rfl, Nat.le_of_ble_eq_true rfl⟩ rfl hl.1 (Nat.le_of_ble_eq_true rfl) ⟨Nat.zero_le _, Nat.zero_le _⟩ dX8_set_1) hw (fun H locs hw => ?_)
  refine lv_aload_n hx hb dX8_set_4 rfl (lv_at hl 0 rfl) ?_
  refine lv_aload_n hx hb dX8_set_5 rfl (lv_at hl 0 rfl) ?_
  obtain ⟨zv3, ezv3, hf⟩ := nn_some hf
  have tzv3 : okA E G 4 zv3 := wt_r hw ezv3
  refine xg_8_0 C0 hw zt0 wd319 ezv3 dX8_set_6 ?_
  refine lv_iload_n hx hb dX8_set_9 rfl (lv_at hl 1 rfl) ?_
  refine lv_iload_n hx hb dX8_set_10 rfl (lv_at hl 2 rfl) ?_
  obtain ⟨⟨zv4, zI5⟩, ze6, hf⟩ := nn_some hf
  refine x_ci (r := zv4) (I1 := zI5) (X1 := X) (x_runV (As := [.int zx1, .int zx2]) (rest := [.ref zx0]) C0 (c4_changeSetting l E G fl X zI1 zv3 zx1 zx2 tzv3 ze6) hw 4 tzv3 (by decide) rfl wd21 wd342 wd343 wd344 wd202 ⟨rfl, rfl⟩ hy4_changeSetting ⟨Nat.le_of_ble_eq_true rfl, Nat.le_of_ble_eq_true rfl⟩ rfl hl.1 (Nat.le_of_ble_eq_true rfl) ⟨Nat.zero_le _, Nat.zero_le _⟩ dX8_set_11) hw (fun H locs hw => ?_)
  obtain ⟨⟨zv7, zI8, zX9⟩, ze10, hf⟩ := nn_some hf
  refine x_ci (r := zv7) (I1 := zI8) (X1 := zX9) (x_runV (As := [.int zv4]) (rest := []) C0 (c8_recorded l E G fl X zI5 zx0 zv4 zt0 ze10) hw 8 zt0 (by decide) rfl wd59 wd345 wd346 wd347 wd107 ⟨rfl, rfl⟩ hy8_recorded ⟨Nat.le_of_ble_eq_true rfl, Nat.le_of_ble_eq_true rfl⟩ rfl hl.1 (Nat.le_of_ble_eq_true rfl) ⟨Nat.zero_le _, Nat.zero_le _⟩ dX8_set_14) hw (fun H locs hw => ?_)
  obtain rfl := Option.some.inj hf
  exact x_iret C0 hr hw dX8_set_17
noncomputable def m5_appendSound_19 (fl : Nat) (len : Nat → Nat) (X : Xm) (I : Im) : Option (Int32 × Im) :=
  some ((-4 : Int32), I)
set_option maxHeartbeats 4000000 in
set_option maxRecDepth 100000 in
theorem w5_appendSound_19 {p : Program} {l : Launch} {e : Env} {s : State} {m : MethodId} {args : Array Value} {below : List Frame} {meth : Method} {c : Code} {E : EN} {G : GM} {X : Xm} (C0 : CX p s m args meth c E cX5_appendSound RX5 4) (hr : meth.sig.returnType = (some .int)) (hz : s.heap.size + 0 ≤ eB E + G.1) {rr : Int32 × Im} (fl : Nat) : ∀ (I : Im) (H : Heap) (locs : List Loc) (ls : Array Slot) , WD E G I X s.heap H locs → lv_has ls 4 [] → m5_appendSound_19 fl G.2.2 X I = some rr → W p l e ({ frames := 2, cells := 0, slots := 0, locals := 42 } : Room) s m args below meth c H locs 0 0 (MQ below (QI E G rr.1 rr.2 X) args s 0 0 (eA E)) (F0 m 19 ls []) := by
  intro I H locs ls hw hl hf
  unfold m5_appendSound_19 at hf
  have hx := C0.1; have hb := C0.2.1; have hml := C0.2.2.1; have hown := C0.2.2.2.1; have hts := C0.2.2.2.2.1
  refine lv_bipush (v := (-4 : Int32)) hx hb dX5_appendSound_19 (by decide) ?_
  obtain rfl := Option.some.inj hf
  exact x_iret C0 hr hw dX5_appendSound_21
noncomputable def m5_appendSound (fl : Nat) (len : Nat → Nat) (X : Xm) (I : Im) (zx0 : Nat) (zx1 : Int32) (zx2 : Int32) : Option (Int32 × Im) :=
  if (gF I 81 zx0) < 0 then
    m5_appendSound_19 fl len X I
  else
    nn (gR X 80 zx0) fun zv2 =>
    if (gF I 81 zx0) < (nI (len zv2)) then
      ck (inb (gF I 81 zx0) (len zv2) = true) <|
      nn (gQ X zv2 ((gF I 81 zx0)).toNatClampNeg) fun zv5 =>
      nn (m5_tapeLength fl len X I zx0) fun zv6 =>
      lt (pF I 114 zv5 zv6) fun zI8 =>
      lt (pF zI8 112 zv5 zx1) fun zI9 =>
      lt (pF zI9 113 zv5 zx2) fun zI10 =>
      lt (pF zI10 115 zv5 (0 : Int32)) fun zI11 =>
      lt (pF zI11 81 zx0 ((gF zI11 81 zx0) + (1 : Int32))) fun zI12 =>
      some (((gF zI12 81 zx0) - (1 : Int32)), zI12)
    else
      m5_appendSound_19 fl len X I
theorem hy5_appendSound : yX5_appendSound.cls = RX5 ∧ yX5_appendSound.cls ≠ "java/lang/invoke/MethodHandle" ∧ yX5_appendSound.cls ≠ "java/lang/invoke/VarHandle" ∧ (parseMethodDescriptor yX5_appendSound.desc).map (fun d => d.parameters.length) = some 2 := ⟨rfl, by decide +kernel, by decide +kernel, by decide +kernel⟩
set_option maxHeartbeats 4000000 in
set_option maxRecDepth 100000 in
theorem c5_appendSound (l : Launch) (E : EN) (G : GM) (fl : Nat) (X : Xm) (I : Im) (zx0 : Nat) (zx1 : Int32) (zx2 : Int32) (zt0 : okA E G 5 zx0) {rr : Int32 × Im} (hf : m5_appendSound fl G.2.2 X I zx0 zx1 zx2 = some rr) : MT l yX5_appendSound cX5_appendSound 4 (some .int) ({ frames := 2, cells := 0, slots := 0, locals := 42 } : Room) E G I X [.ref zx0, .int zx1, .int zx2] (QI E G rr.1 rr.2 X) 0 0 := by
  refine Met.ofW (cc := cX5_appendSound) (maxL := 4) (ret := (some .int)) (by decide +kernel) rfl ?_
  intro p e s m args below meth c s₁ B hml hv
  obtain ⟨rfl, hw0, hSE⟩ := hv
  have C0 : CX p s m ([.ref zx0, .int zx1, .int zx2] : List Value).toArray meth c E cX5_appendSound RX5 4 := ⟨B.exec, B.bytes, hml, findClass_of_methodNamed B.named, fun w hw => atoms_spec (ws := WS yX5_appendSound cX5_appendSound 4 (some .int)) B.pre w (List.mem_cons_of_mem _ hw), B.notSynchronized, hSE⟩
  have hz : s.heap.size + 0 ≤ eB E + G.1 := Nat.le_of_eq hw0.2.1
  have hw : WD E G I X s.heap s.heap [] := ⟨hw0, va_S.rf⟩
  have hr := B.returns
  have hx := C0.1; have hb := C0.2.1; have hml := C0.2.2.1; have hown := C0.2.2.2.1; have hts := C0.2.2.2.2.1
  have hl := lv_entry ([.ref zx0, .int zx1, .int zx2]) (n := 4) (Nat.le_of_ble_eq_true rfl)
  rw [lg_entry_eq]
  generalize (lg_sl ([.ref zx0, .int zx1, .int zx2]) ++ List.replicate (4 - (lg_sl ([.ref zx0, .int zx1, .int zx2])).length) Slot.unset).toArray = ls at hl ⊢
  have hl : lv_has ls 4 [(0, .ref zx0), (1, .int zx1), (2, .int zx2)] := hl
  unfold m5_appendSound at hf
  refine lv_aload_n hx hb dX5_appendSound_0 rfl (lv_at hl 0 rfl) ?_
  refine xg_5_1 C0 hw zt0 wd177 dX5_appendSound_1 ?_
  refine lv_if_lt (tgt := 19) hx hb dX5_appendSound_4 (by decide) (fun zc1 => ?_) (fun zc1 => ?_)
  · have hf := ite_t hf zc1
    exact w5_appendSound_19 C0 hr hz fl I _ _ _ hw (lv_sub hl [] rfl) hf
  · have hf := ite_f hf zc1
    refine lv_aload_n hx hb dX5_appendSound_7 rfl (lv_at hl 0 rfl) ?_
    refine xg_5_1 C0 hw zt0 wd177 dX5_appendSound_8 ?_
    refine lv_aload_n hx hb dX5_appendSound_11 rfl (lv_at hl 0 rfl) ?_
    obtain ⟨zv2, ezv2, hf⟩ := nn_some hf
    have tzv2 : okA E G 17 zv2 := wt_r hw ezv2
    refine xg_5_0 C0 hw zt0 wd137 ezv2 dX5_appendSound_12 ?_
    refine x_alen C0 hw 17 tzv2 (by decide) rfl dX5_appendSound_15 ?_
    refine lv_icmp_lt (tgt := 22) hx hb dX5_appendSound_16 (by decide) (fun zc3 => ?_) (fun zc3 => ?_)
    · have hf := ite_t hf zc3
      refine lv_aload_n hx hb dX5_appendSound_22 rfl (lv_at hl 0 rfl) ?_
      refine xg_5_0 C0 hw zt0 wd137 ezv2 dX5_appendSound_23 ?_
      refine lv_aload_n hx hb dX5_appendSound_26 rfl (lv_at hl 0 rfl) ?_
      refine xg_5_1 C0 hw zt0 wd177 dX5_appendSound_27 ?_
      obtain ⟨zhb4, hf⟩ := ck_some hf
      obtain ⟨zv5, ezv5, hf⟩ := nn_some hf
      have tzv5 : okA E G 7 zv5 := wt_q hw tzv2 ezv5
      refine x_qald C0 hw 17 tzv2 (by decide) rfl zhb4 ezv5 dX5_appendSound_30 ?_
      refine lv_astore_n (lv' := [(3, .ref zv5), (0, .ref zx0), (1, .int zx1), (2, .int zx2)]) hx hb dX5_appendSound_31 rfl hl (by decide) rfl (fun ls hl => ?_)
      refine lv_aload_n hx hb dX5_appendSound_32 rfl (lv_at hl 0 rfl) ?_
      refine lv_aload_n hx hb dX5_appendSound_33 rfl (lv_at hl 1 rfl) ?_
      obtain ⟨zv6, ze7, hf⟩ := nn_some hf
      refine x_ci (r := zv6) (I1 := I) (X1 := X) (x_runV (As := []) (rest := [.ref zv5]) C0 (c5_tapeLength l E G fl X I zx0 zt0 ze7) hw 5 zt0 (by decide) rfl wd24 wd211 wd212 wd213 wd159 ⟨rfl, rfl⟩ hy5_tapeLength ⟨Nat.le_of_ble_eq_true rfl, Nat.le_of_ble_eq_true rfl⟩ rfl hl.1 (Nat.le_of_ble_eq_true rfl) ⟨Nat.zero_le _, Nat.zero_le _⟩ dX5_appendSound_34) hw (fun H locs hw => ?_)
      obtain ⟨zI8, ezI8⟩ : ∃ y : Im, y = pF I 114 zv5 zv6 := ⟨_, rfl⟩
      have hf := lt_at hf ezI8
      refine xp_7_2 C0 hz hw tzv5 rfl rfl wd204 dX5_appendSound_37 ezI8 (fun H locs hw => ?_)
      refine lv_aload_n hx hb dX5_appendSound_40 rfl (lv_at hl 0 rfl) ?_
      refine lv_iload_n hx hb dX5_appendSound_41 rfl (lv_at hl 2 rfl) ?_
      obtain ⟨zI9, ezI9⟩ : ∃ y : Im, y = pF zI8 112 zv5 zx1 := ⟨_, rfl⟩
      have hf := lt_at hf ezI9
      refine xp_7_0 C0 hz hw tzv5 rfl rfl wd205 dX5_appendSound_42 ezI9 (fun H locs hw => ?_)
      refine lv_aload_n hx hb dX5_appendSound_45 rfl (lv_at hl 0 rfl) ?_
      refine lv_iload_n hx hb dX5_appendSound_46 rfl (lv_at hl 3 rfl) ?_
      obtain ⟨zI10, ezI10⟩ : ∃ y : Im, y = pF zI9 113 zv5 zx2 := ⟨_, rfl⟩
      have hf := lt_at hf ezI10
      refine xp_7_1 C0 hz hw tzv5 rfl rfl wd209 dX5_appendSound_47 ezI10 (fun H locs hw => ?_)
      refine lv_aload_n hx hb dX5_appendSound_50 rfl (lv_at hl 0 rfl) ?_
      refine lv_iconst (v := (0 : Int32)) hx hb dX5_appendSound_51 (by decide) ?_
      obtain ⟨zI11, ezI11⟩ : ∃ y : Im, y = pF zI10 115 zv5 (0 : Int32) := ⟨_, rfl⟩
      have hf := lt_at hf ezI11
      refine xp_7_3 C0 hz hw tzv5 rfl rfl wd210 dX5_appendSound_52 ezI11 (fun H locs hw => ?_)
      refine lv_aload_n hx hb dX5_appendSound_55 rfl (lv_at hl 1 rfl) ?_
      refine lv_dup hx hb dX5_appendSound_56 rfl ?_
      refine xg_5_1 C0 hw zt0 wd177 dX5_appendSound_57 ?_
      refine lv_iconst (v := (1 : Int32)) hx hb dX5_appendSound_60 (by decide) ?_
      refine lv_iadd hx hb dX5_appendSound_61 ?_
      obtain ⟨zI12, ezI12⟩ : ∃ y : Im, y = pF zI11 81 zx0 ((gF zI11 81 zx0) + (1 : Int32)) := ⟨_, rfl⟩
      have hf := lt_at hf ezI12
      refine xp_5_1 C0 hz hw zt0 rfl rfl wd177 dX5_appendSound_62 ezI12 (fun H locs hw => ?_)
      refine lv_aload_n hx hb dX5_appendSound_65 rfl (lv_at hl 1 rfl) ?_
      refine xg_5_1 C0 hw zt0 wd177 dX5_appendSound_66 ?_
      refine lv_iconst (v := (1 : Int32)) hx hb dX5_appendSound_69 (by decide) ?_
      refine lv_isub hx hb dX5_appendSound_70 ?_
      obtain rfl := Option.some.inj hf
      exact x_iret C0 hr hw dX5_appendSound_71
    · have hf := ite_f hf zc3
      exact w5_appendSound_19 C0 hr hz fl I _ _ _ hw (lv_sub hl [] rfl) hf
noncomputable def m4_addSound_34 (fl : Nat) (len : Nat → Nat) (X : Xm) (I : Im) : Option (Int32 × Im) :=
  some ((-2 : Int32), I)
set_option maxHeartbeats 4000000 in
set_option maxRecDepth 100000 in
theorem w4_addSound_34 {p : Program} {l : Launch} {e : Env} {s : State} {m : MethodId} {args : Array Value} {below : List Frame} {meth : Method} {c : Code} {E : EN} {G : GM} {X : Xm} (C0 : CX p s m args meth c E cX4_addSound RX4 5) (hr : meth.sig.returnType = (some .int)) (hz : s.heap.size + 0 ≤ eB E + G.1) {rr : Int32 × Im} (fl : Nat) : ∀ (I : Im) (H : Heap) (locs : List Loc) (ls : Array Slot) , WD E G I X s.heap H locs → lv_has ls 5 [] → m4_addSound_34 fl G.2.2 X I = some rr → W p l e ({ frames := 3, cells := 0, slots := 0, locals := 65 } : Room) s m args below meth c H locs 0 0 (MQ below (QI E G rr.1 rr.2 X) args s 0 0 (eA E)) (F0 m 34 ls []) := by
  intro I H locs ls hw hl hf
  unfold m4_addSound_34 at hf
  have hx := C0.1; have hb := C0.2.1; have hml := C0.2.2.1; have hown := C0.2.2.2.1; have hts := C0.2.2.2.2.1
  refine lv_bipush (v := (-2 : Int32)) hx hb dX4_addSound_34 (by decide) ?_
  obtain rfl := Option.some.inj hf
  exact x_iret C0 hr hw dX4_addSound_36
noncomputable def m4_addSound (fl : Nat) (len : Nat → Nat) (X : Xm) (I : Im) (zx0 : Nat) (zx1 : Int32) (zx2 : Int32) (zx3 : Int32) : Option (Int32 × Im) :=
  nn (m4_reelAt fl len X I zx0 zx1) fun zv1 =>
  if zv1 = none then
    some ((-1 : Int32), I)
  else
    nn (m8_within fl len X I zx2 (1 : Int32) (60 : Int32)) fun zv4 =>
    if zv4 = 0 then
      m4_addSound_34 fl len X I
    else
      nn (m8_within fl len X I zx3 (1 : Int32) (99 : Int32)) fun zv7 =>
      if zv7 = 0 then
        m4_addSound_34 fl len X I
      else
        nn zv1 fun zb10 =>
        nn (m5_appendSound fl len X I zb10 zx2 zx3) fun ⟨zv11, zI12⟩ =>
        some (zv11, zI12)
theorem hy4_addSound : yX4_addSound.cls = RX4 ∧ yX4_addSound.cls ≠ "java/lang/invoke/MethodHandle" ∧ yX4_addSound.cls ≠ "java/lang/invoke/VarHandle" ∧ (parseMethodDescriptor yX4_addSound.desc).map (fun d => d.parameters.length) = some 3 := ⟨rfl, by decide +kernel, by decide +kernel, by decide +kernel⟩
set_option maxHeartbeats 4000000 in
set_option maxRecDepth 100000 in
theorem c4_addSound (l : Launch) (E : EN) (G : GM) (fl : Nat) (X : Xm) (I : Im) (zx0 : Nat) (zx1 : Int32) (zx2 : Int32) (zx3 : Int32) (zt0 : okA E G 4 zx0) {rr : Int32 × Im} (hf : m4_addSound fl G.2.2 X I zx0 zx1 zx2 zx3 = some rr) : MT l yX4_addSound cX4_addSound 5 (some .int) ({ frames := 3, cells := 0, slots := 0, locals := 65 } : Room) E G I X [.ref zx0, .int zx1, .int zx2, .int zx3] (QI E G rr.1 rr.2 X) 0 0 := by
  refine Met.ofW (cc := cX4_addSound) (maxL := 5) (ret := (some .int)) (by decide +kernel) rfl ?_
  intro p e s m args below meth c s₁ B hml hv
  obtain ⟨rfl, hw0, hSE⟩ := hv
  have C0 : CX p s m ([.ref zx0, .int zx1, .int zx2, .int zx3] : List Value).toArray meth c E cX4_addSound RX4 5 := ⟨B.exec, B.bytes, hml, findClass_of_methodNamed B.named, fun w hw => atoms_spec (ws := WS yX4_addSound cX4_addSound 5 (some .int)) B.pre w (List.mem_cons_of_mem _ hw), B.notSynchronized, hSE⟩
  have hz : s.heap.size + 0 ≤ eB E + G.1 := Nat.le_of_eq hw0.2.1
  have hw : WD E G I X s.heap s.heap [] := ⟨hw0, va_S.rf⟩
  have hr := B.returns
  have hx := C0.1; have hb := C0.2.1; have hml := C0.2.2.1; have hown := C0.2.2.2.1; have hts := C0.2.2.2.2.1
  have hl := lv_entry ([.ref zx0, .int zx1, .int zx2, .int zx3]) (n := 5) (Nat.le_of_ble_eq_true rfl)
  rw [lg_entry_eq]
  generalize (lg_sl ([.ref zx0, .int zx1, .int zx2, .int zx3]) ++ List.replicate (5 - (lg_sl ([.ref zx0, .int zx1, .int zx2, .int zx3])).length) Slot.unset).toArray = ls at hl ⊢
  have hl : lv_has ls 5 [(0, .ref zx0), (1, .int zx1), (2, .int zx2), (3, .int zx3)] := hl
  unfold m4_addSound at hf
  refine lv_aload_n hx hb dX4_addSound_0 rfl (lv_at hl 0 rfl) ?_
  refine lv_iload_n hx hb dX4_addSound_1 rfl (lv_at hl 1 rfl) ?_
  obtain ⟨zv1, ze2, hf⟩ := nn_some hf
  refine x_co (r := zv1) (I1 := I) (X1 := X) (x_runV (As := [.int zx1]) (rest := []) C0 (c4_reelAt l E G fl X I zx0 zx1 zt0 ze2) hw 4 zt0 (by decide) rfl wd22 wd214 wd215 wd216 wd202 ⟨rfl, rfl⟩ hy4_reelAt ⟨Nat.le_of_ble_eq_true rfl, Nat.le_of_ble_eq_true rfl⟩ rfl hl.1 (Nat.le_of_ble_eq_true rfl) ⟨Nat.zero_le _, Nat.zero_le _⟩ dX4_addSound_2) hw (fun H locs hw tzv1 => ?_)
  refine x_astore (lv' := [(4, va_rf zv1), (0, .ref zx0), (1, .int zx1), (2, .int zx2), (3, .int zx3)]) C0 dX4_addSound_5 hl (by decide) rfl (fun ls hl => ?_)
  refine x_aload C0 dX4_addSound_7 (lv_at hl 0 rfl) ?_
  refine x_ifnonnull (tgt := 14) C0 dX4_addSound_9 (by decide) (fun zc3 => ?_) (fun zc3 => ?_)
  · have hf := ite_f hf zc3
    refine lv_iload_n hx hb dX4_addSound_14 rfl (lv_at hl 3 rfl) ?_
    refine lv_iconst (v := (1 : Int32)) hx hb dX4_addSound_15 (by decide) ?_
    refine lv_bipush (v := (60 : Int32)) hx hb dX4_addSound_16 (by decide) ?_
    obtain ⟨zv4, ze5, hf⟩ := nn_some hf
    refine x_ci (r := zv4) (I1 := I) (X1 := X) (x_runSN (As := [.int zx2, .int (1 : Int32), .int (60 : Int32)]) (rest := []) (host := "RadioCues") C0 (c8_within l E G fl X I zx2 (1 : Int32) (60 : Int32) ze5) hw wd20 (List.mem_of_getElem? (i := 5) rfl) wd203 wd107 ⟨rfl, rfl⟩ hy8_within.2 ⟨Nat.le_of_ble_eq_true rfl, Nat.le_of_ble_eq_true rfl⟩ rfl hl.1 (Nat.le_of_ble_eq_true rfl) ⟨Nat.zero_le _, Nat.zero_le _⟩ dX4_addSound_18) hw (fun H locs hw => ?_)
    refine lv_if_eq (tgt := 34) hx hb dX4_addSound_21 (by decide) (fun zc6 => ?_) (fun zc6 => ?_)
    · have hf := ite_t hf zc6
      exact w4_addSound_34 C0 hr hz fl I _ _ _ hw (lv_sub hl [] rfl) hf
    · have hf := ite_f hf zc6
      refine lv_iload_n hx hb dX4_addSound_24 rfl (lv_at hl 4 rfl) ?_
      refine lv_iconst (v := (1 : Int32)) hx hb dX4_addSound_25 (by decide) ?_
      refine lv_bipush (v := (99 : Int32)) hx hb dX4_addSound_26 (by decide) ?_
      obtain ⟨zv7, ze8, hf⟩ := nn_some hf
      refine x_ci (r := zv7) (I1 := I) (X1 := X) (x_runSN (As := [.int zx3, .int (1 : Int32), .int (99 : Int32)]) (rest := []) (host := "RadioCues") C0 (c8_within l E G fl X I zx3 (1 : Int32) (99 : Int32) ze8) hw wd20 (List.mem_of_getElem? (i := 5) rfl) wd203 wd107 ⟨rfl, rfl⟩ hy8_within.2 ⟨Nat.le_of_ble_eq_true rfl, Nat.le_of_ble_eq_true rfl⟩ rfl hl.1 (Nat.le_of_ble_eq_true rfl) ⟨Nat.zero_le _, Nat.zero_le _⟩ dX4_addSound_28) hw (fun H locs hw => ?_)
      refine lv_if_ne (tgt := 37) hx hb dX4_addSound_31 (by decide) (fun zc9 => ?_) (fun zc9 => ?_)
      · have hf := ite_f hf zc9
        refine x_aload C0 dX4_addSound_37 (lv_at hl 0 rfl) ?_
        refine lv_iload_n hx hb dX4_addSound_39 rfl (lv_at hl 3 rfl) ?_
        refine lv_iload_n hx hb dX4_addSound_40 rfl (lv_at hl 4 rfl) ?_
        obtain ⟨zb10, ezb10, hfzb10⟩ := nn_some hf
        have tzb10 : okA E G 5 zb10 := tzv1 _ ezb10
        subst ezb10
        have hf := hfzb10
        obtain ⟨⟨zv11, zI12⟩, ze13, hf⟩ := nn_some hf
        refine x_ci (r := zv11) (I1 := zI12) (X1 := X) (x_runV (As := [.int zx2, .int zx3]) (rest := []) C0 (c5_appendSound l E G fl X I zb10 zx2 zx3 tzb10 ze13) hw 5 tzb10 (by decide) rfl wd25 wd217 wd218 wd219 wd159 ⟨rfl, rfl⟩ hy5_appendSound ⟨Nat.le_of_ble_eq_true rfl, Nat.le_of_ble_eq_true rfl⟩ rfl hl.1 (Nat.le_of_ble_eq_true rfl) ⟨Nat.zero_le _, Nat.zero_le _⟩ dX4_addSound_41) hw (fun H locs hw => ?_)
        obtain rfl := Option.some.inj hf
        exact x_iret C0 hr hw dX4_addSound_44
      · have hf := ite_t hf zc9
        exact w4_addSound_34 C0 hr hz fl I _ _ _ hw (lv_sub hl [] rfl) hf
  · have hf := ite_t hf zc3
    refine lv_iconst (v := (-1 : Int32)) hx hb dX4_addSound_12 (by decide) ?_
    obtain rfl := Option.some.inj hf
    exact x_iret C0 hr hw dX4_addSound_13
noncomputable def m8_sound (fl : Nat) (len : Nat → Nat) (X : Xm) (I : Im) (zx0 : Nat) (zx1 : Int32) (zx2 : Int32) (zx3 : Int32) : Option (Int32 × Im × Xm) :=
  nn (m8_holdState fl len X I zx0) fun zI1 =>
  nn (gR X 128 zx0) fun zv3 =>
  nn (m4_addSound fl len X zI1 zv3 zx1 zx2 zx3) fun ⟨zv4, zI5⟩ =>
  nn (m8_recorded fl len X zI5 zx0 zv4) fun ⟨zv7, zI8, zX9⟩ =>
  some (zv7, zI8, zX9)
theorem hy8_sound : yX8_sound.cls = RX8 ∧ yX8_sound.cls ≠ "java/lang/invoke/MethodHandle" ∧ yX8_sound.cls ≠ "java/lang/invoke/VarHandle" ∧ (parseMethodDescriptor yX8_sound.desc).map (fun d => d.parameters.length) = some 3 := ⟨rfl, by decide +kernel, by decide +kernel, by decide +kernel⟩
set_option maxHeartbeats 4000000 in
set_option maxRecDepth 100000 in
theorem c8_sound (l : Launch) (E : EN) (G : GM) (fl : Nat) (X : Xm) (I : Im) (zx0 : Nat) (zx1 : Int32) (zx2 : Int32) (zx3 : Int32) (zt0 : okA E G 8 zx0) {rr : Int32 × Im × Xm} (hf : m8_sound fl G.2.2 X I zx0 zx1 zx2 zx3 = some rr) : MT l yX8_sound cX8_sound 4 (some .int) ({ frames := 4, cells := 0, slots := 0, locals := 90 } : Room) E G I X [.ref zx0, .int zx1, .int zx2, .int zx3] (QI E G rr.1 rr.2.1 rr.2.2) 0 0 := by
  refine Met.ofW (cc := cX8_sound) (maxL := 4) (ret := (some .int)) (by decide +kernel) rfl ?_
  intro p e s m args below meth c s₁ B hml hv
  obtain ⟨rfl, hw0, hSE⟩ := hv
  have C0 : CX p s m ([.ref zx0, .int zx1, .int zx2, .int zx3] : List Value).toArray meth c E cX8_sound RX8 4 := ⟨B.exec, B.bytes, hml, findClass_of_methodNamed B.named, fun w hw => atoms_spec (ws := WS yX8_sound cX8_sound 4 (some .int)) B.pre w (List.mem_cons_of_mem _ hw), B.notSynchronized, hSE⟩
  have hz : s.heap.size + 0 ≤ eB E + G.1 := Nat.le_of_eq hw0.2.1
  have hw : WD E G I X s.heap s.heap [] := ⟨hw0, va_S.rf⟩
  have hr := B.returns
  have hx := C0.1; have hb := C0.2.1; have hml := C0.2.2.1; have hown := C0.2.2.2.1; have hts := C0.2.2.2.2.1
  have hl := lv_entry ([.ref zx0, .int zx1, .int zx2, .int zx3]) (n := 4) (Nat.le_of_ble_eq_true rfl)
  rw [lg_entry_eq]
  generalize (lg_sl ([.ref zx0, .int zx1, .int zx2, .int zx3]) ++ List.replicate (4 - (lg_sl ([.ref zx0, .int zx1, .int zx2, .int zx3])).length) Slot.unset).toArray = ls at hl ⊢
  have hl : lv_has ls 4 [(0, .ref zx0), (1, .int zx1), (2, .int zx2), (3, .int zx3)] := hl
  unfold m8_sound at hf
  refine lv_aload_n hx hb dX8_sound_0 rfl (lv_at hl 0 rfl) ?_
  obtain ⟨zI1, ze2, hf⟩ := nn_some hf
  refine x_cv (I1 := zI1) (X1 := X) (x_runV (As := []) (rest := []) C0 (c8_holdState l E G fl X I zx0 zt0 ze2) hw 8 zt0 (by decide) rfl wd57 wd339 wd340 wd341 wd107 ⟨rfl, rfl⟩ hy8_holdState ⟨Nat.le_of_ble_eq_true rfl, Nat.le_of_ble_eq_true rfl⟩ rfl hl.1 (Nat.le_of_ble_eq_true rfl) ⟨Nat.zero_le _, Nat.zero_le _⟩ dX8_sound_1) hw (fun H locs hw => ?_)
  refine lv_aload_n hx hb dX8_sound_4 rfl (lv_at hl 0 rfl) ?_
  refine lv_aload_n hx hb dX8_sound_5 rfl (lv_at hl 0 rfl) ?_
  obtain ⟨zv3, ezv3, hf⟩ := nn_some hf
  have tzv3 : okA E G 4 zv3 := wt_r hw ezv3
  refine xg_8_0 C0 hw zt0 wd319 ezv3 dX8_sound_6 ?_
  refine lv_iload_n hx hb dX8_sound_9 rfl (lv_at hl 1 rfl) ?_
  refine lv_iload_n hx hb dX8_sound_10 rfl (lv_at hl 2 rfl) ?_
  refine lv_iload_n hx hb dX8_sound_11 rfl (lv_at hl 3 rfl) ?_
  obtain ⟨⟨zv4, zI5⟩, ze6, hf⟩ := nn_some hf
  refine x_ci (r := zv4) (I1 := zI5) (X1 := X) (x_runV (As := [.int zx1, .int zx2, .int zx3]) (rest := [.ref zx0]) C0 (c4_addSound l E G fl X zI1 zv3 zx1 zx2 zx3 tzv3 ze6) hw 4 tzv3 (by decide) rfl wd26 wd348 wd349 wd350 wd202 ⟨rfl, rfl⟩ hy4_addSound ⟨Nat.le_of_ble_eq_true rfl, Nat.le_of_ble_eq_true rfl⟩ rfl hl.1 (Nat.le_of_ble_eq_true rfl) ⟨Nat.zero_le _, Nat.zero_le _⟩ dX8_sound_12) hw (fun H locs hw => ?_)
  obtain ⟨⟨zv7, zI8, zX9⟩, ze10, hf⟩ := nn_some hf
  refine x_ci (r := zv7) (I1 := zI8) (X1 := zX9) (x_runV (As := [.int zv4]) (rest := []) C0 (c8_recorded l E G fl X zI5 zx0 zv4 zt0 ze10) hw 8 zt0 (by decide) rfl wd59 wd345 wd346 wd347 wd107 ⟨rfl, rfl⟩ hy8_recorded ⟨Nat.le_of_ble_eq_true rfl, Nat.le_of_ble_eq_true rfl⟩ rfl hl.1 (Nat.le_of_ble_eq_true rfl) ⟨Nat.zero_le _, Nat.zero_le _⟩ dX8_sound_15) hw (fun H locs hw => ?_)
  obtain rfl := Option.some.inj hf
  exact x_iret C0 hr hw dX8_sound_18
noncomputable def m8_goal (fl : Nat) (len : Nat → Nat) (X : Xm) (I : Im) (zx0 : Nat) (zx1 : Int32) (zx2 : Int32) : Option (Int32 × Im × Xm) :=
  nn (m8_holdState fl len X I zx0) fun zI1 =>
  nn (gR X 128 zx0) fun zv3 =>
  nn (m4_putGoal fl len X zI1 zv3 zx1 zx2) fun ⟨zv4, zI5⟩ =>
  nn (m8_recorded fl len X zI5 zx0 zv4) fun ⟨zv7, zI8, zX9⟩ =>
  some (zv7, zI8, zX9)
theorem hy8_goal : yX8_goal.cls = RX8 ∧ yX8_goal.cls ≠ "java/lang/invoke/MethodHandle" ∧ yX8_goal.cls ≠ "java/lang/invoke/VarHandle" ∧ (parseMethodDescriptor yX8_goal.desc).map (fun d => d.parameters.length) = some 2 := ⟨rfl, by decide +kernel, by decide +kernel, by decide +kernel⟩
set_option maxHeartbeats 4000000 in
set_option maxRecDepth 100000 in
theorem c8_goal (l : Launch) (E : EN) (G : GM) (fl : Nat) (X : Xm) (I : Im) (zx0 : Nat) (zx1 : Int32) (zx2 : Int32) (zt0 : okA E G 8 zx0) {rr : Int32 × Im × Xm} (hf : m8_goal fl G.2.2 X I zx0 zx1 zx2 = some rr) : MT l yX8_goal cX8_goal 3 (some .int) ({ frames := 4, cells := 0, slots := 0, locals := 90 } : Room) E G I X [.ref zx0, .int zx1, .int zx2] (QI E G rr.1 rr.2.1 rr.2.2) 0 0 := by
  refine Met.ofW (cc := cX8_goal) (maxL := 3) (ret := (some .int)) (by decide +kernel) rfl ?_
  intro p e s m args below meth c s₁ B hml hv
  obtain ⟨rfl, hw0, hSE⟩ := hv
  have C0 : CX p s m ([.ref zx0, .int zx1, .int zx2] : List Value).toArray meth c E cX8_goal RX8 3 := ⟨B.exec, B.bytes, hml, findClass_of_methodNamed B.named, fun w hw => atoms_spec (ws := WS yX8_goal cX8_goal 3 (some .int)) B.pre w (List.mem_cons_of_mem _ hw), B.notSynchronized, hSE⟩
  have hz : s.heap.size + 0 ≤ eB E + G.1 := Nat.le_of_eq hw0.2.1
  have hw : WD E G I X s.heap s.heap [] := ⟨hw0, va_S.rf⟩
  have hr := B.returns
  have hx := C0.1; have hb := C0.2.1; have hml := C0.2.2.1; have hown := C0.2.2.2.1; have hts := C0.2.2.2.2.1
  have hl := lv_entry ([.ref zx0, .int zx1, .int zx2]) (n := 3) (Nat.le_of_ble_eq_true rfl)
  rw [lg_entry_eq]
  generalize (lg_sl ([.ref zx0, .int zx1, .int zx2]) ++ List.replicate (3 - (lg_sl ([.ref zx0, .int zx1, .int zx2])).length) Slot.unset).toArray = ls at hl ⊢
  have hl : lv_has ls 3 [(0, .ref zx0), (1, .int zx1), (2, .int zx2)] := hl
  unfold m8_goal at hf
  refine lv_aload_n hx hb dX8_goal_0 rfl (lv_at hl 0 rfl) ?_
  obtain ⟨zI1, ze2, hf⟩ := nn_some hf
  refine x_cv (I1 := zI1) (X1 := X) (x_runV (As := []) (rest := []) C0 (c8_holdState l E G fl X I zx0 zt0 ze2) hw 8 zt0 (by decide) rfl wd57 wd339 wd340 wd341 wd107 ⟨rfl, rfl⟩ hy8_holdState ⟨Nat.le_of_ble_eq_true rfl, Nat.le_of_ble_eq_true rfl⟩ rfl hl.1 (Nat.le_of_ble_eq_true rfl) ⟨Nat.zero_le _, Nat.zero_le _⟩ dX8_goal_1) hw (fun H locs hw => ?_)
  refine lv_aload_n hx hb dX8_goal_4 rfl (lv_at hl 0 rfl) ?_
  refine lv_aload_n hx hb dX8_goal_5 rfl (lv_at hl 0 rfl) ?_
  obtain ⟨zv3, ezv3, hf⟩ := nn_some hf
  have tzv3 : okA E G 4 zv3 := wt_r hw ezv3
  refine xg_8_0 C0 hw zt0 wd319 ezv3 dX8_goal_6 ?_
  refine lv_iload_n hx hb dX8_goal_9 rfl (lv_at hl 1 rfl) ?_
  refine lv_iload_n hx hb dX8_goal_10 rfl (lv_at hl 2 rfl) ?_
  obtain ⟨⟨zv4, zI5⟩, ze6, hf⟩ := nn_some hf
  refine x_ci (r := zv4) (I1 := zI5) (X1 := X) (x_runV (As := [.int zx1, .int zx2]) (rest := [.ref zx0]) C0 (c4_putGoal l E G fl X zI1 zv3 zx1 zx2 tzv3 ze6) hw 4 tzv3 (by decide) rfl wd35 wd361 wd277 wd278 wd202 ⟨rfl, rfl⟩ hy4_putGoal ⟨Nat.le_of_ble_eq_true rfl, Nat.le_of_ble_eq_true rfl⟩ rfl hl.1 (Nat.le_of_ble_eq_true rfl) ⟨Nat.zero_le _, Nat.zero_le _⟩ dX8_goal_11) hw (fun H locs hw => ?_)
  obtain ⟨⟨zv7, zI8, zX9⟩, ze10, hf⟩ := nn_some hf
  refine x_ci (r := zv7) (I1 := zI8) (X1 := zX9) (x_runV (As := [.int zv4]) (rest := []) C0 (c8_recorded l E G fl X zI5 zx0 zv4 zt0 ze10) hw 8 zt0 (by decide) rfl wd59 wd345 wd346 wd347 wd107 ⟨rfl, rfl⟩ hy8_recorded ⟨Nat.le_of_ble_eq_true rfl, Nat.le_of_ble_eq_true rfl⟩ rfl hl.1 (Nat.le_of_ble_eq_true rfl) ⟨Nat.zero_le _, Nat.zero_le _⟩ dX8_goal_14) hw (fun H locs hw => ?_)
  obtain rfl := Option.some.inj hf
  exact x_iret C0 hr hw dX8_goal_17
noncomputable def m6_letAllCome_40 (fl : Nat) (len : Nat → Nat) (X : Xm) (I : Im) : Option (Im) :=
  some (I)
set_option maxHeartbeats 4000000 in
set_option maxRecDepth 100000 in
theorem w6_letAllCome_40 {p : Program} {l : Launch} {e : Env} {s : State} {m : MethodId} {args : Array Value} {below : List Frame} {meth : Method} {c : Code} {E : EN} {G : GM} {X : Xm} (C0 : CX p s m args meth c E cX6_letAllCome RX6 2) (hr : meth.sig.returnType = none) (hz : s.heap.size + 0 ≤ eB E + G.1) {rr : Im} (fl : Nat) : ∀ (I : Im) (H : Heap) (locs : List Loc) (ls : Array Slot) , WD E G I X s.heap H locs → lv_has ls 2 [] → m6_letAllCome_40 fl G.2.2 X I = some rr → W p l e ({ frames := 0, cells := 0, slots := 0, locals := 0 } : Room) s m args below meth c H locs 0 0 (MQ below (QV E G rr X) args s 0 0 (eA E)) (F0 m 40 ls []) := by
  intro I H locs ls hw hl hf
  unfold m6_letAllCome_40 at hf
  have hx := C0.1; have hb := C0.2.1; have hml := C0.2.2.1; have hown := C0.2.2.2.1; have hts := C0.2.2.2.2.1
  obtain rfl := Option.some.inj hf
  exact x_vret C0 hr hw dX6_letAllCome_40
noncomputable def m6_letAllCome_7b (fl : Nat) (len : Nat → Nat) (X : Xm) (zr7 : Im → Nat → Int32 → Option (Im)) (I : Im) (zx0 : Nat) (zx1 : Int32) : Option (Im) :=
  if (gF I 97 zx0) ≤ zx1 then
    m6_letAllCome_40 fl len X I
  else
    nn (gR X 96 zx0) fun zv2 =>
    if (nI (len zv2)) ≤ zx1 then
      m6_letAllCome_40 fl len X I
    else
      ck (inb zx1 (len zv2) = true) <|
      nn (gQ X zv2 (zx1).toNatClampNeg) fun zv5 =>
      lt (pF I 20 zv5 (0 : Int32)) fun zI6 =>
      lt (zx1 + 1) fun zv7 =>
      zr7 zI6 zx0 zv7
noncomputable def m6_letAllCome_7 (fl : Nat) (len : Nat → Nat) (X : Xm) (n : Nat) : Im → Nat → Int32 → Option (Im) :=
  Nat.rec (fun _ _ _ => none) (fun _ r => m6_letAllCome_7b fl len X r) n
set_option maxHeartbeats 4000000 in
set_option maxRecDepth 100000 in
theorem w6_letAllCome_7b {p : Program} {l : Launch} {e : Env} {s : State} {m : MethodId} {args : Array Value} {below : List Frame} {meth : Method} {c : Code} {E : EN} {G : GM} {X : Xm} (C0 : CX p s m args meth c E cX6_letAllCome RX6 2) (hr : meth.sig.returnType = none) (hz : s.heap.size + 0 ≤ eB E + G.1) {rr : Im} (fl : Nat) (zr7 : Im → Nat → Int32 → Option (Im)) (zhr7 : ∀ (I : Im) (H : Heap) (locs : List Loc) (ls : Array Slot) (zx0 : Nat) (zx1 : Int32) (zt0 : okA E G 6 zx0), WD E G I X s.heap H locs → lv_has ls 2 [(0, .ref zx0), (1, .int zx1)] → zr7 I zx0 zx1 = some rr → W p l e ({ frames := 0, cells := 0, slots := 0, locals := 0 } : Room) s m args below meth c H locs 0 0 (MQ below (QV E G rr X) args s 0 0 (eA E)) (F0 m 7 ls [])) : ∀ (I : Im) (H : Heap) (locs : List Loc) (ls : Array Slot) (zx0 : Nat) (zx1 : Int32) (zt0 : okA E G 6 zx0), WD E G I X s.heap H locs → lv_has ls 2 [(0, .ref zx0), (1, .int zx1)] → m6_letAllCome_7b fl G.2.2 X zr7 I zx0 zx1 = some rr → W p l e ({ frames := 0, cells := 0, slots := 0, locals := 0 } : Room) s m args below meth c H locs 0 0 (MQ below (QV E G rr X) args s 0 0 (eA E)) (F0 m 7 ls []) := by
  intro I H locs ls zx0 zx1 zt0 hw hl hf
  unfold m6_letAllCome_7b at hf
  have hx := C0.1; have hb := C0.2.1; have hml := C0.2.2.1; have hown := C0.2.2.2.1; have hts := C0.2.2.2.2.1
  refine lv_iload_n hx hb dX6_letAllCome_7 rfl (lv_at hl 1 rfl) ?_
  refine lv_aload_n hx hb dX6_letAllCome_8 rfl (lv_at hl 0 rfl) ?_
  refine xg_6_1 C0 hw zt0 wd168 dX6_letAllCome_9 ?_
  refine lv_icmp_ge (tgt := 40) hx hb dX6_letAllCome_12 (by decide) (fun zc1 => ?_) (fun zc1 => ?_)
  · have hf := ite_t hf zc1
    exact w6_letAllCome_40 C0 hr hz fl I _ _ _ hw (lv_sub hl [] rfl) hf
  · have hf := ite_f hf zc1
    refine lv_iload_n hx hb dX6_letAllCome_15 rfl (lv_at hl 1 rfl) ?_
    refine lv_aload_n hx hb dX6_letAllCome_16 rfl (lv_at hl 0 rfl) ?_
    obtain ⟨zv2, ezv2, hf⟩ := nn_some hf
    have tzv2 : okA E G 14 zv2 := wt_r hw ezv2
    refine xg_6_0 C0 hw zt0 wd130 ezv2 dX6_letAllCome_17 ?_
    refine x_alen C0 hw 14 tzv2 (by decide) rfl dX6_letAllCome_20 ?_
    refine lv_icmp_ge (tgt := 40) hx hb dX6_letAllCome_21 (by decide) (fun zc3 => ?_) (fun zc3 => ?_)
    · have hf := ite_t hf zc3
      exact w6_letAllCome_40 C0 hr hz fl I _ _ _ hw (lv_sub hl [] rfl) hf
    · have hf := ite_f hf zc3
      refine lv_aload_n hx hb dX6_letAllCome_24 rfl (lv_at hl 0 rfl) ?_
      refine xg_6_0 C0 hw zt0 wd130 ezv2 dX6_letAllCome_25 ?_
      refine lv_iload_n hx hb dX6_letAllCome_28 rfl (lv_at hl 1 rfl) ?_
      obtain ⟨zhb4, hf⟩ := ck_some hf
      obtain ⟨zv5, ezv5, hf⟩ := nn_some hf
      have tzv5 : okA E G 1 zv5 := wt_q hw tzv2 ezv5
      refine x_qald C0 hw 14 tzv2 (by decide) rfl zhb4 ezv5 dX6_letAllCome_29 ?_
      refine lv_iconst (v := (0 : Int32)) hx hb dX6_letAllCome_30 (by decide) ?_
      obtain ⟨zI6, ezI6⟩ : ∃ y : Im, y = pF I 20 zv5 (0 : Int32) := ⟨_, rfl⟩
      have hf := lt_at hf ezI6
      refine xp_1_4 C0 hz hw tzv5 rfl rfl wd228 dX6_letAllCome_31 ezI6 (fun H locs hw => ?_)
      obtain ⟨zv7, ezv7⟩ : ∃ y : Int32, y = zx1 + 1 := ⟨_, rfl⟩
      have hf := lt_at hf ezv7
      refine lv_iinc (v := zv7) (lv' := [(1, .int zv7), (0, .ref zx0)]) hx hb dX6_letAllCome_34 hl (k := 1) rfl (by rw [ezv7]; rfl) (by decide) rfl (fun ls hl => ?_)
      refine lv_goto (tgt := 7) hx hb dX6_letAllCome_37 (by decide) ?_
      exact zhr7 zI6 _ _ _ zx0 zv7 zt0 hw (lv_sub hl [1, 0] rfl) hf
theorem w6_letAllCome_7 {p : Program} {l : Launch} {e : Env} {s : State} {m : MethodId} {args : Array Value} {below : List Frame} {meth : Method} {c : Code} {E : EN} {G : GM} {X : Xm} (C0 : CX p s m args meth c E cX6_letAllCome RX6 2) (hr : meth.sig.returnType = none) (hz : s.heap.size + 0 ≤ eB E + G.1) {rr : Im} (fl : Nat) : ∀ (n : Nat) (I : Im) (H : Heap) (locs : List Loc) (ls : Array Slot) (zx0 : Nat) (zx1 : Int32) (zt0 : okA E G 6 zx0), WD E G I X s.heap H locs → lv_has ls 2 [(0, .ref zx0), (1, .int zx1)] → m6_letAllCome_7 fl G.2.2 X n I zx0 zx1 = some rr → W p l e ({ frames := 0, cells := 0, slots := 0, locals := 0 } : Room) s m args below meth c H locs 0 0 (MQ below (QV E G rr X) args s 0 0 (eA E)) (F0 m 7 ls []) := by
  intro n
  induction n with
  | zero => intro I H locs ls zx0 zx1 zt0 hw hl hf; exact absurd (show (none : Option (Im)) = some rr from hf) (by simp)
  | succ n ih => intro I H locs ls zx0 zx1 zt0 hw hl hf; exact w6_letAllCome_7b C0 hr hz fl _ ih I H locs ls zx0 zx1 zt0 hw hl hf
noncomputable def m6_letAllCome (fl : Nat) (len : Nat → Nat) (X : Xm) (I : Im) (zx0 : Nat) : Option (Im) :=
  lt (pF I 98 zx0 (0 : Int32)) fun zI1 =>
  m6_letAllCome_7 fl len X fl zI1 zx0 (0 : Int32)
theorem hy6_letAllCome : yX6_letAllCome.cls = RX6 ∧ yX6_letAllCome.cls ≠ "java/lang/invoke/MethodHandle" ∧ yX6_letAllCome.cls ≠ "java/lang/invoke/VarHandle" ∧ (parseMethodDescriptor yX6_letAllCome.desc).map (fun d => d.parameters.length) = some 0 := ⟨rfl, by decide +kernel, by decide +kernel, by decide +kernel⟩
set_option maxHeartbeats 4000000 in
set_option maxRecDepth 100000 in
theorem c6_letAllCome (l : Launch) (E : EN) (G : GM) (fl : Nat) (X : Xm) (I : Im) (zx0 : Nat) (zt0 : okA E G 6 zx0) {rr : Im} (hf : m6_letAllCome fl G.2.2 X I zx0 = some rr) : MT l yX6_letAllCome cX6_letAllCome 2 none ({ frames := 0, cells := 0, slots := 0, locals := 0 } : Room) E G I X [.ref zx0] (QV E G rr X) 0 0 := by
  refine Met.ofW (cc := cX6_letAllCome) (maxL := 2) (ret := none) (by decide +kernel) rfl ?_
  intro p e s m args below meth c s₁ B hml hv
  obtain ⟨rfl, hw0, hSE⟩ := hv
  have C0 : CX p s m ([.ref zx0] : List Value).toArray meth c E cX6_letAllCome RX6 2 := ⟨B.exec, B.bytes, hml, findClass_of_methodNamed B.named, fun w hw => atoms_spec (ws := WS yX6_letAllCome cX6_letAllCome 2 none) B.pre w (List.mem_cons_of_mem _ hw), B.notSynchronized, hSE⟩
  have hz : s.heap.size + 0 ≤ eB E + G.1 := Nat.le_of_eq hw0.2.1
  have hw : WD E G I X s.heap s.heap [] := ⟨hw0, va_S.rf⟩
  have hr := B.returns
  have hx := C0.1; have hb := C0.2.1; have hml := C0.2.2.1; have hown := C0.2.2.2.1; have hts := C0.2.2.2.2.1
  have hl := lv_entry ([.ref zx0]) (n := 2) (Nat.le_of_ble_eq_true rfl)
  rw [lg_entry_eq]
  generalize (lg_sl ([.ref zx0]) ++ List.replicate (2 - (lg_sl ([.ref zx0])).length) Slot.unset).toArray = ls at hl ⊢
  have hl : lv_has ls 2 [(0, .ref zx0)] := hl
  unfold m6_letAllCome at hf
  refine lv_aload_n hx hb dX6_letAllCome_0 rfl (lv_at hl 0 rfl) ?_
  refine lv_iconst (v := (0 : Int32)) hx hb dX6_letAllCome_1 (by decide) ?_
  obtain ⟨zI1, ezI1⟩ : ∃ y : Im, y = pF I 98 zx0 (0 : Int32) := ⟨_, rfl⟩
  have hf := lt_at hf ezI1
  refine xp_6_2 C0 hz hw zt0 rfl rfl wd169 dX6_letAllCome_2 ezI1 (fun H locs hw => ?_)
  refine lv_iconst (v := (0 : Int32)) hx hb dX6_letAllCome_5 (by decide) ?_
  refine lv_istore_n (lv' := [(1, .int (0 : Int32)), (0, .ref zx0)]) hx hb dX6_letAllCome_6 rfl hl (by decide) rfl (fun ls hl => ?_)
  exact w6_letAllCome_7 C0 hr hz fl fl zI1 _ _ _ zx0 (0 : Int32) zt0 hw (lv_sub hl [1, 0] rfl) hf
noncomputable def m5_rewind_51 (fl : Nat) (len : Nat → Nat) (X : Xm) (I : Im) : Option (Im) :=
  some (I)
set_option maxHeartbeats 4000000 in
set_option maxRecDepth 100000 in
theorem w5_rewind_51 {p : Program} {l : Launch} {e : Env} {s : State} {m : MethodId} {args : Array Value} {below : List Frame} {meth : Method} {c : Code} {E : EN} {G : GM} {X : Xm} (C0 : CX p s m args meth c E cX5_rewind RX5 2) (hr : meth.sig.returnType = none) (hz : s.heap.size + 0 ≤ eB E + G.1) {rr : Im} (fl : Nat) : ∀ (I : Im) (H : Heap) (locs : List Loc) (ls : Array Slot) , WD E G I X s.heap H locs → lv_has ls 2 [] → m5_rewind_51 fl G.2.2 X I = some rr → W p l e ({ frames := 0, cells := 0, slots := 0, locals := 0 } : Room) s m args below meth c H locs 0 0 (MQ below (QV E G rr X) args s 0 0 (eA E)) (F0 m 51 ls []) := by
  intro I H locs ls hw hl hf
  unfold m5_rewind_51 at hf
  have hx := C0.1; have hb := C0.2.1; have hml := C0.2.2.1; have hown := C0.2.2.2.1; have hts := C0.2.2.2.2.1
  obtain rfl := Option.some.inj hf
  exact x_vret C0 hr hw dX5_rewind_51
noncomputable def m5_rewind_18b (fl : Nat) (len : Nat → Nat) (X : Xm) (zr18 : Im → Nat → Int32 → Option (Im)) (I : Im) (zx0 : Nat) (zx1 : Int32) : Option (Im) :=
  if (gF I 81 zx0) ≤ zx1 then
    m5_rewind_51 fl len X I
  else
    nn (gR X 80 zx0) fun zv2 =>
    if (nI (len zv2)) ≤ zx1 then
      m5_rewind_51 fl len X I
    else
      ck (inb zx1 (len zv2) = true) <|
      nn (gQ X zv2 (zx1).toNatClampNeg) fun zv5 =>
      lt (pF I 115 zv5 (0 : Int32)) fun zI6 =>
      lt (zx1 + 1) fun zv7 =>
      zr18 zI6 zx0 zv7
noncomputable def m5_rewind_18 (fl : Nat) (len : Nat → Nat) (X : Xm) (n : Nat) : Im → Nat → Int32 → Option (Im) :=
  Nat.rec (fun _ _ _ => none) (fun _ r => m5_rewind_18b fl len X r) n
set_option maxHeartbeats 4000000 in
set_option maxRecDepth 100000 in
theorem w5_rewind_18b {p : Program} {l : Launch} {e : Env} {s : State} {m : MethodId} {args : Array Value} {below : List Frame} {meth : Method} {c : Code} {E : EN} {G : GM} {X : Xm} (C0 : CX p s m args meth c E cX5_rewind RX5 2) (hr : meth.sig.returnType = none) (hz : s.heap.size + 0 ≤ eB E + G.1) {rr : Im} (fl : Nat) (zr18 : Im → Nat → Int32 → Option (Im)) (zhr18 : ∀ (I : Im) (H : Heap) (locs : List Loc) (ls : Array Slot) (zx0 : Nat) (zx1 : Int32) (zt0 : okA E G 5 zx0), WD E G I X s.heap H locs → lv_has ls 2 [(0, .ref zx0), (1, .int zx1)] → zr18 I zx0 zx1 = some rr → W p l e ({ frames := 0, cells := 0, slots := 0, locals := 0 } : Room) s m args below meth c H locs 0 0 (MQ below (QV E G rr X) args s 0 0 (eA E)) (F0 m 18 ls [])) : ∀ (I : Im) (H : Heap) (locs : List Loc) (ls : Array Slot) (zx0 : Nat) (zx1 : Int32) (zt0 : okA E G 5 zx0), WD E G I X s.heap H locs → lv_has ls 2 [(0, .ref zx0), (1, .int zx1)] → m5_rewind_18b fl G.2.2 X zr18 I zx0 zx1 = some rr → W p l e ({ frames := 0, cells := 0, slots := 0, locals := 0 } : Room) s m args below meth c H locs 0 0 (MQ below (QV E G rr X) args s 0 0 (eA E)) (F0 m 18 ls []) := by
  intro I H locs ls zx0 zx1 zt0 hw hl hf
  unfold m5_rewind_18b at hf
  have hx := C0.1; have hb := C0.2.1; have hml := C0.2.2.1; have hown := C0.2.2.2.1; have hts := C0.2.2.2.2.1
  refine lv_iload_n hx hb dX5_rewind_18 rfl (lv_at hl 1 rfl) ?_
  refine lv_aload_n hx hb dX5_rewind_19 rfl (lv_at hl 0 rfl) ?_
  refine xg_5_1 C0 hw zt0 wd177 dX5_rewind_20 ?_
  refine lv_icmp_ge (tgt := 51) hx hb dX5_rewind_23 (by decide) (fun zc1 => ?_) (fun zc1 => ?_)
  · have hf := ite_t hf zc1
    exact w5_rewind_51 C0 hr hz fl I _ _ _ hw (lv_sub hl [] rfl) hf
  · have hf := ite_f hf zc1
    refine lv_iload_n hx hb dX5_rewind_26 rfl (lv_at hl 1 rfl) ?_
    refine lv_aload_n hx hb dX5_rewind_27 rfl (lv_at hl 0 rfl) ?_
    obtain ⟨zv2, ezv2, hf⟩ := nn_some hf
    have tzv2 : okA E G 17 zv2 := wt_r hw ezv2
    refine xg_5_0 C0 hw zt0 wd137 ezv2 dX5_rewind_28 ?_
    refine x_alen C0 hw 17 tzv2 (by decide) rfl dX5_rewind_31 ?_
    refine lv_icmp_ge (tgt := 51) hx hb dX5_rewind_32 (by decide) (fun zc3 => ?_) (fun zc3 => ?_)
    · have hf := ite_t hf zc3
      exact w5_rewind_51 C0 hr hz fl I _ _ _ hw (lv_sub hl [] rfl) hf
    · have hf := ite_f hf zc3
      refine lv_aload_n hx hb dX5_rewind_35 rfl (lv_at hl 0 rfl) ?_
      refine xg_5_0 C0 hw zt0 wd137 ezv2 dX5_rewind_36 ?_
      refine lv_iload_n hx hb dX5_rewind_39 rfl (lv_at hl 1 rfl) ?_
      obtain ⟨zhb4, hf⟩ := ck_some hf
      obtain ⟨zv5, ezv5, hf⟩ := nn_some hf
      have tzv5 : okA E G 7 zv5 := wt_q hw tzv2 ezv5
      refine x_qald C0 hw 17 tzv2 (by decide) rfl zhb4 ezv5 dX5_rewind_40 ?_
      refine lv_iconst (v := (0 : Int32)) hx hb dX5_rewind_41 (by decide) ?_
      obtain ⟨zI6, ezI6⟩ : ∃ y : Im, y = pF I 115 zv5 (0 : Int32) := ⟨_, rfl⟩
      have hf := lt_at hf ezI6
      refine xp_7_3 C0 hz hw tzv5 rfl rfl wd210 dX5_rewind_42 ezI6 (fun H locs hw => ?_)
      obtain ⟨zv7, ezv7⟩ : ∃ y : Int32, y = zx1 + 1 := ⟨_, rfl⟩
      have hf := lt_at hf ezv7
      refine lv_iinc (v := zv7) (lv' := [(1, .int zv7), (0, .ref zx0)]) hx hb dX5_rewind_45 hl (k := 1) rfl (by rw [ezv7]; rfl) (by decide) rfl (fun ls hl => ?_)
      refine lv_goto (tgt := 18) hx hb dX5_rewind_48 (by decide) ?_
      exact zhr18 zI6 _ _ _ zx0 zv7 zt0 hw (lv_sub hl [1, 0] rfl) hf
theorem w5_rewind_18 {p : Program} {l : Launch} {e : Env} {s : State} {m : MethodId} {args : Array Value} {below : List Frame} {meth : Method} {c : Code} {E : EN} {G : GM} {X : Xm} (C0 : CX p s m args meth c E cX5_rewind RX5 2) (hr : meth.sig.returnType = none) (hz : s.heap.size + 0 ≤ eB E + G.1) {rr : Im} (fl : Nat) : ∀ (n : Nat) (I : Im) (H : Heap) (locs : List Loc) (ls : Array Slot) (zx0 : Nat) (zx1 : Int32) (zt0 : okA E G 5 zx0), WD E G I X s.heap H locs → lv_has ls 2 [(0, .ref zx0), (1, .int zx1)] → m5_rewind_18 fl G.2.2 X n I zx0 zx1 = some rr → W p l e ({ frames := 0, cells := 0, slots := 0, locals := 0 } : Room) s m args below meth c H locs 0 0 (MQ below (QV E G rr X) args s 0 0 (eA E)) (F0 m 18 ls []) := by
  intro n
  induction n with
  | zero => intro I H locs ls zx0 zx1 zt0 hw hl hf; exact absurd (show (none : Option (Im)) = some rr from hf) (by simp)
  | succ n ih => intro I H locs ls zx0 zx1 zt0 hw hl hf; exact w5_rewind_18b C0 hr hz fl _ ih I H locs ls zx0 zx1 zt0 hw hl hf
noncomputable def m5_rewind (fl : Nat) (len : Nat → Nat) (X : Xm) (I : Im) (zx0 : Nat) : Option (Im) :=
  lt (pF I 82 zx0 (0 : Int32)) fun zI1 =>
  lt (pF zI1 83 zx0 (-6 : Int32)) fun zI2 =>
  lt (pF zI2 84 zx0 (0 : Int32)) fun zI3 =>
  m5_rewind_18 fl len X fl zI3 zx0 (0 : Int32)
theorem hy5_rewind : yX5_rewind.cls = RX5 ∧ yX5_rewind.cls ≠ "java/lang/invoke/MethodHandle" ∧ yX5_rewind.cls ≠ "java/lang/invoke/VarHandle" ∧ (parseMethodDescriptor yX5_rewind.desc).map (fun d => d.parameters.length) = some 0 := ⟨rfl, by decide +kernel, by decide +kernel, by decide +kernel⟩
set_option maxHeartbeats 4000000 in
set_option maxRecDepth 100000 in
theorem c5_rewind (l : Launch) (E : EN) (G : GM) (fl : Nat) (X : Xm) (I : Im) (zx0 : Nat) (zt0 : okA E G 5 zx0) {rr : Im} (hf : m5_rewind fl G.2.2 X I zx0 = some rr) : MT l yX5_rewind cX5_rewind 2 none ({ frames := 0, cells := 0, slots := 0, locals := 0 } : Room) E G I X [.ref zx0] (QV E G rr X) 0 0 := by
  refine Met.ofW (cc := cX5_rewind) (maxL := 2) (ret := none) (by decide +kernel) rfl ?_
  intro p e s m args below meth c s₁ B hml hv
  obtain ⟨rfl, hw0, hSE⟩ := hv
  have C0 : CX p s m ([.ref zx0] : List Value).toArray meth c E cX5_rewind RX5 2 := ⟨B.exec, B.bytes, hml, findClass_of_methodNamed B.named, fun w hw => atoms_spec (ws := WS yX5_rewind cX5_rewind 2 none) B.pre w (List.mem_cons_of_mem _ hw), B.notSynchronized, hSE⟩
  have hz : s.heap.size + 0 ≤ eB E + G.1 := Nat.le_of_eq hw0.2.1
  have hw : WD E G I X s.heap s.heap [] := ⟨hw0, va_S.rf⟩
  have hr := B.returns
  have hx := C0.1; have hb := C0.2.1; have hml := C0.2.2.1; have hown := C0.2.2.2.1; have hts := C0.2.2.2.2.1
  have hl := lv_entry ([.ref zx0]) (n := 2) (Nat.le_of_ble_eq_true rfl)
  rw [lg_entry_eq]
  generalize (lg_sl ([.ref zx0]) ++ List.replicate (2 - (lg_sl ([.ref zx0])).length) Slot.unset).toArray = ls at hl ⊢
  have hl : lv_has ls 2 [(0, .ref zx0)] := hl
  unfold m5_rewind at hf
  refine lv_aload_n hx hb dX5_rewind_0 rfl (lv_at hl 0 rfl) ?_
  refine lv_iconst (v := (0 : Int32)) hx hb dX5_rewind_1 (by decide) ?_
  obtain ⟨zI1, ezI1⟩ : ∃ y : Im, y = pF I 82 zx0 (0 : Int32) := ⟨_, rfl⟩
  have hf := lt_at hf ezI1
  refine xp_5_2 C0 hz hw zt0 rfl rfl wd178 dX5_rewind_2 ezI1 (fun H locs hw => ?_)
  refine lv_aload_n hx hb dX5_rewind_5 rfl (lv_at hl 0 rfl) ?_
  refine lv_bipush (v := (-6 : Int32)) hx hb dX5_rewind_6 (by decide) ?_
  obtain ⟨zI2, ezI2⟩ : ∃ y : Im, y = pF zI1 83 zx0 (-6 : Int32) := ⟨_, rfl⟩
  have hf := lt_at hf ezI2
  refine xp_5_3 C0 hz hw zt0 rfl rfl wd138 dX5_rewind_8 ezI2 (fun H locs hw => ?_)
  refine lv_aload_n hx hb dX5_rewind_11 rfl (lv_at hl 0 rfl) ?_
  refine lv_iconst (v := (0 : Int32)) hx hb dX5_rewind_12 (by decide) ?_
  obtain ⟨zI3, ezI3⟩ : ∃ y : Im, y = pF zI2 84 zx0 (0 : Int32) := ⟨_, rfl⟩
  have hf := lt_at hf ezI3
  refine xp_5_4 C0 hz hw zt0 rfl rfl wd179 dX5_rewind_13 ezI3 (fun H locs hw => ?_)
  refine lv_iconst (v := (0 : Int32)) hx hb dX5_rewind_16 (by decide) ?_
  refine lv_istore_n (lv' := [(1, .int (0 : Int32)), (0, .ref zx0)]) hx hb dX5_rewind_17 rfl hl (by decide) rfl (fun ls hl => ?_)
  exact w5_rewind_18 C0 hr hz fl fl zI3 _ _ _ zx0 (0 : Int32) zt0 hw (lv_sub hl [1, 0] rfl) hf
noncomputable def m4_beginAnew_45b (fl : Nat) (len : Nat → Nat) (X : Xm) (zr45 : Im → Nat → Int32 → Int32 → Nat → Nat → Option (Int32 × Im)) (I : Im) (zx0 : Nat) (zx1 : Int32) (zx2 : Int32) (p_65 : Nat) (p_66 : Nat) : Option (Int32 × Im) :=
  nn (gR X 67 zx0) fun zv1 =>
  if (nI (len zv1)) ≤ zx2 then
    nn (gR X 68 zx0) fun zv3 =>
    lt (pF I 35 zv3 (0 : Int32)) fun zI4 =>
    lt (pF zI4 70 zx0 (0 : Int32)) fun zI5 =>
    some (zx1, zI5)
  else
    ck (inb zx2 (len zv1) = true) <|
    nn (gQ X zv1 (zx2).toNatClampNeg) fun zv7 =>
    lt (pF I 0 zv7 (50 : Int32)) fun zI8 =>
    nn (gQ X zv1 (zx2).toNatClampNeg) fun zv9 =>
    lt (pF zI8 1 zv9 (50 : Int32)) fun zI10 =>
    lt (zx2 + 1) fun zv11 =>
    zr45 zI10 zx0 zx1 zv11 p_65 p_66
noncomputable def m4_beginAnew_45 (fl : Nat) (len : Nat → Nat) (X : Xm) (n : Nat) : Im → Nat → Int32 → Int32 → Nat → Nat → Option (Int32 × Im) :=
  Nat.rec (fun _ _ _ _ _ _ => none) (fun _ r => m4_beginAnew_45b fl len X r) n
set_option maxHeartbeats 4000000 in
set_option maxRecDepth 100000 in
theorem w4_beginAnew_45b {p : Program} {l : Launch} {e : Env} {s : State} {m : MethodId} {args : Array Value} {below : List Frame} {meth : Method} {c : Code} {E : EN} {G : GM} {X : Xm} (C0 : CX p s m args meth c E cX4_beginAnew RX4 3) (hr : meth.sig.returnType = (some .int)) (hz : s.heap.size + 0 ≤ eB E + G.1) {rr : Int32 × Im} (fl : Nat) (zr45 : Im → Nat → Int32 → Int32 → Nat → Nat → Option (Int32 × Im)) (zhr45 : ∀ (I : Im) (H : Heap) (locs : List Loc) (ls : Array Slot) (zx0 : Nat) (zx1 : Int32) (zx2 : Int32) (p_65 : Nat) (p_66 : Nat) (zt0 : okA E G 4 zx0) (ep_65 : gR X 65 zx0 = some p_65) (tp_65 : okA E G 6 p_65) (ep_66 : gR X 66 zx0 = some p_66) (tp_66 : okA E G 16 p_66), WD E G I X s.heap H locs → lv_has ls 3 [(0, .ref zx0), (1, .int zx1), (2, .int zx2)] → zr45 I zx0 zx1 zx2 p_65 p_66 = some rr → W p l e ({ frames := 1, cells := 0, slots := 0, locals := 21 } : Room) s m args below meth c H locs 0 0 (MQ below (QI E G rr.1 rr.2 X) args s 0 0 (eA E)) (F0 m 45 ls [])) : ∀ (I : Im) (H : Heap) (locs : List Loc) (ls : Array Slot) (zx0 : Nat) (zx1 : Int32) (zx2 : Int32) (p_65 : Nat) (p_66 : Nat) (zt0 : okA E G 4 zx0) (ep_65 : gR X 65 zx0 = some p_65) (tp_65 : okA E G 6 p_65) (ep_66 : gR X 66 zx0 = some p_66) (tp_66 : okA E G 16 p_66), WD E G I X s.heap H locs → lv_has ls 3 [(0, .ref zx0), (1, .int zx1), (2, .int zx2)] → m4_beginAnew_45b fl G.2.2 X zr45 I zx0 zx1 zx2 p_65 p_66 = some rr → W p l e ({ frames := 1, cells := 0, slots := 0, locals := 21 } : Room) s m args below meth c H locs 0 0 (MQ below (QI E G rr.1 rr.2 X) args s 0 0 (eA E)) (F0 m 45 ls []) := by
  intro I H locs ls zx0 zx1 zx2 p_65 p_66 zt0 ep_65 tp_65 ep_66 tp_66 hw hl hf
  unfold m4_beginAnew_45b at hf
  have hx := C0.1; have hb := C0.2.1; have hml := C0.2.2.1; have hown := C0.2.2.2.1; have hts := C0.2.2.2.2.1
  refine lv_iload_n hx hb dX4_beginAnew_45 rfl (lv_at hl 2 rfl) ?_
  refine lv_aload_n hx hb dX4_beginAnew_46 rfl (lv_at hl 0 rfl) ?_
  obtain ⟨zv1, ezv1, hf⟩ := nn_some hf
  have tzv1 : okA E G 13 zv1 := wt_r hw ezv1
  refine xg_4_3 C0 hw zt0 wd151 ezv1 dX4_beginAnew_47 ?_
  refine x_alen C0 hw 13 tzv1 (by decide) rfl dX4_beginAnew_50 ?_
  refine lv_icmp_ge (tgt := 82) hx hb dX4_beginAnew_51 (by decide) (fun zc2 => ?_) (fun zc2 => ?_)
  · have hf := ite_t hf zc2
    refine lv_aload_n hx hb dX4_beginAnew_82 rfl (lv_at hl 0 rfl) ?_
    obtain ⟨zv3, ezv3, hf⟩ := nn_some hf
    have tzv3 : okA E G 2 zv3 := wt_r hw ezv3
    refine xg_4_4 C0 hw zt0 wd155 ezv3 dX4_beginAnew_83 ?_
    refine lv_iconst (v := (0 : Int32)) hx hb dX4_beginAnew_86 (by decide) ?_
    obtain ⟨zI4, ezI4⟩ : ∃ y : Im, y = pF I 35 zv3 (0 : Int32) := ⟨_, rfl⟩
    have hf := lt_at hf ezI4
    refine xp_2_3 C0 hz hw tzv3 rfl rfl wd249 dX4_beginAnew_87 ezI4 (fun H locs hw => ?_)
    refine lv_aload_n hx hb dX4_beginAnew_90 rfl (lv_at hl 0 rfl) ?_
    refine lv_iconst (v := (0 : Int32)) hx hb dX4_beginAnew_91 (by decide) ?_
    obtain ⟨zI5, ezI5⟩ : ∃ y : Im, y = pF zI4 70 zx0 (0 : Int32) := ⟨_, rfl⟩
    have hf := lt_at hf ezI5
    refine xp_4_6 C0 hz hw zt0 rfl rfl wd189 dX4_beginAnew_92 ezI5 (fun H locs hw => ?_)
    refine lv_iload_n hx hb dX4_beginAnew_95 rfl (lv_at hl 1 rfl) ?_
    obtain rfl := Option.some.inj hf
    exact x_iret C0 hr hw dX4_beginAnew_96
  · have hf := ite_f hf zc2
    refine lv_aload_n hx hb dX4_beginAnew_54 rfl (lv_at hl 0 rfl) ?_
    refine xg_4_3 C0 hw zt0 wd151 ezv1 dX4_beginAnew_55 ?_
    refine lv_iload_n hx hb dX4_beginAnew_58 rfl (lv_at hl 2 rfl) ?_
    obtain ⟨zhb6, hf⟩ := ck_some hf
    obtain ⟨zv7, ezv7, hf⟩ := nn_some hf
    have tzv7 : okA E G 0 zv7 := wt_q hw tzv1 ezv7
    refine x_qald C0 hw 13 tzv1 (by decide) rfl zhb6 ezv7 dX4_beginAnew_59 ?_
    refine lv_bipush (v := (50 : Int32)) hx hb dX4_beginAnew_60 (by decide) ?_
    obtain ⟨zI8, ezI8⟩ : ∃ y : Im, y = pF I 0 zv7 (50 : Int32) := ⟨_, rfl⟩
    have hf := lt_at hf ezI8
    refine xp_0_0 C0 hz hw tzv7 rfl rfl wd187 dX4_beginAnew_62 ezI8 (fun H locs hw => ?_)
    refine lv_aload_n hx hb dX4_beginAnew_65 rfl (lv_at hl 0 rfl) ?_
    refine xg_4_3 C0 hw zt0 wd151 ezv1 dX4_beginAnew_66 ?_
    refine lv_iload_n hx hb dX4_beginAnew_69 rfl (lv_at hl 2 rfl) ?_
    obtain ⟨zv9, ezv9, hf⟩ := nn_some hf
    have tzv9 : okA E G 0 zv9 := wt_q hw tzv1 ezv9
    refine x_qald C0 hw 13 tzv1 (by decide) rfl zhb6 ezv9 dX4_beginAnew_70 ?_
    refine lv_bipush (v := (50 : Int32)) hx hb dX4_beginAnew_71 (by decide) ?_
    obtain ⟨zI10, ezI10⟩ : ∃ y : Im, y = pF zI8 1 zv9 (50 : Int32) := ⟨_, rfl⟩
    have hf := lt_at hf ezI10
    refine xp_0_1 C0 hz hw tzv9 rfl rfl wd188 dX4_beginAnew_73 ezI10 (fun H locs hw => ?_)
    obtain ⟨zv11, ezv11⟩ : ∃ y : Int32, y = zx2 + 1 := ⟨_, rfl⟩
    have hf := lt_at hf ezv11
    refine lv_iinc (v := zv11) (lv' := [(2, .int zv11), (0, .ref zx0), (1, .int zx1)]) hx hb dX4_beginAnew_76 hl (k := 2) rfl (by rw [ezv11]; rfl) (by decide) rfl (fun ls hl => ?_)
    refine lv_goto (tgt := 45) hx hb dX4_beginAnew_79 (by decide) ?_
    exact zhr45 zI10 _ _ _ zx0 zx1 zv11 p_65 p_66 zt0 ep_65 tp_65 ep_66 tp_66 hw (lv_sub hl [1, 2, 0] rfl) hf
theorem w4_beginAnew_45 {p : Program} {l : Launch} {e : Env} {s : State} {m : MethodId} {args : Array Value} {below : List Frame} {meth : Method} {c : Code} {E : EN} {G : GM} {X : Xm} (C0 : CX p s m args meth c E cX4_beginAnew RX4 3) (hr : meth.sig.returnType = (some .int)) (hz : s.heap.size + 0 ≤ eB E + G.1) {rr : Int32 × Im} (fl : Nat) : ∀ (n : Nat) (I : Im) (H : Heap) (locs : List Loc) (ls : Array Slot) (zx0 : Nat) (zx1 : Int32) (zx2 : Int32) (p_65 : Nat) (p_66 : Nat) (zt0 : okA E G 4 zx0) (ep_65 : gR X 65 zx0 = some p_65) (tp_65 : okA E G 6 p_65) (ep_66 : gR X 66 zx0 = some p_66) (tp_66 : okA E G 16 p_66), WD E G I X s.heap H locs → lv_has ls 3 [(0, .ref zx0), (1, .int zx1), (2, .int zx2)] → m4_beginAnew_45 fl G.2.2 X n I zx0 zx1 zx2 p_65 p_66 = some rr → W p l e ({ frames := 1, cells := 0, slots := 0, locals := 21 } : Room) s m args below meth c H locs 0 0 (MQ below (QI E G rr.1 rr.2 X) args s 0 0 (eA E)) (F0 m 45 ls []) := by
  intro n
  induction n with
  | zero => intro I H locs ls zx0 zx1 zx2 p_65 p_66 zt0 ep_65 tp_65 ep_66 tp_66 hw hl hf; exact absurd (show (none : Option (Int32 × Im)) = some rr from hf) (by simp)
  | succ n ih => intro I H locs ls zx0 zx1 zx2 p_65 p_66 zt0 ep_65 tp_65 ep_66 tp_66 hw hl hf; exact w4_beginAnew_45b C0 hr hz fl _ ih I H locs ls zx0 zx1 zx2 p_65 p_66 zt0 ep_65 tp_65 ep_66 tp_66 hw hl hf
noncomputable def m4_beginAnew_19b (fl : Nat) (len : Nat → Nat) (X : Xm) (zr19 : Im → Nat → Int32 → Int32 → Nat → Option (Int32 × Im)) (I : Im) (zx0 : Nat) (zx1 : Int32) (zx2 : Int32) (p_65 : Nat) : Option (Int32 × Im) :=
  nn (gR X 66 zx0) fun zv1 =>
  if (nI (len zv1)) ≤ zx2 then
    m4_beginAnew_45 fl len X fl I zx0 zx1 (0 : Int32) p_65 zv1
  else
    ck (inb zx2 (len zv1) = true) <|
    nn (gQ X zv1 (zx2).toNatClampNeg) fun zv4 =>
    nn (m5_rewind fl len X I zv4) fun zI5 =>
    lt (zx2 + 1) fun zv7 =>
    zr19 zI5 zx0 zx1 zv7 p_65
noncomputable def m4_beginAnew_19 (fl : Nat) (len : Nat → Nat) (X : Xm) (n : Nat) : Im → Nat → Int32 → Int32 → Nat → Option (Int32 × Im) :=
  Nat.rec (fun _ _ _ _ _ => none) (fun _ r => m4_beginAnew_19b fl len X r) n
set_option maxHeartbeats 4000000 in
set_option maxRecDepth 100000 in
theorem w4_beginAnew_19b {p : Program} {l : Launch} {e : Env} {s : State} {m : MethodId} {args : Array Value} {below : List Frame} {meth : Method} {c : Code} {E : EN} {G : GM} {X : Xm} (C0 : CX p s m args meth c E cX4_beginAnew RX4 3) (hr : meth.sig.returnType = (some .int)) (hz : s.heap.size + 0 ≤ eB E + G.1) {rr : Int32 × Im} (fl : Nat) (zr19 : Im → Nat → Int32 → Int32 → Nat → Option (Int32 × Im)) (zhr19 : ∀ (I : Im) (H : Heap) (locs : List Loc) (ls : Array Slot) (zx0 : Nat) (zx1 : Int32) (zx2 : Int32) (p_65 : Nat) (zt0 : okA E G 4 zx0) (ep_65 : gR X 65 zx0 = some p_65) (tp_65 : okA E G 6 p_65), WD E G I X s.heap H locs → lv_has ls 3 [(0, .ref zx0), (1, .int zx1), (2, .int zx2)] → zr19 I zx0 zx1 zx2 p_65 = some rr → W p l e ({ frames := 1, cells := 0, slots := 0, locals := 21 } : Room) s m args below meth c H locs 0 0 (MQ below (QI E G rr.1 rr.2 X) args s 0 0 (eA E)) (F0 m 19 ls [])) : ∀ (I : Im) (H : Heap) (locs : List Loc) (ls : Array Slot) (zx0 : Nat) (zx1 : Int32) (zx2 : Int32) (p_65 : Nat) (zt0 : okA E G 4 zx0) (ep_65 : gR X 65 zx0 = some p_65) (tp_65 : okA E G 6 p_65), WD E G I X s.heap H locs → lv_has ls 3 [(0, .ref zx0), (1, .int zx1), (2, .int zx2)] → m4_beginAnew_19b fl G.2.2 X zr19 I zx0 zx1 zx2 p_65 = some rr → W p l e ({ frames := 1, cells := 0, slots := 0, locals := 21 } : Room) s m args below meth c H locs 0 0 (MQ below (QI E G rr.1 rr.2 X) args s 0 0 (eA E)) (F0 m 19 ls []) := by
  intro I H locs ls zx0 zx1 zx2 p_65 zt0 ep_65 tp_65 hw hl hf
  unfold m4_beginAnew_19b at hf
  have hx := C0.1; have hb := C0.2.1; have hml := C0.2.2.1; have hown := C0.2.2.2.1; have hts := C0.2.2.2.2.1
  refine lv_iload_n hx hb dX4_beginAnew_19 rfl (lv_at hl 2 rfl) ?_
  refine lv_aload_n hx hb dX4_beginAnew_20 rfl (lv_at hl 0 rfl) ?_
  obtain ⟨zv1, ezv1, hf⟩ := nn_some hf
  have tzv1 : okA E G 16 zv1 := wt_r hw ezv1
  refine xg_4_2 C0 hw zt0 wd149 ezv1 dX4_beginAnew_21 ?_
  refine x_alen C0 hw 16 tzv1 (by decide) rfl dX4_beginAnew_24 ?_
  refine lv_icmp_ge (tgt := 43) hx hb dX4_beginAnew_25 (by decide) (fun zc2 => ?_) (fun zc2 => ?_)
  · have hf := ite_t hf zc2
    refine lv_iconst (v := (0 : Int32)) hx hb dX4_beginAnew_43 (by decide) ?_
    refine lv_istore_n (lv' := [(2, .int (0 : Int32)), (0, .ref zx0), (1, .int zx1)]) hx hb dX4_beginAnew_44 rfl hl (by decide) rfl (fun ls hl => ?_)
    exact w4_beginAnew_45 C0 hr hz fl fl I _ _ _ zx0 zx1 (0 : Int32) p_65 zv1 zt0 ep_65 tp_65 ezv1 tzv1 hw (lv_sub hl [1, 2, 0] rfl) hf
  · have hf := ite_f hf zc2
    refine lv_aload_n hx hb dX4_beginAnew_28 rfl (lv_at hl 0 rfl) ?_
    refine xg_4_2 C0 hw zt0 wd149 ezv1 dX4_beginAnew_29 ?_
    refine lv_iload_n hx hb dX4_beginAnew_32 rfl (lv_at hl 2 rfl) ?_
    obtain ⟨zhb3, hf⟩ := ck_some hf
    obtain ⟨zv4, ezv4, hf⟩ := nn_some hf
    have tzv4 : okA E G 5 zv4 := wt_q hw tzv1 ezv4
    refine x_qald C0 hw 16 tzv1 (by decide) rfl zhb3 ezv4 dX4_beginAnew_33 ?_
    obtain ⟨zI5, ze6, hf⟩ := nn_some hf
    refine x_cv (I1 := zI5) (X1 := X) (x_runV (As := []) (rest := []) C0 (c5_rewind l E G fl X I zv4 tzv4 ze6) hw 5 tzv4 (by decide) rfl wd37 wd253 wd254 wd255 wd159 ⟨rfl, rfl⟩ hy5_rewind ⟨Nat.le_of_ble_eq_true rfl, Nat.le_of_ble_eq_true rfl⟩ rfl hl.1 (Nat.le_of_ble_eq_true rfl) ⟨Nat.zero_le _, Nat.zero_le _⟩ dX4_beginAnew_34) hw (fun H locs hw => ?_)
    obtain ⟨zv7, ezv7⟩ : ∃ y : Int32, y = zx2 + 1 := ⟨_, rfl⟩
    have hf := lt_at hf ezv7
    refine lv_iinc (v := zv7) (lv' := [(2, .int zv7), (0, .ref zx0), (1, .int zx1)]) hx hb dX4_beginAnew_37 hl (k := 2) rfl (by rw [ezv7]; rfl) (by decide) rfl (fun ls hl => ?_)
    refine lv_goto (tgt := 19) hx hb dX4_beginAnew_40 (by decide) ?_
    exact zhr19 zI5 _ _ _ zx0 zx1 zv7 p_65 zt0 ep_65 tp_65 hw (lv_sub hl [1, 2, 0] rfl) hf
theorem w4_beginAnew_19 {p : Program} {l : Launch} {e : Env} {s : State} {m : MethodId} {args : Array Value} {below : List Frame} {meth : Method} {c : Code} {E : EN} {G : GM} {X : Xm} (C0 : CX p s m args meth c E cX4_beginAnew RX4 3) (hr : meth.sig.returnType = (some .int)) (hz : s.heap.size + 0 ≤ eB E + G.1) {rr : Int32 × Im} (fl : Nat) : ∀ (n : Nat) (I : Im) (H : Heap) (locs : List Loc) (ls : Array Slot) (zx0 : Nat) (zx1 : Int32) (zx2 : Int32) (p_65 : Nat) (zt0 : okA E G 4 zx0) (ep_65 : gR X 65 zx0 = some p_65) (tp_65 : okA E G 6 p_65), WD E G I X s.heap H locs → lv_has ls 3 [(0, .ref zx0), (1, .int zx1), (2, .int zx2)] → m4_beginAnew_19 fl G.2.2 X n I zx0 zx1 zx2 p_65 = some rr → W p l e ({ frames := 1, cells := 0, slots := 0, locals := 21 } : Room) s m args below meth c H locs 0 0 (MQ below (QI E G rr.1 rr.2 X) args s 0 0 (eA E)) (F0 m 19 ls []) := by
  intro n
  induction n with
  | zero => intro I H locs ls zx0 zx1 zx2 p_65 zt0 ep_65 tp_65 hw hl hf; exact absurd (show (none : Option (Int32 × Im)) = some rr from hf) (by simp)
  | succ n ih => intro I H locs ls zx0 zx1 zx2 p_65 zt0 ep_65 tp_65 hw hl hf; exact w4_beginAnew_19b C0 hr hz fl _ ih I H locs ls zx0 zx1 zx2 p_65 zt0 ep_65 tp_65 hw hl hf
noncomputable def m4_beginAnew (fl : Nat) (len : Nat → Nat) (X : Xm) (I : Im) (zx0 : Nat) : Option (Int32 × Im) :=
  lt ((gF I 72 zx0)) fun zv1 =>
  lt (pF I 72 zx0 (0 : Int32)) fun zI2 =>
  nn (gR X 65 zx0) fun zv3 =>
  nn (m6_letAllCome fl len X zI2 zv3) fun zI4 =>
  m4_beginAnew_19 fl len X fl zI4 zx0 zv1 (0 : Int32) zv3
theorem hy4_beginAnew : yX4_beginAnew.cls = RX4 ∧ yX4_beginAnew.cls ≠ "java/lang/invoke/MethodHandle" ∧ yX4_beginAnew.cls ≠ "java/lang/invoke/VarHandle" ∧ (parseMethodDescriptor yX4_beginAnew.desc).map (fun d => d.parameters.length) = some 0 := ⟨rfl, by decide +kernel, by decide +kernel, by decide +kernel⟩
set_option maxHeartbeats 4000000 in
set_option maxRecDepth 100000 in
theorem c4_beginAnew (l : Launch) (E : EN) (G : GM) (fl : Nat) (X : Xm) (I : Im) (zx0 : Nat) (zt0 : okA E G 4 zx0) {rr : Int32 × Im} (hf : m4_beginAnew fl G.2.2 X I zx0 = some rr) : MT l yX4_beginAnew cX4_beginAnew 3 (some .int) ({ frames := 1, cells := 0, slots := 0, locals := 21 } : Room) E G I X [.ref zx0] (QI E G rr.1 rr.2 X) 0 0 := by
  refine Met.ofW (cc := cX4_beginAnew) (maxL := 3) (ret := (some .int)) (by decide +kernel) rfl ?_
  intro p e s m args below meth c s₁ B hml hv
  obtain ⟨rfl, hw0, hSE⟩ := hv
  have C0 : CX p s m ([.ref zx0] : List Value).toArray meth c E cX4_beginAnew RX4 3 := ⟨B.exec, B.bytes, hml, findClass_of_methodNamed B.named, fun w hw => atoms_spec (ws := WS yX4_beginAnew cX4_beginAnew 3 (some .int)) B.pre w (List.mem_cons_of_mem _ hw), B.notSynchronized, hSE⟩
  have hz : s.heap.size + 0 ≤ eB E + G.1 := Nat.le_of_eq hw0.2.1
  have hw : WD E G I X s.heap s.heap [] := ⟨hw0, va_S.rf⟩
  have hr := B.returns
  have hx := C0.1; have hb := C0.2.1; have hml := C0.2.2.1; have hown := C0.2.2.2.1; have hts := C0.2.2.2.2.1
  have hl := lv_entry ([.ref zx0]) (n := 3) (Nat.le_of_ble_eq_true rfl)
  rw [lg_entry_eq]
  generalize (lg_sl ([.ref zx0]) ++ List.replicate (3 - (lg_sl ([.ref zx0])).length) Slot.unset).toArray = ls at hl ⊢
  have hl : lv_has ls 3 [(0, .ref zx0)] := hl
  unfold m4_beginAnew at hf
  refine lv_aload_n hx hb dX4_beginAnew_0 rfl (lv_at hl 0 rfl) ?_
  refine xg_4_8 C0 hw zt0 wd183 dX4_beginAnew_1 ?_
  refine lv_topi (fun zv1 ezv1 => ?_)
  have hf := lt_at hf ezv1
  refine lv_istore_n (lv' := [(1, .int zv1), (0, .ref zx0)]) hx hb dX4_beginAnew_4 rfl hl (by decide) rfl (fun ls hl => ?_)
  refine lv_aload_n hx hb dX4_beginAnew_5 rfl (lv_at hl 1 rfl) ?_
  refine lv_iconst (v := (0 : Int32)) hx hb dX4_beginAnew_6 (by decide) ?_
  obtain ⟨zI2, ezI2⟩ : ∃ y : Im, y = pF I 72 zx0 (0 : Int32) := ⟨_, rfl⟩
  have hf := lt_at hf ezI2
  refine xp_4_8 C0 hz hw zt0 rfl rfl wd183 dX4_beginAnew_7 ezI2 (fun H locs hw => ?_)
  refine lv_aload_n hx hb dX4_beginAnew_10 rfl (lv_at hl 1 rfl) ?_
  obtain ⟨zv3, ezv3, hf⟩ := nn_some hf
  have tzv3 : okA E G 6 zv3 := wt_r hw ezv3
  refine xg_4_1 C0 hw zt0 wd147 ezv3 dX4_beginAnew_11 ?_
  obtain ⟨zI4, ze5, hf⟩ := nn_some hf
  refine x_cv (I1 := zI4) (X1 := X) (x_runV (As := []) (rest := []) C0 (c6_letAllCome l E G fl X zI2 zv3 tzv3 ze5) hw 6 tzv3 (by decide) rfl wd36 wd250 wd251 wd252 wd146 ⟨rfl, rfl⟩ hy6_letAllCome ⟨Nat.le_of_ble_eq_true rfl, Nat.le_of_ble_eq_true rfl⟩ rfl hl.1 (Nat.le_of_ble_eq_true rfl) ⟨Nat.zero_le _, Nat.zero_le _⟩ dX4_beginAnew_14) hw (fun H locs hw => ?_)
  refine lv_iconst (v := (0 : Int32)) hx hb dX4_beginAnew_17 (by decide) ?_
  refine lv_istore_n (lv' := [(2, .int (0 : Int32)), (1, .int zv1), (0, .ref zx0)]) hx hb dX4_beginAnew_18 rfl hl (by decide) rfl (fun ls hl => ?_)
  exact w4_beginAnew_19 C0 hr hz fl fl zI4 _ _ _ zx0 zv1 (0 : Int32) zv3 zt0 ezv3 tzv3 hw (lv_sub hl [2, 1, 0] rfl) hf
noncomputable def m4_runSeconds_39b (fl : Nat) (len : Nat → Nat) (X : Xm) (zr39 : Im → Nat → Int32 → Int32 → Int32 → Nat → Option (Int32 × Im)) (I : Im) (zx0 : Nat) (zx1 : Int32) (zx2 : Int32) (zx3 : Int32) (p_65 : Nat) : Option (Int32 × Im) :=
  if zx1 ≤ zx3 then
    nn (m6_missedCues fl len X I p_65) fun zv2 =>
    some ((zv2 - zx2), I)
  else
    nn (m4_runSecond fl len X I zx0) fun ⟨zv4, zI5⟩ =>
    lt (zx3 + 1) fun zv7 =>
    zr39 zI5 zx0 zx1 zx2 zv7 p_65
noncomputable def m4_runSeconds_39 (fl : Nat) (len : Nat → Nat) (X : Xm) (n : Nat) : Im → Nat → Int32 → Int32 → Int32 → Nat → Option (Int32 × Im) :=
  Nat.rec (fun _ _ _ _ _ _ => none) (fun _ r => m4_runSeconds_39b fl len X r) n
set_option maxHeartbeats 4000000 in
set_option maxRecDepth 100000 in
theorem w4_runSeconds_39b {p : Program} {l : Launch} {e : Env} {s : State} {m : MethodId} {args : Array Value} {below : List Frame} {meth : Method} {c : Code} {E : EN} {G : GM} {X : Xm} (C0 : CX p s m args meth c E cX4_runSeconds RX4 4) (hr : meth.sig.returnType = (some .int)) (hz : s.heap.size + 0 ≤ eB E + G.1) {rr : Int32 × Im} (fl : Nat) (zr39 : Im → Nat → Int32 → Int32 → Int32 → Nat → Option (Int32 × Im)) (zhr39 : ∀ (I : Im) (H : Heap) (locs : List Loc) (ls : Array Slot) (zx0 : Nat) (zx1 : Int32) (zx2 : Int32) (zx3 : Int32) (p_65 : Nat) (zt0 : okA E G 4 zx0) (ep_65 : gR X 65 zx0 = some p_65) (tp_65 : okA E G 6 p_65), WD E G I X s.heap H locs → lv_has ls 4 [(0, .ref zx0), (1, .int zx1), (2, .int zx2), (3, .int zx3)] → zr39 I zx0 zx1 zx2 zx3 p_65 = some rr → W p l e ({ frames := 4, cells := 0, slots := 0, locals := 90 } : Room) s m args below meth c H locs 0 0 (MQ below (QI E G rr.1 rr.2 X) args s 0 0 (eA E)) (F0 m 39 ls [])) : ∀ (I : Im) (H : Heap) (locs : List Loc) (ls : Array Slot) (zx0 : Nat) (zx1 : Int32) (zx2 : Int32) (zx3 : Int32) (p_65 : Nat) (zt0 : okA E G 4 zx0) (ep_65 : gR X 65 zx0 = some p_65) (tp_65 : okA E G 6 p_65), WD E G I X s.heap H locs → lv_has ls 4 [(0, .ref zx0), (1, .int zx1), (2, .int zx2), (3, .int zx3)] → m4_runSeconds_39b fl G.2.2 X zr39 I zx0 zx1 zx2 zx3 p_65 = some rr → W p l e ({ frames := 4, cells := 0, slots := 0, locals := 90 } : Room) s m args below meth c H locs 0 0 (MQ below (QI E G rr.1 rr.2 X) args s 0 0 (eA E)) (F0 m 39 ls []) := by
  intro I H locs ls zx0 zx1 zx2 zx3 p_65 zt0 ep_65 tp_65 hw hl hf
  unfold m4_runSeconds_39b at hf
  have hx := C0.1; have hb := C0.2.1; have hml := C0.2.2.1; have hown := C0.2.2.2.1; have hts := C0.2.2.2.2.1
  refine lv_iload_n hx hb dX4_runSeconds_39 rfl (lv_at hl 3 rfl) ?_
  refine lv_iload_n hx hb dX4_runSeconds_40 rfl (lv_at hl 1 rfl) ?_
  refine lv_icmp_ge (tgt := 55) hx hb dX4_runSeconds_41 (by decide) (fun zc1 => ?_) (fun zc1 => ?_)
  · have hf := ite_t hf zc1
    refine lv_aload_n hx hb dX4_runSeconds_55 rfl (lv_at hl 0 rfl) ?_
    refine xg_4_1 C0 hw zt0 wd147 ep_65 dX4_runSeconds_56 ?_
    obtain ⟨zv2, ze3, hf⟩ := nn_some hf
    refine x_ci (r := zv2) (I1 := I) (X1 := X) (x_runV (As := []) (rest := []) C0 (c6_missedCues l E G fl X I p_65 tp_65 ze3) hw 6 tp_65 (by decide) rfl wd40 wd309 wd310 wd311 wd146 ⟨rfl, rfl⟩ hy6_missedCues ⟨Nat.le_of_ble_eq_true rfl, Nat.le_of_ble_eq_true rfl⟩ rfl hl.1 (Nat.le_of_ble_eq_true rfl) ⟨Nat.zero_le _, Nat.zero_le _⟩ dX4_runSeconds_59) hw (fun H locs hw => ?_)
    refine lv_iload_n hx hb dX4_runSeconds_62 rfl (lv_at hl 2 rfl) ?_
    refine lv_isub hx hb dX4_runSeconds_63 ?_
    obtain rfl := Option.some.inj hf
    exact x_iret C0 hr hw dX4_runSeconds_64
  · have hf := ite_f hf zc1
    refine lv_aload_n hx hb dX4_runSeconds_44 rfl (lv_at hl 0 rfl) ?_
    obtain ⟨⟨zv4, zI5⟩, ze6, hf⟩ := nn_some hf
    refine x_ci (r := zv4) (I1 := zI5) (X1 := X) (x_runV (As := []) (rest := []) C0 (c4_runSecond l E G fl X I zx0 zt0 ze6) hw 4 zt0 (by decide) rfl wd49 wd312 wd313 wd314 wd202 ⟨rfl, rfl⟩ hy4_runSecond ⟨Nat.le_of_ble_eq_true rfl, Nat.le_of_ble_eq_true rfl⟩ rfl hl.1 (Nat.le_of_ble_eq_true rfl) ⟨Nat.zero_le _, Nat.zero_le _⟩ dX4_runSeconds_45) hw (fun H locs hw => ?_)
    refine lv_pop hx hb dX4_runSeconds_48 rfl ?_
    obtain ⟨zv7, ezv7⟩ : ∃ y : Int32, y = zx3 + 1 := ⟨_, rfl⟩
    have hf := lt_at hf ezv7
    refine lv_iinc (v := zv7) (lv' := [(3, .int zv7), (0, .ref zx0), (1, .int zx1), (2, .int zx2)]) hx hb dX4_runSeconds_49 hl (k := 3) rfl (by rw [ezv7]; rfl) (by decide) rfl (fun ls hl => ?_)
    refine lv_goto (tgt := 39) hx hb dX4_runSeconds_52 (by decide) ?_
    exact zhr39 zI5 _ _ _ zx0 zx1 zx2 zv7 p_65 zt0 ep_65 tp_65 hw (lv_sub hl [1, 2, 3, 0] rfl) hf
theorem w4_runSeconds_39 {p : Program} {l : Launch} {e : Env} {s : State} {m : MethodId} {args : Array Value} {below : List Frame} {meth : Method} {c : Code} {E : EN} {G : GM} {X : Xm} (C0 : CX p s m args meth c E cX4_runSeconds RX4 4) (hr : meth.sig.returnType = (some .int)) (hz : s.heap.size + 0 ≤ eB E + G.1) {rr : Int32 × Im} (fl : Nat) : ∀ (n : Nat) (I : Im) (H : Heap) (locs : List Loc) (ls : Array Slot) (zx0 : Nat) (zx1 : Int32) (zx2 : Int32) (zx3 : Int32) (p_65 : Nat) (zt0 : okA E G 4 zx0) (ep_65 : gR X 65 zx0 = some p_65) (tp_65 : okA E G 6 p_65), WD E G I X s.heap H locs → lv_has ls 4 [(0, .ref zx0), (1, .int zx1), (2, .int zx2), (3, .int zx3)] → m4_runSeconds_39 fl G.2.2 X n I zx0 zx1 zx2 zx3 p_65 = some rr → W p l e ({ frames := 4, cells := 0, slots := 0, locals := 90 } : Room) s m args below meth c H locs 0 0 (MQ below (QI E G rr.1 rr.2 X) args s 0 0 (eA E)) (F0 m 39 ls []) := by
  intro n
  induction n with
  | zero => intro I H locs ls zx0 zx1 zx2 zx3 p_65 zt0 ep_65 tp_65 hw hl hf; exact absurd (show (none : Option (Int32 × Im)) = some rr from hf) (by simp)
  | succ n ih => intro I H locs ls zx0 zx1 zx2 zx3 p_65 zt0 ep_65 tp_65 hw hl hf; exact w4_runSeconds_39b C0 hr hz fl _ ih I H locs ls zx0 zx1 zx2 zx3 p_65 zt0 ep_65 tp_65 hw hl hf
noncomputable def m4_runSeconds (fl : Nat) (len : Nat → Nat) (X : Xm) (I : Im) (zx0 : Nat) (zx1 : Int32) : Option (Int32 × Im) :=
  nn (m8_within fl len X I zx1 (1 : Int32) (200 : Int32)) fun zv1 =>
  if zv1 = 0 then
    some ((-2 : Int32), I)
  else
    if ((gF I 72 zx0) + zx1) ≤ (1200 : Int32) then
      nn (gR X 65 zx0) fun zv5 =>
      nn (m6_missedCues fl len X I zv5) fun zv6 =>
      m4_runSeconds_39 fl len X fl I zx0 zx1 zv6 (0 : Int32) zv5
    else
      some ((-5 : Int32), I)
theorem hy4_runSeconds : yX4_runSeconds.cls = RX4 ∧ yX4_runSeconds.cls ≠ "java/lang/invoke/MethodHandle" ∧ yX4_runSeconds.cls ≠ "java/lang/invoke/VarHandle" ∧ (parseMethodDescriptor yX4_runSeconds.desc).map (fun d => d.parameters.length) = some 1 := ⟨rfl, by decide +kernel, by decide +kernel, by decide +kernel⟩
set_option maxHeartbeats 4000000 in
set_option maxRecDepth 100000 in
theorem c4_runSeconds (l : Launch) (E : EN) (G : GM) (fl : Nat) (X : Xm) (I : Im) (zx0 : Nat) (zx1 : Int32) (zt0 : okA E G 4 zx0) {rr : Int32 × Im} (hf : m4_runSeconds fl G.2.2 X I zx0 zx1 = some rr) : MT l yX4_runSeconds cX4_runSeconds 4 (some .int) ({ frames := 4, cells := 0, slots := 0, locals := 90 } : Room) E G I X [.ref zx0, .int zx1] (QI E G rr.1 rr.2 X) 0 0 := by
  refine Met.ofW (cc := cX4_runSeconds) (maxL := 4) (ret := (some .int)) (by decide +kernel) rfl ?_
  intro p e s m args below meth c s₁ B hml hv
  obtain ⟨rfl, hw0, hSE⟩ := hv
  have C0 : CX p s m ([.ref zx0, .int zx1] : List Value).toArray meth c E cX4_runSeconds RX4 4 := ⟨B.exec, B.bytes, hml, findClass_of_methodNamed B.named, fun w hw => atoms_spec (ws := WS yX4_runSeconds cX4_runSeconds 4 (some .int)) B.pre w (List.mem_cons_of_mem _ hw), B.notSynchronized, hSE⟩
  have hz : s.heap.size + 0 ≤ eB E + G.1 := Nat.le_of_eq hw0.2.1
  have hw : WD E G I X s.heap s.heap [] := ⟨hw0, va_S.rf⟩
  have hr := B.returns
  have hx := C0.1; have hb := C0.2.1; have hml := C0.2.2.1; have hown := C0.2.2.2.1; have hts := C0.2.2.2.2.1
  have hl := lv_entry ([.ref zx0, .int zx1]) (n := 4) (Nat.le_of_ble_eq_true rfl)
  rw [lg_entry_eq]
  generalize (lg_sl ([.ref zx0, .int zx1]) ++ List.replicate (4 - (lg_sl ([.ref zx0, .int zx1])).length) Slot.unset).toArray = ls at hl ⊢
  have hl : lv_has ls 4 [(0, .ref zx0), (1, .int zx1)] := hl
  unfold m4_runSeconds at hf
  refine lv_iload_n hx hb dX4_runSeconds_0 rfl (lv_at hl 1 rfl) ?_
  refine lv_iconst (v := (1 : Int32)) hx hb dX4_runSeconds_1 (by decide) ?_
  refine lv_sipush (v := (200 : Int32)) hx hb dX4_runSeconds_2 (by decide) ?_
  obtain ⟨zv1, ze2, hf⟩ := nn_some hf
  refine x_ci (r := zv1) (I1 := I) (X1 := X) (x_runSN (As := [.int zx1, .int (1 : Int32), .int (200 : Int32)]) (rest := []) (host := "RadioCues") C0 (c8_within l E G fl X I zx1 (1 : Int32) (200 : Int32) ze2) hw wd20 (List.mem_of_getElem? (i := 5) rfl) wd203 wd107 ⟨rfl, rfl⟩ hy8_within.2 ⟨Nat.le_of_ble_eq_true rfl, Nat.le_of_ble_eq_true rfl⟩ rfl hl.1 (Nat.le_of_ble_eq_true rfl) ⟨Nat.zero_le _, Nat.zero_le _⟩ dX4_runSeconds_5) hw (fun H locs hw => ?_)
  refine lv_if_ne (tgt := 14) hx hb dX4_runSeconds_8 (by decide) (fun zc3 => ?_) (fun zc3 => ?_)
  · have hf := ite_f hf zc3
    refine lv_aload_n hx hb dX4_runSeconds_14 rfl (lv_at hl 0 rfl) ?_
    refine xg_4_8 C0 hw zt0 wd183 dX4_runSeconds_15 ?_
    refine lv_iload_n hx hb dX4_runSeconds_18 rfl (lv_at hl 1 rfl) ?_
    refine lv_iadd hx hb dX4_runSeconds_19 ?_
    refine lv_sipush (v := (1200 : Int32)) hx hb dX4_runSeconds_20 (by decide) ?_
    refine lv_icmp_le (tgt := 29) hx hb dX4_runSeconds_23 (by decide) (fun zc4 => ?_) (fun zc4 => ?_)
    · have hf := ite_t hf zc4
      refine lv_aload_n hx hb dX4_runSeconds_29 rfl (lv_at hl 0 rfl) ?_
      obtain ⟨zv5, ezv5, hf⟩ := nn_some hf
      have tzv5 : okA E G 6 zv5 := wt_r hw ezv5
      refine xg_4_1 C0 hw zt0 wd147 ezv5 dX4_runSeconds_30 ?_
      obtain ⟨zv6, ze7, hf⟩ := nn_some hf
      refine x_ci (r := zv6) (I1 := I) (X1 := X) (x_runV (As := []) (rest := []) C0 (c6_missedCues l E G fl X I zv5 tzv5 ze7) hw 6 tzv5 (by decide) rfl wd40 wd309 wd310 wd311 wd146 ⟨rfl, rfl⟩ hy6_missedCues ⟨Nat.le_of_ble_eq_true rfl, Nat.le_of_ble_eq_true rfl⟩ rfl hl.1 (Nat.le_of_ble_eq_true rfl) ⟨Nat.zero_le _, Nat.zero_le _⟩ dX4_runSeconds_33) hw (fun H locs hw => ?_)
      refine lv_istore_n (lv' := [(2, .int zv6), (0, .ref zx0), (1, .int zx1)]) hx hb dX4_runSeconds_36 rfl hl (by decide) rfl (fun ls hl => ?_)
      refine lv_iconst (v := (0 : Int32)) hx hb dX4_runSeconds_37 (by decide) ?_
      refine lv_istore_n (lv' := [(3, .int (0 : Int32)), (2, .int zv6), (0, .ref zx0), (1, .int zx1)]) hx hb dX4_runSeconds_38 rfl hl (by decide) rfl (fun ls hl => ?_)
      exact w4_runSeconds_39 C0 hr hz fl fl I _ _ _ zx0 zx1 zv6 (0 : Int32) zv5 zt0 ezv5 tzv5 hw (lv_sub hl [2, 3, 1, 0] rfl) hf
    · have hf := ite_f hf zc4
      refine lv_bipush (v := (-5 : Int32)) hx hb dX4_runSeconds_26 (by decide) ?_
      obtain rfl := Option.some.inj hf
      exact x_iret C0 hr hw dX4_runSeconds_28
  · have hf := ite_t hf zc3
    refine lv_bipush (v := (-2 : Int32)) hx hb dX4_runSeconds_11 (by decide) ?_
    obtain rfl := Option.some.inj hf
    exact x_iret C0 hr hw dX4_runSeconds_13
noncomputable def m8_begin (fl : Nat) (len : Nat → Nat) (X : Xm) (I : Im) (zx0 : Nat) : Option (Int32 × Im × Xm) :=
  nn (m8_holdState fl len X I zx0) fun zI1 =>
  nn (gR X 128 zx0) fun zv3 =>
  nn (m4_beginAnew fl len X zI1 zv3) fun ⟨zv4, zI5⟩ =>
  nn (m8_recorded fl len X zI5 zx0 zv4) fun ⟨zv7, zI8, zX9⟩ =>
  some (zv7, zI8, zX9)
theorem hy8_begin : yX8_begin.cls = RX8 ∧ yX8_begin.cls ≠ "java/lang/invoke/MethodHandle" ∧ yX8_begin.cls ≠ "java/lang/invoke/VarHandle" ∧ (parseMethodDescriptor yX8_begin.desc).map (fun d => d.parameters.length) = some 0 := ⟨rfl, by decide +kernel, by decide +kernel, by decide +kernel⟩
set_option maxHeartbeats 4000000 in
set_option maxRecDepth 100000 in
theorem c8_begin (l : Launch) (E : EN) (G : GM) (fl : Nat) (X : Xm) (I : Im) (zx0 : Nat) (zt0 : okA E G 8 zx0) {rr : Int32 × Im × Xm} (hf : m8_begin fl G.2.2 X I zx0 = some rr) : MT l yX8_begin cX8_begin 1 (some .int) ({ frames := 4, cells := 0, slots := 0, locals := 90 } : Room) E G I X [.ref zx0] (QI E G rr.1 rr.2.1 rr.2.2) 0 0 := by
  refine Met.ofW (cc := cX8_begin) (maxL := 1) (ret := (some .int)) (by decide +kernel) rfl ?_
  intro p e s m args below meth c s₁ B hml hv
  obtain ⟨rfl, hw0, hSE⟩ := hv
  have C0 : CX p s m ([.ref zx0] : List Value).toArray meth c E cX8_begin RX8 1 := ⟨B.exec, B.bytes, hml, findClass_of_methodNamed B.named, fun w hw => atoms_spec (ws := WS yX8_begin cX8_begin 1 (some .int)) B.pre w (List.mem_cons_of_mem _ hw), B.notSynchronized, hSE⟩
  have hz : s.heap.size + 0 ≤ eB E + G.1 := Nat.le_of_eq hw0.2.1
  have hw : WD E G I X s.heap s.heap [] := ⟨hw0, va_S.rf⟩
  have hr := B.returns
  have hx := C0.1; have hb := C0.2.1; have hml := C0.2.2.1; have hown := C0.2.2.2.1; have hts := C0.2.2.2.2.1
  have hl := lv_entry ([.ref zx0]) (n := 1) (Nat.le_of_ble_eq_true rfl)
  rw [lg_entry_eq]
  generalize (lg_sl ([.ref zx0]) ++ List.replicate (1 - (lg_sl ([.ref zx0])).length) Slot.unset).toArray = ls at hl ⊢
  have hl : lv_has ls 1 [(0, .ref zx0)] := hl
  unfold m8_begin at hf
  refine lv_aload_n hx hb dX8_begin_0 rfl (lv_at hl 0 rfl) ?_
  obtain ⟨zI1, ze2, hf⟩ := nn_some hf
  refine x_cv (I1 := zI1) (X1 := X) (x_runV (As := []) (rest := []) C0 (c8_holdState l E G fl X I zx0 zt0 ze2) hw 8 zt0 (by decide) rfl wd57 wd339 wd340 wd341 wd107 ⟨rfl, rfl⟩ hy8_holdState ⟨Nat.le_of_ble_eq_true rfl, Nat.le_of_ble_eq_true rfl⟩ rfl hl.1 (Nat.le_of_ble_eq_true rfl) ⟨Nat.zero_le _, Nat.zero_le _⟩ dX8_begin_1) hw (fun H locs hw => ?_)
  refine lv_aload_n hx hb dX8_begin_4 rfl (lv_at hl 0 rfl) ?_
  refine lv_aload_n hx hb dX8_begin_5 rfl (lv_at hl 0 rfl) ?_
  obtain ⟨zv3, ezv3, hf⟩ := nn_some hf
  have tzv3 : okA E G 4 zv3 := wt_r hw ezv3
  refine xg_8_0 C0 hw zt0 wd319 ezv3 dX8_begin_6 ?_
  obtain ⟨⟨zv4, zI5⟩, ze6, hf⟩ := nn_some hf
  refine x_ci (r := zv4) (I1 := zI5) (X1 := X) (x_runV (As := []) (rest := [.ref zx0]) C0 (c4_beginAnew l E G fl X zI1 zv3 tzv3 ze6) hw 4 tzv3 (by decide) rfl wd38 wd362 wd363 wd364 wd202 ⟨rfl, rfl⟩ hy4_beginAnew ⟨Nat.le_of_ble_eq_true rfl, Nat.le_of_ble_eq_true rfl⟩ rfl hl.1 (Nat.le_of_ble_eq_true rfl) ⟨Nat.zero_le _, Nat.zero_le _⟩ dX8_begin_9) hw (fun H locs hw => ?_)
  obtain ⟨⟨zv7, zI8, zX9⟩, ze10, hf⟩ := nn_some hf
  refine x_ci (r := zv7) (I1 := zI8) (X1 := zX9) (x_runV (As := [.int zv4]) (rest := []) C0 (c8_recorded l E G fl X zI5 zx0 zv4 zt0 ze10) hw 8 zt0 (by decide) rfl wd59 wd345 wd346 wd347 wd107 ⟨rfl, rfl⟩ hy8_recorded ⟨Nat.le_of_ble_eq_true rfl, Nat.le_of_ble_eq_true rfl⟩ rfl hl.1 (Nat.le_of_ble_eq_true rfl) ⟨Nat.zero_le _, Nat.zero_le _⟩ dX8_begin_12) hw (fun H locs hw => ?_)
  obtain rfl := Option.some.inj hf
  exact x_iret C0 hr hw dX8_begin_15
noncomputable def m8_pass (fl : Nat) (len : Nat → Nat) (X : Xm) (I : Im) (zx0 : Nat) (zx1 : Int32) : Option (Int32 × Im × Xm) :=
  nn (m8_holdState fl len X I zx0) fun zI1 =>
  nn (gR X 128 zx0) fun zv3 =>
  nn (m4_runSeconds fl len X zI1 zv3 zx1) fun ⟨zv4, zI5⟩ =>
  nn (m8_recorded fl len X zI5 zx0 zv4) fun ⟨zv7, zI8, zX9⟩ =>
  some (zv7, zI8, zX9)
theorem hy8_pass : yX8_pass.cls = RX8 ∧ yX8_pass.cls ≠ "java/lang/invoke/MethodHandle" ∧ yX8_pass.cls ≠ "java/lang/invoke/VarHandle" ∧ (parseMethodDescriptor yX8_pass.desc).map (fun d => d.parameters.length) = some 1 := ⟨rfl, by decide +kernel, by decide +kernel, by decide +kernel⟩
set_option maxHeartbeats 4000000 in
set_option maxRecDepth 100000 in
theorem c8_pass (l : Launch) (E : EN) (G : GM) (fl : Nat) (X : Xm) (I : Im) (zx0 : Nat) (zx1 : Int32) (zt0 : okA E G 8 zx0) {rr : Int32 × Im × Xm} (hf : m8_pass fl G.2.2 X I zx0 zx1 = some rr) : MT l yX8_pass cX8_pass 2 (some .int) ({ frames := 5, cells := 0, slots := 0, locals := 113 } : Room) E G I X [.ref zx0, .int zx1] (QI E G rr.1 rr.2.1 rr.2.2) 0 0 := by
  refine Met.ofW (cc := cX8_pass) (maxL := 2) (ret := (some .int)) (by decide +kernel) rfl ?_
  intro p e s m args below meth c s₁ B hml hv
  obtain ⟨rfl, hw0, hSE⟩ := hv
  have C0 : CX p s m ([.ref zx0, .int zx1] : List Value).toArray meth c E cX8_pass RX8 2 := ⟨B.exec, B.bytes, hml, findClass_of_methodNamed B.named, fun w hw => atoms_spec (ws := WS yX8_pass cX8_pass 2 (some .int)) B.pre w (List.mem_cons_of_mem _ hw), B.notSynchronized, hSE⟩
  have hz : s.heap.size + 0 ≤ eB E + G.1 := Nat.le_of_eq hw0.2.1
  have hw : WD E G I X s.heap s.heap [] := ⟨hw0, va_S.rf⟩
  have hr := B.returns
  have hx := C0.1; have hb := C0.2.1; have hml := C0.2.2.1; have hown := C0.2.2.2.1; have hts := C0.2.2.2.2.1
  have hl := lv_entry ([.ref zx0, .int zx1]) (n := 2) (Nat.le_of_ble_eq_true rfl)
  rw [lg_entry_eq]
  generalize (lg_sl ([.ref zx0, .int zx1]) ++ List.replicate (2 - (lg_sl ([.ref zx0, .int zx1])).length) Slot.unset).toArray = ls at hl ⊢
  have hl : lv_has ls 2 [(0, .ref zx0), (1, .int zx1)] := hl
  unfold m8_pass at hf
  refine lv_aload_n hx hb dX8_pass_0 rfl (lv_at hl 0 rfl) ?_
  obtain ⟨zI1, ze2, hf⟩ := nn_some hf
  refine x_cv (I1 := zI1) (X1 := X) (x_runV (As := []) (rest := []) C0 (c8_holdState l E G fl X I zx0 zt0 ze2) hw 8 zt0 (by decide) rfl wd57 wd339 wd340 wd341 wd107 ⟨rfl, rfl⟩ hy8_holdState ⟨Nat.le_of_ble_eq_true rfl, Nat.le_of_ble_eq_true rfl⟩ rfl hl.1 (Nat.le_of_ble_eq_true rfl) ⟨Nat.zero_le _, Nat.zero_le _⟩ dX8_pass_1) hw (fun H locs hw => ?_)
  refine lv_aload_n hx hb dX8_pass_4 rfl (lv_at hl 0 rfl) ?_
  refine lv_aload_n hx hb dX8_pass_5 rfl (lv_at hl 0 rfl) ?_
  obtain ⟨zv3, ezv3, hf⟩ := nn_some hf
  have tzv3 : okA E G 4 zv3 := wt_r hw ezv3
  refine xg_8_0 C0 hw zt0 wd319 ezv3 dX8_pass_6 ?_
  refine lv_iload_n hx hb dX8_pass_9 rfl (lv_at hl 1 rfl) ?_
  obtain ⟨⟨zv4, zI5⟩, ze6, hf⟩ := nn_some hf
  refine x_ci (r := zv4) (I1 := zI5) (X1 := X) (x_runV (As := [.int zx1]) (rest := [.ref zx0]) C0 (c4_runSeconds l E G fl X zI1 zv3 zx1 tzv3 ze6) hw 4 tzv3 (by decide) rfl wd50 wd365 wd366 wd367 wd202 ⟨rfl, rfl⟩ hy4_runSeconds ⟨Nat.le_of_ble_eq_true rfl, Nat.le_of_ble_eq_true rfl⟩ rfl hl.1 (Nat.le_of_ble_eq_true rfl) ⟨Nat.zero_le _, Nat.zero_le _⟩ dX8_pass_10) hw (fun H locs hw => ?_)
  obtain ⟨⟨zv7, zI8, zX9⟩, ze10, hf⟩ := nn_some hf
  refine x_ci (r := zv7) (I1 := zI8) (X1 := zX9) (x_runV (As := [.int zv4]) (rest := []) C0 (c8_recorded l E G fl X zI5 zx0 zv4 zt0 ze10) hw 8 zt0 (by decide) rfl wd59 wd345 wd346 wd347 wd107 ⟨rfl, rfl⟩ hy8_recorded ⟨Nat.le_of_ble_eq_true rfl, Nat.le_of_ble_eq_true rfl⟩ rfl hl.1 (Nat.le_of_ble_eq_true rfl) ⟨Nat.zero_le _, Nat.zero_le _⟩ dX8_pass_13) hw (fun H locs hw => ?_)
  obtain rfl := Option.some.inj hf
  exact x_iret C0 hr hw dX8_pass_16
