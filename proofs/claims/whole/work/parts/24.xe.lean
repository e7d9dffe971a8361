noncomputable def m3_readPart (fl : Nat) (len : Nat → Nat) (X : Xm) (I : Im) (zx0 : Nat) (zx1 : Int32) : Option (Int32 × Im) :=
  if zx1 = (68 : Int32) then
    nn (m3_readNumber fl len X I zx0 (1 : Int32)) fun ⟨zv11, zI12⟩ =>
    ck (isbl zv11 = true) <|
    some (zv11, zI12)
  else
    if zx1 = (78 : Int32) then
      nn (m3_readNumber fl len X I zx0 (3 : Int32)) fun ⟨zv7, zI8⟩ =>
      ck (isbl zv7 = true) <|
      some (zv7, zI8)
    else
      nn (m3_characterAt fl len X I zx0 (gF I 50 zx0)) fun zv3 =>
      if zv3 = zx1 then
        lt (pF I 50 zx0 ((gF I 50 zx0) + (1 : Int32))) fun zI6 =>
        some ((1 : Int32), zI6)
      else
        some ((0 : Int32), I)
theorem hy3_readPart : yX3_readPart.cls = RX3 ∧ yX3_readPart.cls ≠ "java/lang/invoke/MethodHandle" ∧ yX3_readPart.cls ≠ "java/lang/invoke/VarHandle" ∧ (parseMethodDescriptor yX3_readPart.desc).map (fun d => d.parameters.length) = some 1 := ⟨rfl, by decide +kernel, by decide +kernel, by decide +kernel⟩
set_option maxHeartbeats 4000000 in
set_option maxRecDepth 100000 in
theorem c3_readPart (l : Launch) (E : EN) (G : GM) (fl : Nat) (X : Xm) (I : Im) (zx0 : Nat) (zx1 : Int32) (zt0 : okA E G 3 zx0) {rr : Int32 × Im} (hf : m3_readPart fl G.2.2 X I zx0 zx1 = some rr) : MT l yX3_readPart cX3_readPart 2 (some .boolean) ({ frames := 3, cells := 0, slots := 0, locals := 66 } : Room) E G I X [.ref zx0, .int zx1] (QI E G rr.1 rr.2 X) 0 0 := by
  refine Met.ofW (cc := cX3_readPart) (maxL := 2) (ret := (some .boolean)) (by decide +kernel) rfl ?_
  intro p e s m args below meth c s₁ B hml hv
  obtain ⟨rfl, hw0, hSE⟩ := hv
  have C0 : CX p s m ([.ref zx0, .int zx1] : List Value).toArray meth c E cX3_readPart RX3 2 := ⟨B.exec, B.bytes, hml, findClass_of_methodNamed B.named, fun w hw => atoms_spec (ws := WS yX3_readPart cX3_readPart 2 (some .boolean)) B.pre w (List.mem_cons_of_mem _ hw), B.notSynchronized, hSE⟩
  have hz : s.heap.size + 0 ≤ eB E + G.1 := Nat.le_of_eq hw0.2.1
  have hw : WD E G I X s.heap s.heap [] := ⟨hw0, va_S.rf⟩
  have hr := B.returns
  have hx := C0.1; have hb := C0.2.1; have hml := C0.2.2.1; have hown := C0.2.2.2.1; have hts := C0.2.2.2.2.1
  have hl := lv_entry ([.ref zx0, .int zx1]) (n := 2) (Nat.le_of_ble_eq_true rfl)
  rw [lg_entry_eq]
  generalize (lg_sl ([.ref zx0, .int zx1]) ++ List.replicate (2 - (lg_sl ([.ref zx0, .int zx1])).length) Slot.unset).toArray = ls at hl ⊢
  have hl : lv_has ls 2 [(0, .ref zx0), (1, .int zx1)] := hl
  unfold m3_readPart at hf
  refine lv_iload_n hx hb dX3_readPart_0 rfl (lv_at hl 1 rfl) ?_
  refine lv_bipush (v := (68 : Int32)) hx hb dX3_readPart_1 (by decide) ?_
  refine lv_icmp_ne (tgt := 12) hx hb dX3_readPart_3 (by decide) (fun zc1 => ?_) (fun zc1 => ?_)
  · have hf := ite_f hf zc1
    refine lv_iload_n hx hb dX3_readPart_12 rfl (lv_at hl 1 rfl) ?_
    refine lv_bipush (v := (78 : Int32)) hx hb dX3_readPart_13 (by decide) ?_
    refine lv_icmp_ne (tgt := 24) hx hb dX3_readPart_15 (by decide) (fun zc2 => ?_) (fun zc2 => ?_)
    · have hf := ite_f hf zc2
      refine lv_aload_n hx hb dX3_readPart_24 rfl (lv_at hl 0 rfl) ?_
      refine lv_aload_n hx hb dX3_readPart_25 rfl (lv_at hl 0 rfl) ?_
      refine xg_3_2 C0 hw zt0 wd256 dX3_readPart_26 ?_
      obtain ⟨zv3, ze4, hf⟩ := nn_some hf
      refine x_ci (r := zv3) (I1 := I) (X1 := X) (x_runV (As := [.int (gF I 50 zx0)]) (rest := []) C0 (c3_characterAt l E G fl X I zx0 (gF I 50 zx0) zt0 ze4) hw 3 zt0 (by decide) rfl wd13 wd252 wd253 wd254 wd255 ⟨rfl, rfl⟩ hy3_characterAt ⟨Nat.le_of_ble_eq_true rfl, Nat.le_of_ble_eq_true rfl⟩ rfl hl.1 (Nat.le_of_ble_eq_true rfl) ⟨Nat.zero_le _, Nat.zero_le _⟩ dX3_readPart_29) hw (fun H locs hw => ?_)
      refine lv_iload_n hx hb dX3_readPart_32 rfl (lv_at hl 1 rfl) ?_
      refine lv_icmp_eq (tgt := 38) hx hb dX3_readPart_33 (by decide) (fun zc5 => ?_) (fun zc5 => ?_)
      · have hf := ite_t hf zc5
        refine lv_aload_n hx hb dX3_readPart_38 rfl (lv_at hl 0 rfl) ?_
        refine lv_dup hx hb dX3_readPart_39 rfl ?_
        refine xg_3_2 C0 hw zt0 wd256 dX3_readPart_40 ?_
        refine lv_iconst (v := (1 : Int32)) hx hb dX3_readPart_43 (by decide) ?_
        refine lv_iadd hx hb dX3_readPart_44 ?_
        obtain ⟨zI6, ezI6⟩ : ∃ y : Im, y = pF I 50 zx0 ((gF I 50 zx0) + (1 : Int32)) := ⟨_, rfl⟩
        have hf := lt_at hf ezI6
        refine xp_3_2 C0 hz hw zt0 rfl rfl wd256 dX3_readPart_45 ezI6 (fun H locs hw => ?_)
        refine lv_iconst (v := (1 : Int32)) hx hb dX3_readPart_48 (by decide) ?_
        obtain rfl := Option.some.inj hf
        exact x_zret C0 hr (show narrow .boolean (.int (1 : Int32)) = .int (1 : Int32) by decide) hw dX3_readPart_49
      · have hf := ite_f hf zc5
        refine lv_iconst (v := (0 : Int32)) hx hb dX3_readPart_36 (by decide) ?_
        obtain rfl := Option.some.inj hf
        exact x_zret C0 hr (show narrow .boolean (.int (0 : Int32)) = .int (0 : Int32) by decide) hw dX3_readPart_37
    · have hf := ite_t hf zc2
      refine lv_aload_n hx hb dX3_readPart_18 rfl (lv_at hl 0 rfl) ?_
      refine lv_iconst (v := (3 : Int32)) hx hb dX3_readPart_19 (by decide) ?_
      obtain ⟨⟨zv7, zI8⟩, ze9, hf⟩ := nn_some hf
      refine x_ci (r := zv7) (I1 := zI8) (X1 := X) (x_runV (As := [.int (3 : Int32)]) (rest := []) C0 (c3_readNumber l E G fl X I zx0 (3 : Int32) zt0 ze9) hw 3 zt0 (by decide) rfl wd28 wd261 wd262 wd263 wd255 ⟨rfl, rfl⟩ hy3_readNumber ⟨Nat.le_of_ble_eq_true rfl, Nat.le_of_ble_eq_true rfl⟩ rfl hl.1 (Nat.le_of_ble_eq_true rfl) ⟨Nat.zero_le _, Nat.zero_le _⟩ dX3_readPart_20) hw (fun H locs hw => ?_)
      obtain ⟨zhn10, hf⟩ := ck_some hf
      obtain rfl := Option.some.inj hf
      exact x_zret C0 hr (isbl_nar zhn10) hw dX3_readPart_23
  · have hf := ite_t hf zc1
    refine lv_aload_n hx hb dX3_readPart_6 rfl (lv_at hl 0 rfl) ?_
    refine lv_iconst (v := (1 : Int32)) hx hb dX3_readPart_7 (by decide) ?_
    obtain ⟨⟨zv11, zI12⟩, ze13, hf⟩ := nn_some hf
    refine x_ci (r := zv11) (I1 := zI12) (X1 := X) (x_runV (As := [.int (1 : Int32)]) (rest := []) C0 (c3_readNumber l E G fl X I zx0 (1 : Int32) zt0 ze13) hw 3 zt0 (by decide) rfl wd28 wd261 wd262 wd263 wd255 ⟨rfl, rfl⟩ hy3_readNumber ⟨Nat.le_of_ble_eq_true rfl, Nat.le_of_ble_eq_true rfl⟩ rfl hl.1 (Nat.le_of_ble_eq_true rfl) ⟨Nat.zero_le _, Nat.zero_le _⟩ dX3_readPart_8) hw (fun H locs hw => ?_)
    obtain ⟨zhn14, hf⟩ := ck_some hf
    obtain rfl := Option.some.inj hf
    exact x_zret C0 hr (isbl_nar zhn14) hw dX3_readPart_11
noncomputable def m3_readOrder_46b (fl : Nat) (len : Nat → Nat) (X : Xm) (zr46 : Im → Nat → Nat → Int32 → Option (Int32 × Im)) (I : Im) (zx0 : Nat) (zx1 : Nat) (zx2 : Int32) : Option (Int32 × Im) :=
  if (nI (strN.getD zx1 0)) ≤ zx2 then
    some ((1 : Int32), I)
  else
    ck (inb zx2 (strN.getD zx1 0) = true) <|
    nn (m3_readPart fl len X I zx0 ((strB.getD zx1 []).getD (zx2).toNatClampNeg 0)) fun ⟨zv3, zI4⟩ =>
    if zv3 = 0 then
      some ((0 : Int32), zI4)
    else
      lt (zx2 + 1) fun zv7 =>
      zr46 zI4 zx0 zx1 zv7
noncomputable def m3_readOrder_46 (fl : Nat) (len : Nat → Nat) (X : Xm) (n : Nat) : Im → Nat → Nat → Int32 → Option (Int32 × Im) :=
  Nat.rec (fun _ _ _ _ => none) (fun _ r => m3_readOrder_46b fl len X r) n
set_option maxHeartbeats 4000000 in
set_option maxRecDepth 100000 in
theorem w3_readOrder_46b {p : Program} {l : Launch} {e : Env} {s : State} {m : MethodId} {args : Array Value} {below : List Frame} {meth : Method} {c : Code} {E : EN} {G : GM} {X : Xm} (C0 : CX p s m args meth c E cX3_readOrder RX3 3) (hr : meth.sig.returnType = (some .boolean)) (hz : s.heap.size + 0 ≤ eB E + G.1) {rr : Int32 × Im} (fl : Nat) (zr46 : Im → Nat → Nat → Int32 → Option (Int32 × Im)) (zhr46 : ∀ (I : Im) (H : Heap) (locs : List Loc) (ls : Array Slot) (zx0 : Nat) (zx1 : Nat) (zx2 : Int32) (zt0 : okA E G 3 zx0) (zt1 : zx1 < 6), WD E G I X s.heap H locs → lv_has ls 3 [(0, .ref zx0), (1, .ref (eK E zx1)), (2, .int zx2)] → zr46 I zx0 zx1 zx2 = some rr → W p l e ({ frames := 5, cells := 0, slots := 0, locals := 113 } : Room) s m args below meth c H locs 0 0 (MQ below (QI E G rr.1 rr.2 X) args s 0 0 (eA E)) (F0 m 46 ls [])) : ∀ (I : Im) (H : Heap) (locs : List Loc) (ls : Array Slot) (zx0 : Nat) (zx1 : Nat) (zx2 : Int32) (zt0 : okA E G 3 zx0) (zt1 : zx1 < 6), WD E G I X s.heap H locs → lv_has ls 3 [(0, .ref zx0), (1, .ref (eK E zx1)), (2, .int zx2)] → m3_readOrder_46b fl G.2.2 X zr46 I zx0 zx1 zx2 = some rr → W p l e ({ frames := 5, cells := 0, slots := 0, locals := 113 } : Room) s m args below meth c H locs 0 0 (MQ below (QI E G rr.1 rr.2 X) args s 0 0 (eA E)) (F0 m 46 ls []) := by
  intro I H locs ls zx0 zx1 zx2 zt0 zt1 hw hl hf
  unfold m3_readOrder_46b at hf
  have hx := C0.1; have hb := C0.2.1; have hml := C0.2.2.1; have hown := C0.2.2.2.1; have hts := C0.2.2.2.2.1
  refine lv_iload_n hx hb dX3_readOrder_46 rfl (lv_at hl 2 rfl) ?_
  refine lv_aload_n hx hb dX3_readOrder_47 rfl (lv_at hl 1 rfl) ?_
  refine x_strLength C0 hw zt1 hl.1 (Nat.le_of_ble_eq_true rfl) (Nat.le_of_ble_eq_true rfl) (Nat.le_of_ble_eq_true rfl) ⟨Nat.zero_le _, Nat.zero_le _⟩ dX3_readOrder_48 (fun H locs hw => ?_)
  refine lv_icmp_ge (tgt := 74) hx hb dX3_readOrder_51 (by decide) (fun zc1 => ?_) (fun zc1 => ?_)
  · have hf := ite_t hf zc1
    refine lv_iconst (v := (1 : Int32)) hx hb dX3_readOrder_74 (by decide) ?_
    obtain rfl := Option.some.inj hf
    exact x_zret C0 hr (show narrow .boolean (.int (1 : Int32)) = .int (1 : Int32) by decide) hw dX3_readOrder_75
  · have hf := ite_f hf zc1
    refine lv_aload_n hx hb dX3_readOrder_54 rfl (lv_at hl 0 rfl) ?_
    refine lv_aload_n hx hb dX3_readOrder_55 rfl (lv_at hl 1 rfl) ?_
    refine lv_iload_n hx hb dX3_readOrder_56 rfl (lv_at hl 2 rfl) ?_
    obtain ⟨zhb2, hf⟩ := ck_some hf
    refine x_strCharAt C0 hw zt1 zhb2 wd273 hl.1 (Nat.le_of_ble_eq_true rfl) (Nat.le_of_ble_eq_true rfl) (Nat.le_of_ble_eq_true rfl) ⟨Nat.zero_le _, Nat.zero_le _⟩ dX3_readOrder_57 (fun H locs hw => ?_)
    obtain ⟨⟨zv3, zI4⟩, ze5, hf⟩ := nn_some hf
    refine x_ci (r := zv3) (I1 := zI4) (X1 := X) (x_runV (As := [.int ((strB.getD zx1 []).getD (zx2).toNatClampNeg 0)]) (rest := []) C0 (c3_readPart l E G fl X I zx0 ((strB.getD zx1 []).getD (zx2).toNatClampNeg 0) zt0 ze5) hw 3 zt0 (by decide) rfl wd29 wd276 wd277 wd278 wd255 ⟨rfl, rfl⟩ hy3_readPart ⟨Nat.le_of_ble_eq_true rfl, Nat.le_of_ble_eq_true rfl⟩ rfl hl.1 (Nat.le_of_ble_eq_true rfl) ⟨Nat.zero_le _, Nat.zero_le _⟩ dX3_readOrder_60) hw (fun H locs hw => ?_)
    refine lv_if_ne (tgt := 68) hx hb dX3_readOrder_63 (by decide) (fun zc6 => ?_) (fun zc6 => ?_)
    · have hf := ite_f hf zc6
      obtain ⟨zv7, ezv7⟩ : ∃ y : Int32, y = zx2 + 1 := ⟨_, rfl⟩
      have hf := lt_at hf ezv7
      refine lv_iinc (v := zv7) (lv' := [(2, .int zv7), (0, .ref zx0), (1, .ref (eK E zx1))]) hx hb dX3_readOrder_68 hl (k := 2) rfl (by rw [ezv7]; rfl) (by decide) rfl (fun ls hl => ?_)
      refine lv_goto (tgt := 46) hx hb dX3_readOrder_71 (by decide) ?_
      exact zhr46 zI4 _ _ _ zx0 zx1 zv7 zt0 zt1 hw (lv_sub hl [1, 2, 0] rfl) hf
    · have hf := ite_t hf zc6
      refine lv_iconst (v := (0 : Int32)) hx hb dX3_readOrder_66 (by decide) ?_
      obtain rfl := Option.some.inj hf
      exact x_zret C0 hr (show narrow .boolean (.int (0 : Int32)) = .int (0 : Int32) by decide) hw dX3_readOrder_67
theorem w3_readOrder_46 {p : Program} {l : Launch} {e : Env} {s : State} {m : MethodId} {args : Array Value} {below : List Frame} {meth : Method} {c : Code} {E : EN} {G : GM} {X : Xm} (C0 : CX p s m args meth c E cX3_readOrder RX3 3) (hr : meth.sig.returnType = (some .boolean)) (hz : s.heap.size + 0 ≤ eB E + G.1) {rr : Int32 × Im} (fl : Nat) : ∀ (n : Nat) (I : Im) (H : Heap) (locs : List Loc) (ls : Array Slot) (zx0 : Nat) (zx1 : Nat) (zx2 : Int32) (zt0 : okA E G 3 zx0) (zt1 : zx1 < 6), WD E G I X s.heap H locs → lv_has ls 3 [(0, .ref zx0), (1, .ref (eK E zx1)), (2, .int zx2)] → m3_readOrder_46 fl G.2.2 X n I zx0 zx1 zx2 = some rr → W p l e ({ frames := 5, cells := 0, slots := 0, locals := 113 } : Room) s m args below meth c H locs 0 0 (MQ below (QI E G rr.1 rr.2 X) args s 0 0 (eA E)) (F0 m 46 ls []) := by
  intro n
  induction n with
  | zero => intro I H locs ls zx0 zx1 zx2 zt0 zt1 hw hl hf; exact absurd (show (none : Option (Int32 × Im)) = some rr from hf) (by simp)
  | succ n ih => intro I H locs ls zx0 zx1 zx2 zt0 zt1 hw hl hf; exact w3_readOrder_46b C0 hr hz fl _ ih I H locs ls zx0 zx1 zx2 zt0 zt1 hw hl hf
noncomputable def m3_readOrder (fl : Nat) (len : Nat → Nat) (X : Xm) (I : Im) (zx0 : Nat) : Option (Int32 × Im) :=
  nn (m3_characterAt fl len X I zx0 (gF I 50 zx0)) fun zv1 =>
  ck (isch zv1 = true) <|
  lt (pF I 51 zx0 zv1) fun zI4 =>
  nn (m3_shapeOf fl len X zI4 (gF zI4 51 zx0)) fun zv5 =>
  if (if strN.getD zv5 0 = 0 then (1 : Int32) else 0) = 0 then
    lt (pF zI4 50 zx0 ((gF zI4 50 zx0) + (1 : Int32))) fun zI8 =>
    lt (pF zI8 53 zx0 (0 : Int32)) fun zI9 =>
    m3_readOrder_46 fl len X fl zI9 zx0 zv5 (0 : Int32)
  else
    some ((0 : Int32), zI4)
theorem hy3_readOrder : yX3_readOrder.cls = RX3 ∧ yX3_readOrder.cls ≠ "java/lang/invoke/MethodHandle" ∧ yX3_readOrder.cls ≠ "java/lang/invoke/VarHandle" ∧ (parseMethodDescriptor yX3_readOrder.desc).map (fun d => d.parameters.length) = some 0 := ⟨rfl, by decide +kernel, by decide +kernel, by decide +kernel⟩
set_option maxHeartbeats 4000000 in
set_option maxRecDepth 100000 in
theorem c3_readOrder (l : Launch) (E : EN) (G : GM) (fl : Nat) (X : Xm) (I : Im) (zx0 : Nat) (zt0 : okA E G 3 zx0) {rr : Int32 × Im} (hf : m3_readOrder fl G.2.2 X I zx0 = some rr) : MT l yX3_readOrder cX3_readOrder 3 (some .boolean) ({ frames := 5, cells := 0, slots := 0, locals := 113 } : Room) E G I X [.ref zx0] (QI E G rr.1 rr.2 X) 0 0 := by
  refine Met.ofW (cc := cX3_readOrder) (maxL := 3) (ret := (some .boolean)) (by decide +kernel) rfl ?_
  intro p e s m args below meth c s₁ B hml hv
  obtain ⟨rfl, hw0, hSE⟩ := hv
  have C0 : CX p s m ([.ref zx0] : List Value).toArray meth c E cX3_readOrder RX3 3 := ⟨B.exec, B.bytes, hml, findClass_of_methodNamed B.named, fun w hw => atoms_spec (ws := WS yX3_readOrder cX3_readOrder 3 (some .boolean)) B.pre w (List.mem_cons_of_mem _ hw), B.notSynchronized, hSE⟩
  have hz : s.heap.size + 0 ≤ eB E + G.1 := Nat.le_of_eq hw0.2.1
  have hw : WD E G I X s.heap s.heap [] := ⟨hw0, va_S.rf⟩
  have hr := B.returns
  have hx := C0.1; have hb := C0.2.1; have hml := C0.2.2.1; have hown := C0.2.2.2.1; have hts := C0.2.2.2.2.1
  have hl := lv_entry ([.ref zx0]) (n := 3) (Nat.le_of_ble_eq_true rfl)
  rw [lg_entry_eq]
  generalize (lg_sl ([.ref zx0]) ++ List.replicate (3 - (lg_sl ([.ref zx0])).length) Slot.unset).toArray = ls at hl ⊢
  have hl : lv_has ls 3 [(0, .ref zx0)] := hl
  unfold m3_readOrder at hf
  refine lv_aload_n hx hb dX3_readOrder_0 rfl (lv_at hl 0 rfl) ?_
  refine lv_aload_n hx hb dX3_readOrder_1 rfl (lv_at hl 0 rfl) ?_
  refine lv_aload_n hx hb dX3_readOrder_2 rfl (lv_at hl 0 rfl) ?_
  refine xg_3_2 C0 hw zt0 wd256 dX3_readOrder_3 ?_
  obtain ⟨zv1, ze2, hf⟩ := nn_some hf
  refine x_ci (r := zv1) (I1 := I) (X1 := X) (x_runV (As := [.int (gF I 50 zx0)]) (rest := [.ref zx0]) C0 (c3_characterAt l E G fl X I zx0 (gF I 50 zx0) zt0 ze2) hw 3 zt0 (by decide) rfl wd13 wd252 wd253 wd254 wd255 ⟨rfl, rfl⟩ hy3_characterAt ⟨Nat.le_of_ble_eq_true rfl, Nat.le_of_ble_eq_true rfl⟩ rfl hl.1 (Nat.le_of_ble_eq_true rfl) ⟨Nat.zero_le _, Nat.zero_le _⟩ dX3_readOrder_6) hw (fun H locs hw => ?_)
  obtain ⟨zhn3, hf⟩ := ck_some hf
  obtain ⟨zI4, ezI4⟩ : ∃ y : Im, y = pF I 51 zx0 zv1 := ⟨_, rfl⟩
  have hf := lt_at hf ezI4
  refine xp_3_3 C0 hz hw zt0 (isch_nar zhn3) (isch_fit zhn3) wd264 dX3_readOrder_9 ezI4 (fun H locs hw => ?_)
  refine lv_aload_n hx hb dX3_readOrder_12 rfl (lv_at hl 0 rfl) ?_
  refine xg_3_3 C0 hw zt0 wd264 dX3_readOrder_13 ?_
  obtain ⟨zv5, ze6, hf⟩ := nn_some hf
  refine x_cs (r := zv5) (I1 := zI4) (X1 := X) (x_runS (As := [.int (gF zI4 51 zx0)]) (rest := []) C0 (c3_shapeOf l E G fl X zI4 (gF zI4 51 zx0) ze6) hw wd14 wd265 wd266 wd255 ⟨rfl, rfl⟩ hy3_shapeOf ⟨Nat.le_of_ble_eq_true rfl, Nat.le_of_ble_eq_true rfl⟩ rfl hl.1 (Nat.le_of_ble_eq_true rfl) ⟨Nat.zero_le _, Nat.zero_le _⟩ dX3_readOrder_16) hw (fun H locs hw tzv5 => ?_)
  refine lv_astore_n (lv' := [(1, .ref (eK E zv5)), (0, .ref zx0)]) hx hb dX3_readOrder_19 rfl hl (by decide) rfl (fun ls hl => ?_)
  refine lv_aload_n hx hb dX3_readOrder_20 rfl (lv_at hl 0 rfl) ?_
  refine x_strEmpty C0 hw tzv5 hl.1 (Nat.le_of_ble_eq_true rfl) (Nat.le_of_ble_eq_true rfl) (Nat.le_of_ble_eq_true rfl) ⟨Nat.zero_le _, Nat.zero_le _⟩ dX3_readOrder_21 (fun H locs hw => ?_)
  refine lv_if_eq (tgt := 29) hx hb dX3_readOrder_24 (by decide) (fun zc7 => ?_) (fun zc7 => ?_)
  · have hf := ite_t hf zc7
    refine lv_aload_n hx hb dX3_readOrder_29 rfl (lv_at hl 1 rfl) ?_
    refine lv_dup hx hb dX3_readOrder_30 rfl ?_
    refine xg_3_2 C0 hw zt0 wd256 dX3_readOrder_31 ?_
    refine lv_iconst (v := (1 : Int32)) hx hb dX3_readOrder_34 (by decide) ?_
    refine lv_iadd hx hb dX3_readOrder_35 ?_
    obtain ⟨zI8, ezI8⟩ : ∃ y : Im, y = pF zI4 50 zx0 ((gF zI4 50 zx0) + (1 : Int32)) := ⟨_, rfl⟩
    have hf := lt_at hf ezI8
    refine xp_3_2 C0 hz hw zt0 rfl rfl wd256 dX3_readOrder_36 ezI8 (fun H locs hw => ?_)
    refine lv_aload_n hx hb dX3_readOrder_39 rfl (lv_at hl 1 rfl) ?_
    refine lv_iconst (v := (0 : Int32)) hx hb dX3_readOrder_40 (by decide) ?_
    obtain ⟨zI9, ezI9⟩ : ∃ y : Im, y = pF zI8 53 zx0 (0 : Int32) := ⟨_, rfl⟩
    have hf := lt_at hf ezI9
    refine xp_3_5 C0 hz hw zt0 rfl rfl wd257 dX3_readOrder_41 ezI9 (fun H locs hw => ?_)
    refine lv_iconst (v := (0 : Int32)) hx hb dX3_readOrder_44 (by decide) ?_
    refine lv_istore_n (lv' := [(2, .int (0 : Int32)), (1, .ref (eK E zv5)), (0, .ref zx0)]) hx hb dX3_readOrder_45 rfl hl (by decide) rfl (fun ls hl => ?_)
    exact w3_readOrder_46 C0 hr hz fl fl zI9 _ _ _ zx0 zv5 (0 : Int32) zt0 tzv5 hw (lv_sub hl [2, 1, 0] rfl) hf
  · have hf := ite_f hf zc7
    refine lv_iconst (v := (0 : Int32)) hx hb dX3_readOrder_27 (by decide) ?_
    obtain rfl := Option.some.inj hf
    exact x_zret C0 hr (show narrow .boolean (.int (0 : Int32)) = .int (0 : Int32) by decide) hw dX3_readOrder_28
noncomputable def m3_findFault_68 (fl : Nat) (len : Nat → Nat) (X : Xm) (I : Im) (zx0 : Nat) : Option (Int32 × Im) :=
  some ((gF I 50 zx0), I)
set_option maxHeartbeats 4000000 in
set_option maxRecDepth 100000 in
theorem w3_findFault_68 {p : Program} {l : Launch} {e : Env} {s : State} {m : MethodId} {args : Array Value} {below : List Frame} {meth : Method} {c : Code} {E : EN} {G : GM} {X : Xm} (C0 : CX p s m args meth c E cX3_findFault RX3 2) (hr : meth.sig.returnType = (some .int)) (hz : s.heap.size + 0 ≤ eB E + G.1) {rr : Int32 × Im} (fl : Nat) : ∀ (I : Im) (H : Heap) (locs : List Loc) (ls : Array Slot) (zx0 : Nat) (zt0 : okA E G 3 zx0), WD E G I X s.heap H locs → lv_has ls 2 [(0, .ref zx0)] → m3_findFault_68 fl G.2.2 X I zx0 = some rr → W p l e ({ frames := 6, cells := 0, slots := 0, locals := 135 } : Room) s m args below meth c H locs 0 0 (MQ below (QI E G rr.1 rr.2 X) args s 0 0 (eA E)) (F0 m 68 ls []) := by
  intro I H locs ls zx0 zt0 hw hl hf
  unfold m3_findFault_68 at hf
  have hx := C0.1; have hb := C0.2.1; have hml := C0.2.2.1; have hown := C0.2.2.2.1; have hts := C0.2.2.2.2.1
  refine lv_aload_n hx hb dX3_findFault_68 rfl (lv_at hl 0 rfl) ?_
  refine xg_3_2 C0 hw zt0 wd256 dX3_findFault_69 ?_
  obtain rfl := Option.some.inj hf
  exact x_iret C0 hr hw dX3_findFault_72
noncomputable def m3_findFault_7b (fl : Nat) (len : Nat → Nat) (X : Xm) (zr7 : Im → Nat → Int32 → Option (Int32 × Im)) (I : Im) (zx0 : Nat) (zx1 : Int32) : Option (Int32 × Im) :=
  if (80 : Int32) ≤ zx1 then
    m3_findFault_68 fl len X I zx0
  else
    nn (m3_readOrder fl len X I zx0) fun ⟨zv2, zI3⟩ =>
    if zv2 = 0 then
      m3_findFault_68 fl len X zI3 zx0
    else
      if (gF zI3 50 zx0) = (gF zI3 49 zx0) then
        some ((-6 : Int32), zI3)
      else
        nn (m3_characterAt fl len X zI3 zx0 (gF zI3 50 zx0)) fun zv7 =>
        if zv7 = (59 : Int32) then
          lt (pF zI3 50 zx0 ((gF zI3 50 zx0) + (1 : Int32))) fun zI10 =>
          lt (zx1 + 1) fun zv11 =>
          zr7 zI10 zx0 zv11
        else
          some ((gF zI3 50 zx0), zI3)
noncomputable def m3_findFault_7 (fl : Nat) (len : Nat → Nat) (X : Xm) (n : Nat) : Im → Nat → Int32 → Option (Int32 × Im) :=
  Nat.rec (fun _ _ _ => none) (fun _ r => m3_findFault_7b fl len X r) n
set_option maxHeartbeats 4000000 in
set_option maxRecDepth 100000 in
theorem w3_findFault_7b {p : Program} {l : Launch} {e : Env} {s : State} {m : MethodId} {args : Array Value} {below : List Frame} {meth : Method} {c : Code} {E : EN} {G : GM} {X : Xm} (C0 : CX p s m args meth c E cX3_findFault RX3 2) (hr : meth.sig.returnType = (some .int)) (hz : s.heap.size + 0 ≤ eB E + G.1) {rr : Int32 × Im} (fl : Nat) (zr7 : Im → Nat → Int32 → Option (Int32 × Im)) (zhr7 : ∀ (I : Im) (H : Heap) (locs : List Loc) (ls : Array Slot) (zx0 : Nat) (zx1 : Int32) (zt0 : okA E G 3 zx0), WD E G I X s.heap H locs → lv_has ls 2 [(0, .ref zx0), (1, .int zx1)] → zr7 I zx0 zx1 = some rr → W p l e ({ frames := 6, cells := 0, slots := 0, locals := 135 } : Room) s m args below meth c H locs 0 0 (MQ below (QI E G rr.1 rr.2 X) args s 0 0 (eA E)) (F0 m 7 ls [])) : ∀ (I : Im) (H : Heap) (locs : List Loc) (ls : Array Slot) (zx0 : Nat) (zx1 : Int32) (zt0 : okA E G 3 zx0), WD E G I X s.heap H locs → lv_has ls 2 [(0, .ref zx0), (1, .int zx1)] → m3_findFault_7b fl G.2.2 X zr7 I zx0 zx1 = some rr → W p l e ({ frames := 6, cells := 0, slots := 0, locals := 135 } : Room) s m args below meth c H locs 0 0 (MQ below (QI E G rr.1 rr.2 X) args s 0 0 (eA E)) (F0 m 7 ls []) := by
  intro I H locs ls zx0 zx1 zt0 hw hl hf
  unfold m3_findFault_7b at hf
  have hx := C0.1; have hb := C0.2.1; have hml := C0.2.2.1; have hown := C0.2.2.2.1; have hts := C0.2.2.2.2.1
  refine lv_iload_n hx hb dX3_findFault_7 rfl (lv_at hl 1 rfl) ?_
  refine lv_bipush (v := (80 : Int32)) hx hb dX3_findFault_8 (by decide) ?_
  refine lv_icmp_ge (tgt := 68) hx hb dX3_findFault_10 (by decide) (fun zc1 => ?_) (fun zc1 => ?_)
  · have hf := ite_t hf zc1
    exact w3_findFault_68 C0 hr hz fl I _ _ _ zx0 zt0 hw (lv_sub hl [0] rfl) hf
  · have hf := ite_f hf zc1
    refine lv_aload_n hx hb dX3_findFault_13 rfl (lv_at hl 0 rfl) ?_
    obtain ⟨⟨zv2, zI3⟩, ze4, hf⟩ := nn_some hf
    refine x_ci (r := zv2) (I1 := zI3) (X1 := X) (x_runV (As := []) (rest := []) C0 (c3_readOrder l E G fl X I zx0 zt0 ze4) hw 3 zt0 (by decide) rfl wd30 wd279 wd280 wd281 wd255 ⟨rfl, rfl⟩ hy3_readOrder ⟨Nat.le_of_ble_eq_true rfl, Nat.le_of_ble_eq_true rfl⟩ rfl hl.1 (Nat.le_of_ble_eq_true rfl) ⟨Nat.zero_le _, Nat.zero_le _⟩ dX3_findFault_14) hw (fun H locs hw => ?_)
    refine lv_if_eq (tgt := 68) hx hb dX3_findFault_17 (by decide) (fun zc5 => ?_) (fun zc5 => ?_)
    · have hf := ite_t hf zc5
      exact w3_findFault_68 C0 hr hz fl zI3 _ _ _ zx0 zt0 hw (lv_sub hl [0] rfl) hf
    · have hf := ite_f hf zc5
      refine lv_aload_n hx hb dX3_findFault_20 rfl (lv_at hl 0 rfl) ?_
      refine xg_3_2 C0 hw zt0 wd256 dX3_findFault_21 ?_
      refine lv_aload_n hx hb dX3_findFault_24 rfl (lv_at hl 0 rfl) ?_
      refine xg_3_1 C0 hw zt0 wd219 dX3_findFault_25 ?_
      refine lv_icmp_ne (tgt := 34) hx hb dX3_findFault_28 (by decide) (fun zc6 => ?_) (fun zc6 => ?_)
      · have hf := ite_f hf zc6
        refine lv_aload_n hx hb dX3_findFault_34 rfl (lv_at hl 0 rfl) ?_
        refine lv_aload_n hx hb dX3_findFault_35 rfl (lv_at hl 0 rfl) ?_
        refine xg_3_2 C0 hw zt0 wd256 dX3_findFault_36 ?_
        obtain ⟨zv7, ze8, hf⟩ := nn_some hf
        refine x_ci (r := zv7) (I1 := zI3) (X1 := X) (x_runV (As := [.int (gF zI3 50 zx0)]) (rest := []) C0 (c3_characterAt l E G fl X zI3 zx0 (gF zI3 50 zx0) zt0 ze8) hw 3 zt0 (by decide) rfl wd13 wd252 wd253 wd254 wd255 ⟨rfl, rfl⟩ hy3_characterAt ⟨Nat.le_of_ble_eq_true rfl, Nat.le_of_ble_eq_true rfl⟩ rfl hl.1 (Nat.le_of_ble_eq_true rfl) ⟨Nat.zero_le _, Nat.zero_le _⟩ dX3_findFault_39) hw (fun H locs hw => ?_)
        refine lv_bipush (v := (59 : Int32)) hx hb dX3_findFault_42 (by decide) ?_
        refine lv_icmp_eq (tgt := 52) hx hb dX3_findFault_44 (by decide) (fun zc9 => ?_) (fun zc9 => ?_)
        · have hf := ite_t hf zc9
          refine lv_aload_n hx hb dX3_findFault_52 rfl (lv_at hl 0 rfl) ?_
          refine lv_dup hx hb dX3_findFault_53 rfl ?_
          refine xg_3_2 C0 hw zt0 wd256 dX3_findFault_54 ?_
          refine lv_iconst (v := (1 : Int32)) hx hb dX3_findFault_57 (by decide) ?_
          refine lv_iadd hx hb dX3_findFault_58 ?_
          obtain ⟨zI10, ezI10⟩ : ∃ y : Im, y = pF zI3 50 zx0 ((gF zI3 50 zx0) + (1 : Int32)) := ⟨_, rfl⟩
          have hf := lt_at hf ezI10
          refine xp_3_2 C0 hz hw zt0 rfl rfl wd256 dX3_findFault_59 ezI10 (fun H locs hw => ?_)
          obtain ⟨zv11, ezv11⟩ : ∃ y : Int32, y = zx1 + 1 := ⟨_, rfl⟩
          have hf := lt_at hf ezv11
          refine lv_iinc (v := zv11) (lv' := [(1, .int zv11), (0, .ref zx0)]) hx hb dX3_findFault_62 hl (k := 1) rfl (by rw [ezv11]; rfl) (by decide) rfl (fun ls hl => ?_)
          refine lv_goto (tgt := 7) hx hb dX3_findFault_65 (by decide) ?_
          exact zhr7 zI10 _ _ _ zx0 zv11 zt0 hw (lv_sub hl [1, 0] rfl) hf
        · have hf := ite_f hf zc9
          refine lv_aload_n hx hb dX3_findFault_47 rfl (lv_at hl 0 rfl) ?_
          refine xg_3_2 C0 hw zt0 wd256 dX3_findFault_48 ?_
          obtain rfl := Option.some.inj hf
          exact x_iret C0 hr hw dX3_findFault_51
      · have hf := ite_t hf zc6
        refine lv_bipush (v := (-6 : Int32)) hx hb dX3_findFault_31 (by decide) ?_
        obtain rfl := Option.some.inj hf
        exact x_iret C0 hr hw dX3_findFault_33
theorem w3_findFault_7 {p : Program} {l : Launch} {e : Env} {s : State} {m : MethodId} {args : Array Value} {below : List Frame} {meth : Method} {c : Code} {E : EN} {G : GM} {X : Xm} (C0 : CX p s m args meth c E cX3_findFault RX3 2) (hr : meth.sig.returnType = (some .int)) (hz : s.heap.size + 0 ≤ eB E + G.1) {rr : Int32 × Im} (fl : Nat) : ∀ (n : Nat) (I : Im) (H : Heap) (locs : List Loc) (ls : Array Slot) (zx0 : Nat) (zx1 : Int32) (zt0 : okA E G 3 zx0), WD E G I X s.heap H locs → lv_has ls 2 [(0, .ref zx0), (1, .int zx1)] → m3_findFault_7 fl G.2.2 X n I zx0 zx1 = some rr → W p l e ({ frames := 6, cells := 0, slots := 0, locals := 135 } : Room) s m args below meth c H locs 0 0 (MQ below (QI E G rr.1 rr.2 X) args s 0 0 (eA E)) (F0 m 7 ls []) := by
  intro n
  induction n with
  | zero => intro I H locs ls zx0 zx1 zt0 hw hl hf; exact absurd (show (none : Option (Int32 × Im)) = some rr from hf) (by simp)
  | succ n ih => intro I H locs ls zx0 zx1 zt0 hw hl hf; exact w3_findFault_7b C0 hr hz fl _ ih I H locs ls zx0 zx1 zt0 hw hl hf
noncomputable def m3_findFault (fl : Nat) (len : Nat → Nat) (X : Xm) (I : Im) (zx0 : Nat) : Option (Int32 × Im) :=
  lt (pF I 50 zx0 (0 : Int32)) fun zI1 =>
  m3_findFault_7 fl len X fl zI1 zx0 (0 : Int32)
theorem hy3_findFault : yX3_findFault.cls = RX3 ∧ yX3_findFault.cls ≠ "java/lang/invoke/MethodHandle" ∧ yX3_findFault.cls ≠ "java/lang/invoke/VarHandle" ∧ (parseMethodDescriptor yX3_findFault.desc).map (fun d => d.parameters.length) = some 0 := ⟨rfl, by decide +kernel, by decide +kernel, by decide +kernel⟩
set_option maxHeartbeats 4000000 in
set_option maxRecDepth 100000 in
theorem c3_findFault (l : Launch) (E : EN) (G : GM) (fl : Nat) (X : Xm) (I : Im) (zx0 : Nat) (zt0 : okA E G 3 zx0) {rr : Int32 × Im} (hf : m3_findFault fl G.2.2 X I zx0 = some rr) : MT l yX3_findFault cX3_findFault 2 (some .int) ({ frames := 6, cells := 0, slots := 0, locals := 135 } : Room) E G I X [.ref zx0] (QI E G rr.1 rr.2 X) 0 0 := by
  refine Met.ofW (cc := cX3_findFault) (maxL := 2) (ret := (some .int)) (by decide +kernel) rfl ?_
  intro p e s m args below meth c s₁ B hml hv
  obtain ⟨rfl, hw0, hSE⟩ := hv
  have C0 : CX p s m ([.ref zx0] : List Value).toArray meth c E cX3_findFault RX3 2 := ⟨B.exec, B.bytes, hml, findClass_of_methodNamed B.named, fun w hw => atoms_spec (ws := WS yX3_findFault cX3_findFault 2 (some .int)) B.pre w (List.mem_cons_of_mem _ hw), B.notSynchronized, hSE⟩
  have hz : s.heap.size + 0 ≤ eB E + G.1 := Nat.le_of_eq hw0.2.1
  have hw : WD E G I X s.heap s.heap [] := ⟨hw0, va_S.rf⟩
  have hr := B.returns
  have hx := C0.1; have hb := C0.2.1; have hml := C0.2.2.1; have hown := C0.2.2.2.1; have hts := C0.2.2.2.2.1
  have hl := lv_entry ([.ref zx0]) (n := 2) (Nat.le_of_ble_eq_true rfl)
  rw [lg_entry_eq]
  generalize (lg_sl ([.ref zx0]) ++ List.replicate (2 - (lg_sl ([.ref zx0])).length) Slot.unset).toArray = ls at hl ⊢
  have hl : lv_has ls 2 [(0, .ref zx0)] := hl
  unfold m3_findFault at hf
  refine lv_aload_n hx hb dX3_findFault_0 rfl (lv_at hl 0 rfl) ?_
  refine lv_iconst (v := (0 : Int32)) hx hb dX3_findFault_1 (by decide) ?_
  obtain ⟨zI1, ezI1⟩ : ∃ y : Im, y = pF I 50 zx0 (0 : Int32) := ⟨_, rfl⟩
  have hf := lt_at hf ezI1
  refine xp_3_2 C0 hz hw zt0 rfl rfl wd256 dX3_findFault_2 ezI1 (fun H locs hw => ?_)
  refine lv_iconst (v := (0 : Int32)) hx hb dX3_findFault_5 (by decide) ?_
  refine lv_istore_n (lv' := [(1, .int (0 : Int32)), (0, .ref zx0)]) hx hb dX3_findFault_6 rfl hl (by decide) rfl (fun ls hl => ?_)
  exact w3_findFault_7 C0 hr hz fl fl zI1 _ _ _ zx0 (0 : Int32) zt0 hw (lv_sub hl [1, 0] rfl) hf
noncomputable def m8_fault (fl : Nat) (len : Nat → Nat) (X : Xm) (I : Im) (zx0 : Nat) : Option (Int32 × Im) :=
  nn (gR X 134 zx0) fun zv1 =>
  nn (m3_findFault fl len X I zv1) fun ⟨zv2, zI3⟩ =>
  some (zv2, zI3)
theorem hy8_fault : yX8_fault.cls = RX8 ∧ yX8_fault.cls ≠ "java/lang/invoke/MethodHandle" ∧ yX8_fault.cls ≠ "java/lang/invoke/VarHandle" ∧ (parseMethodDescriptor yX8_fault.desc).map (fun d => d.parameters.length) = some 0 := ⟨rfl, by decide +kernel, by decide +kernel, by decide +kernel⟩
set_option maxHeartbeats 4000000 in
set_option maxRecDepth 100000 in
theorem c8_fault (l : Launch) (E : EN) (G : GM) (fl : Nat) (X : Xm) (I : Im) (zx0 : Nat) (zt0 : okA E G 8 zx0) {rr : Int32 × Im} (hf : m8_fault fl G.2.2 X I zx0 = some rr) : MT l yX8_fault cX8_fault 1 (some .int) ({ frames := 7, cells := 0, slots := 0, locals := 156 } : Room) E G I X [.ref zx0] (QI E G rr.1 rr.2 X) 0 0 := by
  refine Met.ofW (cc := cX8_fault) (maxL := 1) (ret := (some .int)) (by decide +kernel) rfl ?_
  intro p e s m args below meth c s₁ B hml hv
  obtain ⟨rfl, hw0, hSE⟩ := hv
  have C0 : CX p s m ([.ref zx0] : List Value).toArray meth c E cX8_fault RX8 1 := ⟨B.exec, B.bytes, hml, findClass_of_methodNamed B.named, fun w hw => atoms_spec (ws := WS yX8_fault cX8_fault 1 (some .int)) B.pre w (List.mem_cons_of_mem _ hw), B.notSynchronized, hSE⟩
  have hz : s.heap.size + 0 ≤ eB E + G.1 := Nat.le_of_eq hw0.2.1
  have hw : WD E G I X s.heap s.heap [] := ⟨hw0, va_S.rf⟩
  have hr := B.returns
  have hx := C0.1; have hb := C0.2.1; have hml := C0.2.2.1; have hown := C0.2.2.2.1; have hts := C0.2.2.2.2.1
  have hl := lv_entry ([.ref zx0]) (n := 1) (Nat.le_of_ble_eq_true rfl)
  rw [lg_entry_eq]
  generalize (lg_sl ([.ref zx0]) ++ List.replicate (1 - (lg_sl ([.ref zx0])).length) Slot.unset).toArray = ls at hl ⊢
  have hl : lv_has ls 1 [(0, .ref zx0)] := hl
  unfold m8_fault at hf
  refine lv_aload_n hx hb dX8_fault_0 rfl (lv_at hl 0 rfl) ?_
  obtain ⟨zv1, ezv1, hf⟩ := nn_some hf
  have tzv1 : okA E G 3 zv1 := wt_r hw ezv1
  refine xg_8_6 C0 hw zt0 wd487 ezv1 dX8_fault_1 ?_
  obtain ⟨⟨zv2, zI3⟩, ze4, hf⟩ := nn_some hf
  refine x_ci (r := zv2) (I1 := zI3) (X1 := X) (x_runV (As := []) (rest := []) C0 (c3_findFault l E G fl X I zv1 tzv1 ze4) hw 3 tzv1 (by decide) rfl wd31 wd590 wd591 wd592 wd255 ⟨rfl, rfl⟩ hy3_findFault ⟨Nat.le_of_ble_eq_true rfl, Nat.le_of_ble_eq_true rfl⟩ rfl hl.1 (Nat.le_of_ble_eq_true rfl) ⟨Nat.zero_le _, Nat.zero_le _⟩ dX8_fault_4) hw (fun H locs hw => ?_)
  obtain rfl := Option.some.inj hf
  exact x_iret C0 hr hw dX8_fault_7
noncomputable def m8_carryOut_71 (fl : Nat) (len : Nat → Nat) (I : Im) (X : Xm) (zx0 : Nat) (zx1 : Int32) : Option (Int32 × Im × Xm) :=
  nn (gR X 134 zx0) fun zv1 =>
  lt (pF I 49 zv1 (0 : Int32)) fun zI2 =>
  nn (m8_recorded fl len X zI2 zx0 zx1) fun ⟨zv3, zI4, zX5⟩ =>
  some (zv3, zI4, zX5)
set_option maxHeartbeats 4000000 in
set_option maxRecDepth 100000 in
theorem w8_carryOut_71 {p : Program} {l : Launch} {e : Env} {s : State} {m : MethodId} {args : Array Value} {below : List Frame} {meth : Method} {c : Code} {E : EN} {G : GM} (C0 : CX p s m args meth c E cX8_carryOut RX8 2) (hr : meth.sig.returnType = (some .int)) (hz : s.heap.size + 0 ≤ eB E + G.1) {rr : Int32 × Im × Xm} (fl : Nat) : ∀ (I : Im) (X : Xm) (H : Heap) (locs : List Loc) (ls : Array Slot) (zx0 : Nat) (zx1 : Int32) (zt0 : okA E G 8 zx0), WD E G I X s.heap H locs → lv_has ls 2 [(0, .ref zx0), (1, .int zx1)] → m8_carryOut_71 fl G.2.2 I X zx0 zx1 = some rr → W p l e ({ frames := 7, cells := 0, slots := 0, locals := 156 } : Room) s m args below meth c H locs 0 0 (MQ below (QI E G rr.1 rr.2.1 rr.2.2) args s 0 0 (eA E)) (F0 m 71 ls []) := by
  intro I X H locs ls zx0 zx1 zt0 hw hl hf
  unfold m8_carryOut_71 at hf
  have hx := C0.1; have hb := C0.2.1; have hml := C0.2.2.1; have hown := C0.2.2.2.1; have hts := C0.2.2.2.2.1
  refine lv_aload_n hx hb dX8_carryOut_71 rfl (lv_at hl 0 rfl) ?_
  obtain ⟨zv1, ezv1, hf⟩ := nn_some hf
  have tzv1 : okA E G 3 zv1 := wt_r hw ezv1
  refine xg_8_6 C0 hw zt0 wd487 ezv1 dX8_carryOut_72 ?_
  refine lv_iconst (v := (0 : Int32)) hx hb dX8_carryOut_75 (by decide) ?_
  obtain ⟨zI2, ezI2⟩ : ∃ y : Im, y = pF I 49 zv1 (0 : Int32) := ⟨_, rfl⟩
  have hf := lt_at hf ezI2
  refine xp_3_1 C0 hz hw tzv1 rfl rfl wd558 dX8_carryOut_76 ezI2 (fun H locs hw => ?_)
  refine lv_aload_n hx hb dX8_carryOut_79 rfl (lv_at hl 0 rfl) ?_
  refine lv_iload_n hx hb dX8_carryOut_80 rfl (lv_at hl 1 rfl) ?_
  obtain ⟨⟨zv3, zI4, zX5⟩, ze6, hf⟩ := nn_some hf
  refine x_ci (r := zv3) (I1 := zI4) (X1 := zX5) (x_runV (As := [.int zx1]) (rest := []) C0 (c8_recorded l E G fl X zI2 zx0 zx1 zt0 ze6) hw 8 zt0 (by decide) rfl wd81 wd504 wd505 wd506 wd197 ⟨rfl, rfl⟩ hy8_recorded ⟨Nat.le_of_ble_eq_true rfl, Nat.le_of_ble_eq_true rfl⟩ rfl hl.1 (Nat.le_of_ble_eq_true rfl) ⟨Nat.zero_le _, Nat.zero_le _⟩ dX8_carryOut_81) hw (fun H locs hw => ?_)
  obtain rfl := Option.some.inj hf
  exact x_iret C0 hr hw dX8_carryOut_84
noncomputable def m8_carryOut_29b (fl : Nat) (len : Nat → Nat) (zr29 : Im → Xm → Nat → Int32 → Option (Int32 × Im × Xm)) (I : Im) (X : Xm) (zx0 : Nat) (zx1 : Int32) : Option (Int32 × Im × Xm) :=
  if (80 : Int32) ≤ zx1 then
    m8_carryOut_71 fl len I X zx0 zx1
  else
    nn (gR X 134 zx0) fun zv2 =>
    nn (m3_readOrder fl len X I zv2) fun ⟨zv3, zI4⟩ =>
    if zv3 = 0 then
      m8_carryOut_71 fl len zI4 X zx0 zx1
    else
      nn (m8_answerOfOrder fl len X zI4 zx0) fun ⟨zv7, zI8, zX9⟩ =>
      if zv7 < 0 then
        m8_carryOut_71 fl len zI8 zX9 zx0 zx1
      else
        lt (zx1 + 1) fun zv12 =>
        nn (gR zX9 134 zx0) fun zv13 =>
        lt (pF zI8 50 zv13 ((gF zI8 50 zv13) + (1 : Int32))) fun zI14 =>
        zr29 zI14 zX9 zx0 zv12
noncomputable def m8_carryOut_29 (fl : Nat) (len : Nat → Nat) (n : Nat) : Im → Xm → Nat → Int32 → Option (Int32 × Im × Xm) :=
  Nat.rec (fun _ _ _ _ => none) (fun _ r => m8_carryOut_29b fl len r) n
set_option maxHeartbeats 4000000 in
set_option maxRecDepth 100000 in
theorem w8_carryOut_29b {p : Program} {l : Launch} {e : Env} {s : State} {m : MethodId} {args : Array Value} {below : List Frame} {meth : Method} {c : Code} {E : EN} {G : GM} (C0 : CX p s m args meth c E cX8_carryOut RX8 2) (hr : meth.sig.returnType = (some .int)) (hz : s.heap.size + 0 ≤ eB E + G.1) {rr : Int32 × Im × Xm} (fl : Nat) (zr29 : Im → Xm → Nat → Int32 → Option (Int32 × Im × Xm)) (zhr29 : ∀ (I : Im) (X : Xm) (H : Heap) (locs : List Loc) (ls : Array Slot) (zx0 : Nat) (zx1 : Int32) (zt0 : okA E G 8 zx0), WD E G I X s.heap H locs → lv_has ls 2 [(0, .ref zx0), (1, .int zx1)] → zr29 I X zx0 zx1 = some rr → W p l e ({ frames := 7, cells := 0, slots := 0, locals := 156 } : Room) s m args below meth c H locs 0 0 (MQ below (QI E G rr.1 rr.2.1 rr.2.2) args s 0 0 (eA E)) (F0 m 29 ls [])) : ∀ (I : Im) (X : Xm) (H : Heap) (locs : List Loc) (ls : Array Slot) (zx0 : Nat) (zx1 : Int32) (zt0 : okA E G 8 zx0), WD E G I X s.heap H locs → lv_has ls 2 [(0, .ref zx0), (1, .int zx1)] → m8_carryOut_29b fl G.2.2 zr29 I X zx0 zx1 = some rr → W p l e ({ frames := 7, cells := 0, slots := 0, locals := 156 } : Room) s m args below meth c H locs 0 0 (MQ below (QI E G rr.1 rr.2.1 rr.2.2) args s 0 0 (eA E)) (F0 m 29 ls []) := by
  intro I X H locs ls zx0 zx1 zt0 hw hl hf
  unfold m8_carryOut_29b at hf
  have hx := C0.1; have hb := C0.2.1; have hml := C0.2.2.1; have hown := C0.2.2.2.1; have hts := C0.2.2.2.2.1
  refine lv_iload_n hx hb dX8_carryOut_29 rfl (lv_at hl 1 rfl) ?_
  refine lv_bipush (v := (80 : Int32)) hx hb dX8_carryOut_30 (by decide) ?_
  refine lv_icmp_ge (tgt := 71) hx hb dX8_carryOut_32 (by decide) (fun zc1 => ?_) (fun zc1 => ?_)
  · have hf := ite_t hf zc1
    exact w8_carryOut_71 C0 hr hz fl I X _ _ _ zx0 zx1 zt0 hw (lv_sub hl [0, 1] rfl) hf
  · have hf := ite_f hf zc1
    refine lv_aload_n hx hb dX8_carryOut_35 rfl (lv_at hl 0 rfl) ?_
    obtain ⟨zv2, ezv2, hf⟩ := nn_some hf
    have tzv2 : okA E G 3 zv2 := wt_r hw ezv2
    refine xg_8_6 C0 hw zt0 wd487 ezv2 dX8_carryOut_36 ?_
    obtain ⟨⟨zv3, zI4⟩, ze5, hf⟩ := nn_some hf
    refine x_ci (r := zv3) (I1 := zI4) (X1 := X) (x_runV (As := []) (rest := []) C0 (c3_readOrder l E G fl X I zv2 tzv2 ze5) hw 3 tzv2 (by decide) rfl wd30 wd596 wd280 wd281 wd255 ⟨rfl, rfl⟩ hy3_readOrder ⟨Nat.le_of_ble_eq_true rfl, Nat.le_of_ble_eq_true rfl⟩ rfl hl.1 (Nat.le_of_ble_eq_true rfl) ⟨Nat.zero_le _, Nat.zero_le _⟩ dX8_carryOut_39) hw (fun H locs hw => ?_)
    refine lv_if_eq (tgt := 71) hx hb dX8_carryOut_42 (by decide) (fun zc6 => ?_) (fun zc6 => ?_)
    · have hf := ite_t hf zc6
      exact w8_carryOut_71 C0 hr hz fl zI4 X _ _ _ zx0 zx1 zt0 hw (lv_sub hl [0, 1] rfl) hf
    · have hf := ite_f hf zc6
      refine lv_aload_n hx hb dX8_carryOut_45 rfl (lv_at hl 0 rfl) ?_
      obtain ⟨⟨zv7, zI8, zX9⟩, ze10, hf⟩ := nn_some hf
      refine x_ci (r := zv7) (I1 := zI8) (X1 := zX9) (x_runV (As := []) (rest := []) C0 (c8_answerOfOrder l E G fl X zI4 zx0 zt0 ze10) hw 8 zt0 (by decide) rfl wd107 wd597 wd598 wd599 wd197 ⟨rfl, rfl⟩ hy8_answerOfOrder ⟨Nat.le_of_ble_eq_true rfl, Nat.le_of_ble_eq_true rfl⟩ rfl hl.1 (Nat.le_of_ble_eq_true rfl) ⟨Nat.zero_le _, Nat.zero_le _⟩ dX8_carryOut_46) hw (fun H locs hw => ?_)
      refine lv_if_lt (tgt := 71) hx hb dX8_carryOut_49 (by decide) (fun zc11 => ?_) (fun zc11 => ?_)
      · have hf := ite_t hf zc11
        exact w8_carryOut_71 C0 hr hz fl zI8 zX9 _ _ _ zx0 zx1 zt0 hw (lv_sub hl [0, 1] rfl) hf
      · have hf := ite_f hf zc11
        obtain ⟨zv12, ezv12⟩ : ∃ y : Int32, y = zx1 + 1 := ⟨_, rfl⟩
        have hf := lt_at hf ezv12
        refine lv_iinc (v := zv12) (lv' := [(1, .int zv12), (0, .ref zx0)]) hx hb dX8_carryOut_52 hl (k := 1) rfl (by rw [ezv12]; rfl) (by decide) rfl (fun ls hl => ?_)
        refine lv_aload_n hx hb dX8_carryOut_55 rfl (lv_at hl 1 rfl) ?_
        obtain ⟨zv13, ezv13, hf⟩ := nn_some hf
        have tzv13 : okA E G 3 zv13 := wt_r hw ezv13
        refine xg_8_6 C0 hw zt0 wd487 ezv13 dX8_carryOut_56 ?_
        refine lv_dup hx hb dX8_carryOut_59 rfl ?_
        refine xg_3_2 C0 hw tzv13 wd595 dX8_carryOut_60 ?_
        refine lv_iconst (v := (1 : Int32)) hx hb dX8_carryOut_63 (by decide) ?_
        refine lv_iadd hx hb dX8_carryOut_64 ?_
        obtain ⟨zI14, ezI14⟩ : ∃ y : Im, y = pF zI8 50 zv13 ((gF zI8 50 zv13) + (1 : Int32)) := ⟨_, rfl⟩
        have hf := lt_at hf ezI14
        refine xp_3_2 C0 hz hw tzv13 rfl rfl wd595 dX8_carryOut_65 ezI14 (fun H locs hw => ?_)
        refine lv_goto (tgt := 29) hx hb dX8_carryOut_68 (by decide) ?_
        exact zhr29 zI14 zX9 _ _ _ zx0 zv12 zt0 hw (lv_sub hl [1, 0] rfl) hf
theorem w8_carryOut_29 {p : Program} {l : Launch} {e : Env} {s : State} {m : MethodId} {args : Array Value} {below : List Frame} {meth : Method} {c : Code} {E : EN} {G : GM} (C0 : CX p s m args meth c E cX8_carryOut RX8 2) (hr : meth.sig.returnType = (some .int)) (hz : s.heap.size + 0 ≤ eB E + G.1) {rr : Int32 × Im × Xm} (fl : Nat) : ∀ (n : Nat) (I : Im) (X : Xm) (H : Heap) (locs : List Loc) (ls : Array Slot) (zx0 : Nat) (zx1 : Int32) (zt0 : okA E G 8 zx0), WD E G I X s.heap H locs → lv_has ls 2 [(0, .ref zx0), (1, .int zx1)] → m8_carryOut_29 fl G.2.2 n I X zx0 zx1 = some rr → W p l e ({ frames := 7, cells := 0, slots := 0, locals := 156 } : Room) s m args below meth c H locs 0 0 (MQ below (QI E G rr.1 rr.2.1 rr.2.2) args s 0 0 (eA E)) (F0 m 29 ls []) := by
  intro n
  induction n with
  | zero => intro I X H locs ls zx0 zx1 zt0 hw hl hf; exact absurd (show (none : Option (Int32 × Im × Xm)) = some rr from hf) (by simp)
  | succ n ih => intro I X H locs ls zx0 zx1 zt0 hw hl hf; exact w8_carryOut_29b C0 hr hz fl _ ih I X H locs ls zx0 zx1 zt0 hw hl hf
noncomputable def m8_carryOut (fl : Nat) (len : Nat → Nat) (X : Xm) (I : Im) (zx0 : Nat) : Option (Int32 × Im × Xm) :=
  nn (gR X 134 zx0) fun zv1 =>
  nn (m3_findFault fl len X I zv1) fun ⟨zv2, zI3⟩ =>
  if zv2 = (-6 : Int32) then
    nn (m8_holdState fl len X zI3 zx0) fun zI6 =>
    lt (pF zI6 50 zv1 (0 : Int32)) fun zI8 =>
    m8_carryOut_29 fl len fl zI8 X zx0 (0 : Int32)
  else
    some ((-3 : Int32), zI3, X)
theorem hy8_carryOut : yX8_carryOut.cls = RX8 ∧ yX8_carryOut.cls ≠ "java/lang/invoke/MethodHandle" ∧ yX8_carryOut.cls ≠ "java/lang/invoke/VarHandle" ∧ (parseMethodDescriptor yX8_carryOut.desc).map (fun d => d.parameters.length) = some 0 := ⟨rfl, by decide +kernel, by decide +kernel, by decide +kernel⟩
set_option maxHeartbeats 4000000 in
set_option maxRecDepth 100000 in
theorem c8_carryOut (l : Launch) (E : EN) (G : GM) (fl : Nat) (X : Xm) (I : Im) (zx0 : Nat) (zt0 : okA E G 8 zx0) {rr : Int32 × Im × Xm} (hf : m8_carryOut fl G.2.2 X I zx0 = some rr) : MT l yX8_carryOut cX8_carryOut 2 (some .int) ({ frames := 7, cells := 0, slots := 0, locals := 156 } : Room) E G I X [.ref zx0] (QI E G rr.1 rr.2.1 rr.2.2) 0 0 := by
  refine Met.ofW (cc := cX8_carryOut) (maxL := 2) (ret := (some .int)) (by decide +kernel) rfl ?_
  intro p e s m args below meth c s₁ B hml hv
  obtain ⟨rfl, hw0, hSE⟩ := hv
  have C0 : CX p s m ([.ref zx0] : List Value).toArray meth c E cX8_carryOut RX8 2 := ⟨B.exec, B.bytes, hml, findClass_of_methodNamed B.named, fun w hw => atoms_spec (ws := WS yX8_carryOut cX8_carryOut 2 (some .int)) B.pre w (List.mem_cons_of_mem _ hw), B.notSynchronized, hSE⟩
  have hz : s.heap.size + 0 ≤ eB E + G.1 := Nat.le_of_eq hw0.2.1
  have hw : WD E G I X s.heap s.heap [] := ⟨hw0, va_S.rf⟩
  have hr := B.returns
  have hx := C0.1; have hb := C0.2.1; have hml := C0.2.2.1; have hown := C0.2.2.2.1; have hts := C0.2.2.2.2.1
  have hl := lv_entry ([.ref zx0]) (n := 2) (Nat.le_of_ble_eq_true rfl)
  rw [lg_entry_eq]
  generalize (lg_sl ([.ref zx0]) ++ List.replicate (2 - (lg_sl ([.ref zx0])).length) Slot.unset).toArray = ls at hl ⊢
  have hl : lv_has ls 2 [(0, .ref zx0)] := hl
  unfold m8_carryOut at hf
  refine lv_aload_n hx hb dX8_carryOut_0 rfl (lv_at hl 0 rfl) ?_
  obtain ⟨zv1, ezv1, hf⟩ := nn_some hf
  have tzv1 : okA E G 3 zv1 := wt_r hw ezv1
  refine xg_8_6 C0 hw zt0 wd487 ezv1 dX8_carryOut_1 ?_
  obtain ⟨⟨zv2, zI3⟩, ze4, hf⟩ := nn_some hf
  refine x_ci (r := zv2) (I1 := zI3) (X1 := X) (x_runV (As := []) (rest := []) C0 (c3_findFault l E G fl X I zv1 tzv1 ze4) hw 3 tzv1 (by decide) rfl wd31 wd590 wd591 wd592 wd255 ⟨rfl, rfl⟩ hy3_findFault ⟨Nat.le_of_ble_eq_true rfl, Nat.le_of_ble_eq_true rfl⟩ rfl hl.1 (Nat.le_of_ble_eq_true rfl) ⟨Nat.zero_le _, Nat.zero_le _⟩ dX8_carryOut_4) hw (fun H locs hw => ?_)
  refine lv_bipush (v := (-6 : Int32)) hx hb dX8_carryOut_7 (by decide) ?_
  refine lv_icmp_eq (tgt := 15) hx hb dX8_carryOut_9 (by decide) (fun zc5 => ?_) (fun zc5 => ?_)
  · have hf := ite_t hf zc5
    refine lv_aload_n hx hb dX8_carryOut_15 rfl (lv_at hl 0 rfl) ?_
    obtain ⟨zI6, ze7, hf⟩ := nn_some hf
    refine x_cv (I1 := zI6) (X1 := X) (x_runV (As := []) (rest := []) C0 (c8_holdState l E G fl X zI3 zx0 zt0 ze7) hw 8 zt0 (by decide) rfl wd79 wd498 wd499 wd500 wd197 ⟨rfl, rfl⟩ hy8_holdState ⟨Nat.le_of_ble_eq_true rfl, Nat.le_of_ble_eq_true rfl⟩ rfl hl.1 (Nat.le_of_ble_eq_true rfl) ⟨Nat.zero_le _, Nat.zero_le _⟩ dX8_carryOut_16) hw (fun H locs hw => ?_)
    refine lv_iconst (v := (0 : Int32)) hx hb dX8_carryOut_19 (by decide) ?_
    refine lv_istore_n (lv' := [(1, .int (0 : Int32)), (0, .ref zx0)]) hx hb dX8_carryOut_20 rfl hl (by decide) rfl (fun ls hl => ?_)
    refine lv_aload_n hx hb dX8_carryOut_21 rfl (lv_at hl 1 rfl) ?_
    refine xg_8_6 C0 hw zt0 wd487 ezv1 dX8_carryOut_22 ?_
    refine lv_iconst (v := (0 : Int32)) hx hb dX8_carryOut_25 (by decide) ?_
    obtain ⟨zI8, ezI8⟩ : ∃ y : Im, y = pF zI6 50 zv1 (0 : Int32) := ⟨_, rfl⟩
    have hf := lt_at hf ezI8
    refine xp_3_2 C0 hz hw tzv1 rfl rfl wd595 dX8_carryOut_26 ezI8 (fun H locs hw => ?_)
    exact w8_carryOut_29 C0 hr hz fl fl zI8 X _ _ _ zx0 (0 : Int32) zt0 hw (lv_sub hl [1, 0] rfl) hf
  · have hf := ite_f hf zc5
    refine lv_bipush (v := (-3 : Int32)) hx hb dX8_carryOut_12 (by decide) ?_
    obtain rfl := Option.some.inj hf
    exact x_iret C0 hr hw dX8_carryOut_14
