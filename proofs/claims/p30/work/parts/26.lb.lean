noncomputable def m9_goes_408 (fl : Nat) (len : Nat → Nat) (X : Xm) (zr277 : Im → Nat → Nat → Nat → Nat → Int32 → Int32 → Option (Int32 × Im)) (I : Im) (zx0 : Nat) (zx2 : Nat) (zx3 : Nat) (zx4 : Nat) (zx9 : Int32) (zx12 : Int32) : Option (Int32 × Im) :=
  lt (zx12 + 1) fun zv1 =>
  zr277 I zx0 zx2 zx3 zx4 zx9 zv1
set_option maxHeartbeats 4000000 in
set_option maxRecDepth 100000 in
theorem w9_goes_408 {p : Program} {l : Launch} {e : Env} {s : State} {m : MethodId} {args : Array Value} {below : List Frame} {meth : Method} {c : Code} {E : EN} {G : GM} {X : Xm} (C0 : CX p s m args meth c E cL_goes RL 14) (hr : meth.sig.returnType = (some .int)) (hz : s.heap.size + 0 ≤ eB E + G.1) {rr : Int32 × Im} (fl : Nat) (zr277 : Im → Nat → Nat → Nat → Nat → Int32 → Int32 → Option (Int32 × Im)) (zhr277 : ∀ (I : Im) (H : Heap) (locs : List Loc) (ls : Array Slot) (zx0 : Nat) (zx2 : Nat) (zx3 : Nat) (zx4 : Nat) (zx9 : Int32) (zx12 : Int32) (zt0 : okA E G 11 zx0) (zt2 : okA E G 11 zx2) (zt3 : okA E G 11 zx3) (zt4 : okA E G 11 zx4), WD E G I X s.heap H locs → lv_has ls 14 [(0, .ref zx0), (2, .ref zx2), (3, .ref zx3), (4, .ref zx4), (9, .int zx9), (12, .int zx12)] → zr277 I zx0 zx2 zx3 zx4 zx9 zx12 = some rr → W p l e ({ frames := 2, cells := 0, slots := 0, locals := 56 } : Room) s m args below meth c H locs 0 0 (MQ below (QI E G rr.1 rr.2 X) args s 0 0 (eA E)) (F0 m 277 ls [])) : ∀ (I : Im) (H : Heap) (locs : List Loc) (ls : Array Slot) (zx0 : Nat) (zx2 : Nat) (zx3 : Nat) (zx4 : Nat) (zx9 : Int32) (zx12 : Int32) (zt0 : okA E G 11 zx0) (zt2 : okA E G 11 zx2) (zt3 : okA E G 11 zx3) (zt4 : okA E G 11 zx4), WD E G I X s.heap H locs → lv_has ls 14 [(0, .ref zx0), (2, .ref zx2), (3, .ref zx3), (4, .ref zx4), (9, .int zx9), (12, .int zx12)] → m9_goes_408 fl G.2.2 X zr277 I zx0 zx2 zx3 zx4 zx9 zx12 = some rr → W p l e ({ frames := 2, cells := 0, slots := 0, locals := 56 } : Room) s m args below meth c H locs 0 0 (MQ below (QI E G rr.1 rr.2 X) args s 0 0 (eA E)) (F0 m 408 ls []) := by
  intro I H locs ls zx0 zx2 zx3 zx4 zx9 zx12 zt0 zt2 zt3 zt4 hw hl hf
  unfold m9_goes_408 at hf
  have hx := C0.1; have hb := C0.2.1; have hml := C0.2.2.1; have hown := C0.2.2.2.1; have hts := C0.2.2.2.2.1
  obtain ⟨zv1, ezv1⟩ : ∃ y : Int32, y = zx12 + 1 := ⟨_, rfl⟩
  have hf := lt_at hf ezv1
  refine lv_iinc (v := zv1) (lv' := [(12, .int zv1), (0, .ref zx0), (2, .ref zx2), (3, .ref zx3), (4, .ref zx4), (9, .int zx9)]) hx hb dL_goes_408 hl (k := 5) rfl (by rw [ezv1]; rfl) (by decide) rfl (fun ls hl => ?_)
  refine lv_goto (tgt := 277) hx hb dL_goes_411 (by decide) ?_
  exact zhr277 I _ _ _ zx0 zx2 zx3 zx4 zx9 zv1 zt0 zt2 zt3 zt4 hw (lv_sub hl [1, 2, 3, 4, 5, 0] rfl) hf
noncomputable def m9_goes_347 (fl : Nat) (len : Nat → Nat) (X : Xm) (zr277 : Im → Nat → Nat → Nat → Nat → Int32 → Int32 → Option (Int32 × Im)) (I : Im) (zx0 : Nat) (zx2 : Nat) (zx3 : Nat) (zx4 : Nat) (zx9 : Int32) (zx12 : Int32) : Option (Int32 × Im) :=
  nn (m9_nextOf fl len X I zx0 zx2 zx12) fun zv1 =>
  ck (inb (((4 : Int32) * zx12) + (1 : Int32)) (len zx3) = true) <|
  if (gA I zx3 ((((4 : Int32) * zx12) + (1 : Int32))).toNatClampNeg) = 0 then
    if zv1 < 0 then
      m9_goes_408 fl len X zr277 I zx0 zx2 zx3 zx4 zx9 zx12
    else
      ck (inb ((4 : Int32) * zx12) (len zx3) = true) <|
      ck (inb zv1 (len zx2) = true) <|
      nn (m9_begins fl len X I zx4 zx12 (((gA I zx2 (zv1).toNatClampNeg) / (16 : Int32)) - ((gA I zx2 (zv1).toNatClampNeg) / (16 : Int32)) / (128 : Int32) * (128 : Int32))) fun zv8 =>
      ck (inb (0 : Int32) (len zx0) = true) <|
      nn (m9_toward fl len X I (gA I zx3 (((4 : Int32) * zx12)).toNatClampNeg) zv8 (gA I zx0 ((0 : Int32)).toNatClampNeg)) fun zv11 =>
      lt (pA I zx3 (((4 : Int32) * zx12)).toNatClampNeg zv11) fun zI13 =>
      m9_goes_408 fl len X zr277 zI13 zx0 zx2 zx3 zx4 zx9 zx12
  else
    m9_goes_408 fl len X zr277 I zx0 zx2 zx3 zx4 zx9 zx12
set_option maxHeartbeats 4000000 in
set_option maxRecDepth 100000 in
theorem w9_goes_347 {p : Program} {l : Launch} {e : Env} {s : State} {m : MethodId} {args : Array Value} {below : List Frame} {meth : Method} {c : Code} {E : EN} {G : GM} {X : Xm} (C0 : CX p s m args meth c E cL_goes RL 14) (hr : meth.sig.returnType = (some .int)) (hz : s.heap.size + 0 ≤ eB E + G.1) {rr : Int32 × Im} (fl : Nat) (zr277 : Im → Nat → Nat → Nat → Nat → Int32 → Int32 → Option (Int32 × Im)) (zhr277 : ∀ (I : Im) (H : Heap) (locs : List Loc) (ls : Array Slot) (zx0 : Nat) (zx2 : Nat) (zx3 : Nat) (zx4 : Nat) (zx9 : Int32) (zx12 : Int32) (zt0 : okA E G 11 zx0) (zt2 : okA E G 11 zx2) (zt3 : okA E G 11 zx3) (zt4 : okA E G 11 zx4), WD E G I X s.heap H locs → lv_has ls 14 [(0, .ref zx0), (2, .ref zx2), (3, .ref zx3), (4, .ref zx4), (9, .int zx9), (12, .int zx12)] → zr277 I zx0 zx2 zx3 zx4 zx9 zx12 = some rr → W p l e ({ frames := 2, cells := 0, slots := 0, locals := 56 } : Room) s m args below meth c H locs 0 0 (MQ below (QI E G rr.1 rr.2 X) args s 0 0 (eA E)) (F0 m 277 ls [])) : ∀ (I : Im) (H : Heap) (locs : List Loc) (ls : Array Slot) (zx0 : Nat) (zx2 : Nat) (zx3 : Nat) (zx4 : Nat) (zx9 : Int32) (zx12 : Int32) (zt0 : okA E G 11 zx0) (zt2 : okA E G 11 zx2) (zt3 : okA E G 11 zx3) (zt4 : okA E G 11 zx4), WD E G I X s.heap H locs → lv_has ls 14 [(0, .ref zx0), (2, .ref zx2), (3, .ref zx3), (4, .ref zx4), (9, .int zx9), (12, .int zx12)] → m9_goes_347 fl G.2.2 X zr277 I zx0 zx2 zx3 zx4 zx9 zx12 = some rr → W p l e ({ frames := 2, cells := 0, slots := 0, locals := 56 } : Room) s m args below meth c H locs 0 0 (MQ below (QI E G rr.1 rr.2 X) args s 0 0 (eA E)) (F0 m 347 ls []) := by
  intro I H locs ls zx0 zx2 zx3 zx4 zx9 zx12 zt0 zt2 zt3 zt4 hw hl hf
  unfold m9_goes_347 at hf
  have hx := C0.1; have hb := C0.2.1; have hml := C0.2.2.1; have hown := C0.2.2.2.1; have hts := C0.2.2.2.2.1
  refine lv_aload_n hx hb dL_goes_347 rfl (lv_at hl 0 rfl) ?_
  refine lv_aload_n hx hb dL_goes_348 rfl (lv_at hl 1 rfl) ?_
  refine lv_iload hx hb dL_goes_349 (lv_at hl 5 rfl) ?_
  obtain ⟨zv1, ze2, hf⟩ := nn_some hf
  refine x_ci (r := zv1) (I1 := I) (X1 := X) (x_runS (As := [.ref zx0, .ref zx2, .int zx12]) (rest := []) C0 (c9_nextOf l E G fl X I zx0 zx2 zx12 zt0 zt2 ze2) hw wd83 wd427 wd428 wd422 ⟨rfl, rfl⟩ hy9_nextOf ⟨Nat.le_of_ble_eq_true rfl, Nat.le_of_ble_eq_true rfl⟩ rfl hl.1 (Nat.le_of_ble_eq_true rfl) ⟨Nat.zero_le _, Nat.zero_le _⟩ dL_goes_351) hw (fun H locs hw => ?_)
  refine lv_istore (lv' := [(13, .int zv1), (0, .ref zx0), (2, .ref zx2), (3, .ref zx3), (4, .ref zx4), (9, .int zx9), (12, .int zx12)]) hx hb dL_goes_354 hl (by decide) rfl (fun ls hl => ?_)
  refine lv_aload_n hx hb dL_goes_356 rfl (lv_at hl 3 rfl) ?_
  refine lv_iconst (v := (4 : Int32)) hx hb dL_goes_357 (by decide) ?_
  refine lv_iload hx hb dL_goes_358 (lv_at hl 6 rfl) ?_
  refine lv_imul hx hb dL_goes_360 ?_
  refine lv_iconst (v := (1 : Int32)) hx hb dL_goes_361 (by decide) ?_
  refine lv_iadd hx hb dL_goes_362 ?_
  obtain ⟨zhb3, hf⟩ := ck_some hf
  refine x_iald C0 hw zt3 zhb3 dL_goes_363 ?_
  refine lv_if_ne (tgt := 408) hx hb dL_goes_364 (by decide) (fun zc4 => ?_) (fun zc4 => ?_)
  · have hf := ite_f hf zc4
    exact w9_goes_408 C0 hr hz fl zr277 zhr277 I _ _ _ zx0 zx2 zx3 zx4 zx9 zx12 zt0 zt2 zt3 zt4 hw (lv_sub hl [1, 2, 3, 4, 5, 6] rfl) hf
  · have hf := ite_t hf zc4
    refine lv_iload hx hb dL_goes_367 (lv_at hl 0 rfl) ?_
    refine lv_if_lt (tgt := 408) hx hb dL_goes_369 (by decide) (fun zc5 => ?_) (fun zc5 => ?_)
    · have hf := ite_t hf zc5
      exact w9_goes_408 C0 hr hz fl zr277 zhr277 I _ _ _ zx0 zx2 zx3 zx4 zx9 zx12 zt0 zt2 zt3 zt4 hw (lv_sub hl [1, 2, 3, 4, 5, 6] rfl) hf
    · have hf := ite_f hf zc5
      refine lv_aload_n hx hb dL_goes_372 rfl (lv_at hl 3 rfl) ?_
      refine lv_iconst (v := (4 : Int32)) hx hb dL_goes_373 (by decide) ?_
      refine lv_iload hx hb dL_goes_374 (lv_at hl 6 rfl) ?_
      refine lv_imul hx hb dL_goes_376 ?_
      refine lv_aload_n hx hb dL_goes_377 rfl (lv_at hl 3 rfl) ?_
      refine lv_iconst (v := (4 : Int32)) hx hb dL_goes_378 (by decide) ?_
      refine lv_iload hx hb dL_goes_379 (lv_at hl 6 rfl) ?_
      refine lv_imul hx hb dL_goes_381 ?_
      obtain ⟨zhb6, hf⟩ := ck_some hf
      refine x_iald C0 hw zt3 zhb6 dL_goes_382 ?_
      refine lv_aload hx hb dL_goes_383 (lv_at hl 4 rfl) ?_
      refine lv_iload hx hb dL_goes_385 (lv_at hl 6 rfl) ?_
      refine lv_aload_n hx hb dL_goes_387 rfl (lv_at hl 2 rfl) ?_
      refine lv_iload hx hb dL_goes_388 (lv_at hl 0 rfl) ?_
      obtain ⟨zhb7, hf⟩ := ck_some hf
      refine x_iald C0 hw zt2 zhb7 dL_goes_390 ?_
      refine lv_bipush (v := (16 : Int32)) hx hb dL_goes_391 (by decide) ?_
      refine lv_idiv hx hb dL_goes_393 (by decide) ?_
      refine lv_sipush (v := (128 : Int32)) hx hb dL_goes_394 (by decide) ?_
      refine lv_irem hx hb dL_goes_397 (by decide) ?_
      obtain ⟨zv8, ze9, hf⟩ := nn_some hf
      refine x_ci (r := zv8) (I1 := I) (X1 := X) (x_runS (As := [.ref zx4, .int zx12, .int (((gA I zx2 (zv1).toNatClampNeg) / (16 : Int32)) - ((gA I zx2 (zv1).toNatClampNeg) / (16 : Int32)) / (128 : Int32) * (128 : Int32))]) (rest := [.int (gA I zx3 (((4 : Int32) * zx12)).toNatClampNeg), .int ((4 : Int32) * zx12), .ref zx3]) C0 (c9_begins l E G fl X I zx4 zx12 (((gA I zx2 (zv1).toNatClampNeg) / (16 : Int32)) - ((gA I zx2 (zv1).toNatClampNeg) / (16 : Int32)) / (128 : Int32) * (128 : Int32)) zt4 ze9) hw wd80 wd420 wd421 wd422 ⟨rfl, rfl⟩ hy9_begins ⟨Nat.le_of_ble_eq_true rfl, Nat.le_of_ble_eq_true rfl⟩ rfl hl.1 (Nat.le_of_ble_eq_true rfl) ⟨Nat.zero_le _, Nat.zero_le _⟩ dL_goes_398) hw (fun H locs hw => ?_)
      refine lv_aload_n hx hb dL_goes_401 rfl (lv_at hl 1 rfl) ?_
      refine lv_iconst (v := (0 : Int32)) hx hb dL_goes_402 (by decide) ?_
      obtain ⟨zhb10, hf⟩ := ck_some hf
      refine x_iald C0 hw zt0 zhb10 dL_goes_403 ?_
      obtain ⟨zv11, ze12, hf⟩ := nn_some hf
      refine x_ci (r := zv11) (I1 := I) (X1 := X) (x_runS (As := [.int (gA I zx3 (((4 : Int32) * zx12)).toNatClampNeg), .int zv8, .int (gA I zx0 ((0 : Int32)).toNatClampNeg)]) (rest := [.int ((4 : Int32) * zx12), .ref zx3]) C0 (c9_toward l E G fl X I (gA I zx3 (((4 : Int32) * zx12)).toNatClampNeg) zv8 (gA I zx0 ((0 : Int32)).toNatClampNeg) ze12) hw wd81 wd425 wd426 wd422 ⟨rfl, rfl⟩ hy9_toward ⟨Nat.le_of_ble_eq_true rfl, Nat.le_of_ble_eq_true rfl⟩ rfl hl.1 (Nat.le_of_ble_eq_true rfl) ⟨Nat.zero_le _, Nat.zero_le _⟩ dL_goes_404) hw (fun H locs hw => ?_)
      obtain ⟨zI13, ezI13⟩ : ∃ y : Im, y = pA I zx3 (((4 : Int32) * zx12)).toNatClampNeg zv11 := ⟨_, rfl⟩
      have hf := lt_at hf ezI13
      refine x_iast C0 hz hw zt3 zhb6 dL_goes_407 ezI13 (fun H locs hw => ?_)
      exact w9_goes_408 C0 hr hz fl zr277 zhr277 zI13 _ _ _ zx0 zx2 zx3 zx4 zx9 zx12 zt0 zt2 zt3 zt4 hw (lv_sub hl [1, 2, 3, 4, 5, 6] rfl) hf
noncomputable def m9_goes_346 (fl : Nat) (len : Nat → Nat) (X : Xm) (zr277 : Im → Nat → Nat → Nat → Nat → Int32 → Int32 → Option (Int32 × Im)) (I : Im) (zx0 : Nat) (zx2 : Nat) (zx3 : Nat) (zx4 : Nat) (zx9 : Int32) (zx12 : Int32) (zs0 : Nat) (zs1 : Int32) (zs2 : Int32) : Option (Int32 × Im) :=
  ck (inb zs1 (len zs0) = true) <|
  lt (pA I zs0 (zs1).toNatClampNeg zs2) fun zI2 =>
  m9_goes_347 fl len X zr277 zI2 zx0 zx2 zx3 zx4 zx9 zx12
set_option maxHeartbeats 4000000 in
set_option maxRecDepth 100000 in
theorem w9_goes_346 {p : Program} {l : Launch} {e : Env} {s : State} {m : MethodId} {args : Array Value} {below : List Frame} {meth : Method} {c : Code} {E : EN} {G : GM} {X : Xm} (C0 : CX p s m args meth c E cL_goes RL 14) (hr : meth.sig.returnType = (some .int)) (hz : s.heap.size + 0 ≤ eB E + G.1) {rr : Int32 × Im} (fl : Nat) (zr277 : Im → Nat → Nat → Nat → Nat → Int32 → Int32 → Option (Int32 × Im)) (zhr277 : ∀ (I : Im) (H : Heap) (locs : List Loc) (ls : Array Slot) (zx0 : Nat) (zx2 : Nat) (zx3 : Nat) (zx4 : Nat) (zx9 : Int32) (zx12 : Int32) (zt0 : okA E G 11 zx0) (zt2 : okA E G 11 zx2) (zt3 : okA E G 11 zx3) (zt4 : okA E G 11 zx4), WD E G I X s.heap H locs → lv_has ls 14 [(0, .ref zx0), (2, .ref zx2), (3, .ref zx3), (4, .ref zx4), (9, .int zx9), (12, .int zx12)] → zr277 I zx0 zx2 zx3 zx4 zx9 zx12 = some rr → W p l e ({ frames := 2, cells := 0, slots := 0, locals := 56 } : Room) s m args below meth c H locs 0 0 (MQ below (QI E G rr.1 rr.2 X) args s 0 0 (eA E)) (F0 m 277 ls [])) : ∀ (I : Im) (H : Heap) (locs : List Loc) (ls : Array Slot) (zx0 : Nat) (zx2 : Nat) (zx3 : Nat) (zx4 : Nat) (zx9 : Int32) (zx12 : Int32) (zs0 : Nat) (zs1 : Int32) (zs2 : Int32) (zt0 : okA E G 11 zx0) (zt2 : okA E G 11 zx2) (zt3 : okA E G 11 zx3) (zt4 : okA E G 11 zx4) (zts0 : okA E G 11 zs0), WD E G I X s.heap H locs → lv_has ls 14 [(0, .ref zx0), (2, .ref zx2), (3, .ref zx3), (4, .ref zx4), (9, .int zx9), (12, .int zx12)] → m9_goes_346 fl G.2.2 X zr277 I zx0 zx2 zx3 zx4 zx9 zx12 zs0 zs1 zs2 = some rr → W p l e ({ frames := 2, cells := 0, slots := 0, locals := 56 } : Room) s m args below meth c H locs 0 0 (MQ below (QI E G rr.1 rr.2 X) args s 0 0 (eA E)) (F0 m 346 ls [.int zs2, .int zs1, .ref zs0]) := by
  intro I H locs ls zx0 zx2 zx3 zx4 zx9 zx12 zs0 zs1 zs2 zt0 zt2 zt3 zt4 zts0 hw hl hf
  unfold m9_goes_346 at hf
  have hx := C0.1; have hb := C0.2.1; have hml := C0.2.2.1; have hown := C0.2.2.2.1; have hts := C0.2.2.2.2.1
  obtain ⟨zhb1, hf⟩ := ck_some hf
  obtain ⟨zI2, ezI2⟩ : ∃ y : Im, y = pA I zs0 (zs1).toNatClampNeg zs2 := ⟨_, rfl⟩
  have hf := lt_at hf ezI2
  refine x_iast C0 hz hw zts0 zhb1 dL_goes_346 ezI2 (fun H locs hw => ?_)
  exact w9_goes_347 C0 hr hz fl zr277 zhr277 zI2 _ _ _ zx0 zx2 zx3 zx4 zx9 zx12 zt0 zt2 zt3 zt4 hw (lv_sub hl [0, 1, 2, 3, 4, 5] rfl) hf
noncomputable def m9_goes_277b (fl : Nat) (len : Nat → Nat) (X : Xm) (zr277 : Im → Nat → Nat → Nat → Nat → Int32 → Int32 → Option (Int32 × Im)) (I : Im) (zx0 : Nat) (zx2 : Nat) (zx3 : Nat) (zx4 : Nat) (zx9 : Int32) (zx12 : Int32) : Option (Int32 × Im) :=
  if (4 : Int32) ≤ zx12 then
    ck (inb (4 : Int32) (len zx0) = true) <|
    lt (pA I zx0 ((4 : Int32)).toNatClampNeg ((gA I zx0 ((4 : Int32)).toNatClampNeg) + (1 : Int32))) fun zI3 =>
    some (zx9, zI3)
  else
    ck (inb (((4 : Int32) * zx12) + (1 : Int32)) (len zx3) = true) <|
    if (gA I zx3 ((((4 : Int32) * zx12) + (1 : Int32))).toNatClampNeg) ≤ 0 then
      m9_goes_347 fl len X zr277 I zx0 zx2 zx3 zx4 zx9 zx12
    else
      ck (inb ((4 : Int32) * zx12) (len zx3) = true) <|
      lt (pA I zx3 (((4 : Int32) * zx12)).toNatClampNeg ((gA I zx3 (((4 : Int32) * zx12)).toNatClampNeg) + (1 : Int32))) fun zI7 =>
      ck (inb (((4 : Int32) * zx12) + (2 : Int32)) (len zx3) = true) <|
      lt (pA zI7 zx3 ((((4 : Int32) * zx12) + (2 : Int32))).toNatClampNeg ((gA zI7 zx3 ((((4 : Int32) * zx12) + (2 : Int32))).toNatClampNeg) - (1 : Int32))) fun zI9 =>
      if (gA zI9 zx3 ((((4 : Int32) * zx12) + (2 : Int32))).toNatClampNeg) ≤ 0 then
        m9_goes_346 fl len X zr277 zI9 zx0 zx2 zx3 zx4 zx9 zx12 zx3 (((4 : Int32) * zx12) + (1 : Int32)) (0 : Int32)
      else
        m9_goes_346 fl len X zr277 zI9 zx0 zx2 zx3 zx4 zx9 zx12 zx3 (((4 : Int32) * zx12) + (1 : Int32)) (gA zI9 zx3 ((((4 : Int32) * zx12) + (1 : Int32))).toNatClampNeg)
noncomputable def m9_goes_277 (fl : Nat) (len : Nat → Nat) (X : Xm) (n : Nat) : Im → Nat → Nat → Nat → Nat → Int32 → Int32 → Option (Int32 × Im) :=
  Nat.rec (fun _ _ _ _ _ _ _ => none) (fun _ r => m9_goes_277b fl len X r) n
set_option maxHeartbeats 4000000 in
set_option maxRecDepth 100000 in
theorem w9_goes_277b {p : Program} {l : Launch} {e : Env} {s : State} {m : MethodId} {args : Array Value} {below : List Frame} {meth : Method} {c : Code} {E : EN} {G : GM} {X : Xm} (C0 : CX p s m args meth c E cL_goes RL 14) (hr : meth.sig.returnType = (some .int)) (hz : s.heap.size + 0 ≤ eB E + G.1) {rr : Int32 × Im} (fl : Nat) (zr277 : Im → Nat → Nat → Nat → Nat → Int32 → Int32 → Option (Int32 × Im)) (zhr277 : ∀ (I : Im) (H : Heap) (locs : List Loc) (ls : Array Slot) (zx0 : Nat) (zx2 : Nat) (zx3 : Nat) (zx4 : Nat) (zx9 : Int32) (zx12 : Int32) (zt0 : okA E G 11 zx0) (zt2 : okA E G 11 zx2) (zt3 : okA E G 11 zx3) (zt4 : okA E G 11 zx4), WD E G I X s.heap H locs → lv_has ls 14 [(0, .ref zx0), (2, .ref zx2), (3, .ref zx3), (4, .ref zx4), (9, .int zx9), (12, .int zx12)] → zr277 I zx0 zx2 zx3 zx4 zx9 zx12 = some rr → W p l e ({ frames := 2, cells := 0, slots := 0, locals := 56 } : Room) s m args below meth c H locs 0 0 (MQ below (QI E G rr.1 rr.2 X) args s 0 0 (eA E)) (F0 m 277 ls [])) : ∀ (I : Im) (H : Heap) (locs : List Loc) (ls : Array Slot) (zx0 : Nat) (zx2 : Nat) (zx3 : Nat) (zx4 : Nat) (zx9 : Int32) (zx12 : Int32) (zt0 : okA E G 11 zx0) (zt2 : okA E G 11 zx2) (zt3 : okA E G 11 zx3) (zt4 : okA E G 11 zx4), WD E G I X s.heap H locs → lv_has ls 14 [(0, .ref zx0), (2, .ref zx2), (3, .ref zx3), (4, .ref zx4), (9, .int zx9), (12, .int zx12)] → m9_goes_277b fl G.2.2 X zr277 I zx0 zx2 zx3 zx4 zx9 zx12 = some rr → W p l e ({ frames := 2, cells := 0, slots := 0, locals := 56 } : Room) s m args below meth c H locs 0 0 (MQ below (QI E G rr.1 rr.2 X) args s 0 0 (eA E)) (F0 m 277 ls []) := by
  intro I H locs ls zx0 zx2 zx3 zx4 zx9 zx12 zt0 zt2 zt3 zt4 hw hl hf
  unfold m9_goes_277b at hf
  have hx := C0.1; have hb := C0.2.1; have hml := C0.2.2.1; have hown := C0.2.2.2.1; have hts := C0.2.2.2.2.1
  refine lv_iload hx hb dL_goes_277 (lv_at hl 5 rfl) ?_
  refine lv_iconst (v := (4 : Int32)) hx hb dL_goes_279 (by decide) ?_
  refine lv_icmp_ge (tgt := 414) hx hb dL_goes_280 (by decide) (fun zc1 => ?_) (fun zc1 => ?_)
  · have hf := ite_t hf zc1
    refine lv_aload_n hx hb dL_goes_414 rfl (lv_at hl 0 rfl) ?_
    refine lv_iconst (v := (4 : Int32)) hx hb dL_goes_415 (by decide) ?_
    refine lv_dup2_11 hx hb dL_goes_416 rfl rfl ?_
    obtain ⟨zhb2, hf⟩ := ck_some hf
    refine x_iald C0 hw zt0 zhb2 dL_goes_417 ?_
    refine lv_iconst (v := (1 : Int32)) hx hb dL_goes_418 (by decide) ?_
    refine lv_iadd hx hb dL_goes_419 ?_
    obtain ⟨zI3, ezI3⟩ : ∃ y : Im, y = pA I zx0 ((4 : Int32)).toNatClampNeg ((gA I zx0 ((4 : Int32)).toNatClampNeg) + (1 : Int32)) := ⟨_, rfl⟩
    have hf := lt_at hf ezI3
    refine x_iast C0 hz hw zt0 zhb2 dL_goes_420 ezI3 (fun H locs hw => ?_)
    refine lv_iload hx hb dL_goes_421 (lv_at hl 4 rfl) ?_
    obtain rfl := Option.some.inj hf
    exact x_iret C0 hr hw dL_goes_423
  · have hf := ite_f hf zc1
    refine lv_aload_n hx hb dL_goes_283 rfl (lv_at hl 2 rfl) ?_
    refine lv_iconst (v := (4 : Int32)) hx hb dL_goes_284 (by decide) ?_
    refine lv_iload hx hb dL_goes_285 (lv_at hl 5 rfl) ?_
    refine lv_imul hx hb dL_goes_287 ?_
    refine lv_iconst (v := (1 : Int32)) hx hb dL_goes_288 (by decide) ?_
    refine lv_iadd hx hb dL_goes_289 ?_
    obtain ⟨zhb4, hf⟩ := ck_some hf
    refine x_iald C0 hw zt3 zhb4 dL_goes_290 ?_
    refine lv_if_le (tgt := 347) hx hb dL_goes_291 (by decide) (fun zc5 => ?_) (fun zc5 => ?_)
    · have hf := ite_t hf zc5
      exact w9_goes_347 C0 hr hz fl zr277 zhr277 I _ _ _ zx0 zx2 zx3 zx4 zx9 zx12 zt0 zt2 zt3 zt4 hw (lv_sub hl [0, 1, 2, 3, 4, 5] rfl) hf
    · have hf := ite_f hf zc5
      refine lv_aload_n hx hb dL_goes_294 rfl (lv_at hl 2 rfl) ?_
      refine lv_iconst (v := (4 : Int32)) hx hb dL_goes_295 (by decide) ?_
      refine lv_iload hx hb dL_goes_296 (lv_at hl 5 rfl) ?_
      refine lv_imul hx hb dL_goes_298 ?_
      refine lv_dup2_11 hx hb dL_goes_299 rfl rfl ?_
      obtain ⟨zhb6, hf⟩ := ck_some hf
      refine x_iald C0 hw zt3 zhb6 dL_goes_300 ?_
      refine lv_iconst (v := (1 : Int32)) hx hb dL_goes_301 (by decide) ?_
      refine lv_iadd hx hb dL_goes_302 ?_
      obtain ⟨zI7, ezI7⟩ : ∃ y : Im, y = pA I zx3 (((4 : Int32) * zx12)).toNatClampNeg ((gA I zx3 (((4 : Int32) * zx12)).toNatClampNeg) + (1 : Int32)) := ⟨_, rfl⟩
      have hf := lt_at hf ezI7
      refine x_iast C0 hz hw zt3 zhb6 dL_goes_303 ezI7 (fun H locs hw => ?_)
      refine lv_aload_n hx hb dL_goes_304 rfl (lv_at hl 2 rfl) ?_
      refine lv_iconst (v := (4 : Int32)) hx hb dL_goes_305 (by decide) ?_
      refine lv_iload hx hb dL_goes_306 (lv_at hl 5 rfl) ?_
      refine lv_imul hx hb dL_goes_308 ?_
      refine lv_iconst (v := (2 : Int32)) hx hb dL_goes_309 (by decide) ?_
      refine lv_iadd hx hb dL_goes_310 ?_
      refine lv_dup2_11 hx hb dL_goes_311 rfl rfl ?_
      obtain ⟨zhb8, hf⟩ := ck_some hf
      refine x_iald C0 hw zt3 zhb8 dL_goes_312 ?_
      refine lv_iconst (v := (1 : Int32)) hx hb dL_goes_313 (by decide) ?_
      refine lv_isub hx hb dL_goes_314 ?_
      obtain ⟨zI9, ezI9⟩ : ∃ y : Im, y = pA zI7 zx3 ((((4 : Int32) * zx12) + (2 : Int32))).toNatClampNeg ((gA zI7 zx3 ((((4 : Int32) * zx12) + (2 : Int32))).toNatClampNeg) - (1 : Int32)) := ⟨_, rfl⟩
      have hf := lt_at hf ezI9
      refine x_iast C0 hz hw zt3 zhb8 dL_goes_315 ezI9 (fun H locs hw => ?_)
      refine lv_aload_n hx hb dL_goes_316 rfl (lv_at hl 2 rfl) ?_
      refine lv_iconst (v := (4 : Int32)) hx hb dL_goes_317 (by decide) ?_
      refine lv_iload hx hb dL_goes_318 (lv_at hl 5 rfl) ?_
      refine lv_imul hx hb dL_goes_320 ?_
      refine lv_iconst (v := (1 : Int32)) hx hb dL_goes_321 (by decide) ?_
      refine lv_iadd hx hb dL_goes_322 ?_
      refine lv_aload_n hx hb dL_goes_323 rfl (lv_at hl 2 rfl) ?_
      refine lv_iconst (v := (4 : Int32)) hx hb dL_goes_324 (by decide) ?_
      refine lv_iload hx hb dL_goes_325 (lv_at hl 5 rfl) ?_
      refine lv_imul hx hb dL_goes_327 ?_
      refine lv_iconst (v := (2 : Int32)) hx hb dL_goes_328 (by decide) ?_
      refine lv_iadd hx hb dL_goes_329 ?_
      refine x_iald C0 hw zt3 zhb8 dL_goes_330 ?_
      refine lv_if_le (tgt := 345) hx hb dL_goes_331 (by decide) (fun zc10 => ?_) (fun zc10 => ?_)
      · have hf := ite_t hf zc10
        refine lv_iconst (v := (0 : Int32)) hx hb dL_goes_345 (by decide) ?_
        exact w9_goes_346 C0 hr hz fl zr277 zhr277 zI9 _ _ _ zx0 zx2 zx3 zx4 zx9 zx12 zx3 (((4 : Int32) * zx12) + (1 : Int32)) (0 : Int32) zt0 zt2 zt3 zt4 zt3 hw (lv_sub hl [0, 1, 2, 3, 4, 5] rfl) hf
      · have hf := ite_f hf zc10
        refine lv_aload_n hx hb dL_goes_334 rfl (lv_at hl 2 rfl) ?_
        refine lv_iconst (v := (4 : Int32)) hx hb dL_goes_335 (by decide) ?_
        refine lv_iload hx hb dL_goes_336 (lv_at hl 5 rfl) ?_
        refine lv_imul hx hb dL_goes_338 ?_
        refine lv_iconst (v := (1 : Int32)) hx hb dL_goes_339 (by decide) ?_
        refine lv_iadd hx hb dL_goes_340 ?_
        refine x_iald C0 hw zt3 zhb4 dL_goes_341 ?_
        refine lv_goto (tgt := 346) hx hb dL_goes_342 (by decide) ?_
        exact w9_goes_346 C0 hr hz fl zr277 zhr277 zI9 _ _ _ zx0 zx2 zx3 zx4 zx9 zx12 zx3 (((4 : Int32) * zx12) + (1 : Int32)) (gA zI9 zx3 ((((4 : Int32) * zx12) + (1 : Int32))).toNatClampNeg) zt0 zt2 zt3 zt4 zt3 hw (lv_sub hl [0, 1, 2, 3, 4, 5] rfl) hf
theorem w9_goes_277 {p : Program} {l : Launch} {e : Env} {s : State} {m : MethodId} {args : Array Value} {below : List Frame} {meth : Method} {c : Code} {E : EN} {G : GM} {X : Xm} (C0 : CX p s m args meth c E cL_goes RL 14) (hr : meth.sig.returnType = (some .int)) (hz : s.heap.size + 0 ≤ eB E + G.1) {rr : Int32 × Im} (fl : Nat) : ∀ (n : Nat) (I : Im) (H : Heap) (locs : List Loc) (ls : Array Slot) (zx0 : Nat) (zx2 : Nat) (zx3 : Nat) (zx4 : Nat) (zx9 : Int32) (zx12 : Int32) (zt0 : okA E G 11 zx0) (zt2 : okA E G 11 zx2) (zt3 : okA E G 11 zx3) (zt4 : okA E G 11 zx4), WD E G I X s.heap H locs → lv_has ls 14 [(0, .ref zx0), (2, .ref zx2), (3, .ref zx3), (4, .ref zx4), (9, .int zx9), (12, .int zx12)] → m9_goes_277 fl G.2.2 X n I zx0 zx2 zx3 zx4 zx9 zx12 = some rr → W p l e ({ frames := 2, cells := 0, slots := 0, locals := 56 } : Room) s m args below meth c H locs 0 0 (MQ below (QI E G rr.1 rr.2 X) args s 0 0 (eA E)) (F0 m 277 ls []) := by
  intro n
  induction n with
  | zero => intro I H locs ls zx0 zx2 zx3 zx4 zx9 zx12 zt0 zt2 zt3 zt4 hw hl hf; exact absurd (show (none : Option (Int32 × Im)) = some rr from hf) (by simp)
  | succ n ih => intro I H locs ls zx0 zx2 zx3 zx4 zx9 zx12 zt0 zt2 zt3 zt4 hw hl hf; exact w9_goes_277b C0 hr hz fl _ ih I H locs ls zx0 zx2 zx3 zx4 zx9 zx12 zt0 zt2 zt3 zt4 hw hl hf
noncomputable def m9_goes_248 (fl : Nat) (len : Nat → Nat) (X : Xm) (zr175 : Im → Nat → Nat → Nat → Nat → Nat → Nat → Nat → Int32 → Int32 → Int32 → Int32 → Option (Int32 × Im)) (I : Im) (zx0 : Nat) (zx2 : Nat) (zx3 : Nat) (zx4 : Nat) (zx5 : Nat) (zx6 : Nat) (zx8 : Nat) (zx9 : Int32) (zx10 : Int32) (zx12 : Int32) (zs0 : Int32) (zs1 : Int32) : Option (Int32 × Im) :=
  lt ((zs0 + zs1)) fun zv1 =>
  lt (zx12 + 1) fun zv2 =>
  zr175 I zx0 zx2 zx3 zx4 zx5 zx6 zx8 zx9 zx10 zv1 zv2
set_option maxHeartbeats 4000000 in
set_option maxRecDepth 100000 in
theorem w9_goes_248 {p : Program} {l : Launch} {e : Env} {s : State} {m : MethodId} {args : Array Value} {below : List Frame} {meth : Method} {c : Code} {E : EN} {G : GM} {X : Xm} (C0 : CX p s m args meth c E cL_goes RL 14) (hr : meth.sig.returnType = (some .int)) (hz : s.heap.size + 0 ≤ eB E + G.1) {rr : Int32 × Im} (fl : Nat) (zr175 : Im → Nat → Nat → Nat → Nat → Nat → Nat → Nat → Int32 → Int32 → Int32 → Int32 → Option (Int32 × Im)) (zhr175 : ∀ (I : Im) (H : Heap) (locs : List Loc) (ls : Array Slot) (zx0 : Nat) (zx2 : Nat) (zx3 : Nat) (zx4 : Nat) (zx5 : Nat) (zx6 : Nat) (zx8 : Nat) (zx9 : Int32) (zx10 : Int32) (zx11 : Int32) (zx12 : Int32) (zt0 : okA E G 11 zx0) (zt2 : okA E G 11 zx2) (zt3 : okA E G 11 zx3) (zt4 : okA E G 11 zx4) (zt5 : okA E G 11 zx5) (zt6 : okA E G 11 zx6) (zt8 : okA E G 11 zx8), WD E G I X s.heap H locs → lv_has ls 14 [(0, .ref zx0), (2, .ref zx2), (3, .ref zx3), (4, .ref zx4), (5, .ref zx5), (6, .ref zx6), (8, .ref zx8), (9, .int zx9), (10, .int zx10), (11, .int zx11), (12, .int zx12)] → zr175 I zx0 zx2 zx3 zx4 zx5 zx6 zx8 zx9 zx10 zx11 zx12 = some rr → W p l e ({ frames := 2, cells := 0, slots := 0, locals := 56 } : Room) s m args below meth c H locs 0 0 (MQ below (QI E G rr.1 rr.2 X) args s 0 0 (eA E)) (F0 m 175 ls [])) : ∀ (I : Im) (H : Heap) (locs : List Loc) (ls : Array Slot) (zx0 : Nat) (zx2 : Nat) (zx3 : Nat) (zx4 : Nat) (zx5 : Nat) (zx6 : Nat) (zx8 : Nat) (zx9 : Int32) (zx10 : Int32) (zx12 : Int32) (zs0 : Int32) (zs1 : Int32) (zt0 : okA E G 11 zx0) (zt2 : okA E G 11 zx2) (zt3 : okA E G 11 zx3) (zt4 : okA E G 11 zx4) (zt5 : okA E G 11 zx5) (zt6 : okA E G 11 zx6) (zt8 : okA E G 11 zx8), WD E G I X s.heap H locs → lv_has ls 14 [(0, .ref zx0), (2, .ref zx2), (3, .ref zx3), (4, .ref zx4), (5, .ref zx5), (6, .ref zx6), (8, .ref zx8), (9, .int zx9), (10, .int zx10), (12, .int zx12)] → m9_goes_248 fl G.2.2 X zr175 I zx0 zx2 zx3 zx4 zx5 zx6 zx8 zx9 zx10 zx12 zs0 zs1 = some rr → W p l e ({ frames := 2, cells := 0, slots := 0, locals := 56 } : Room) s m args below meth c H locs 0 0 (MQ below (QI E G rr.1 rr.2 X) args s 0 0 (eA E)) (F0 m 248 ls [.int zs1, .int zs0]) := by
  intro I H locs ls zx0 zx2 zx3 zx4 zx5 zx6 zx8 zx9 zx10 zx12 zs0 zs1 zt0 zt2 zt3 zt4 zt5 zt6 zt8 hw hl hf
  unfold m9_goes_248 at hf
  have hx := C0.1; have hb := C0.2.1; have hml := C0.2.2.1; have hown := C0.2.2.2.1; have hts := C0.2.2.2.2.1
  refine lv_iadd hx hb dL_goes_248 ?_
  refine lv_topi (fun zv1 ezv1 => ?_)
  have hf := lt_at hf ezv1
  refine lv_istore (lv' := [(11, .int zv1), (0, .ref zx0), (2, .ref zx2), (3, .ref zx3), (4, .ref zx4), (5, .ref zx5), (6, .ref zx6), (8, .ref zx8), (9, .int zx9), (10, .int zx10), (12, .int zx12)]) hx hb dL_goes_249 hl (by decide) rfl (fun ls hl => ?_)
  obtain ⟨zv2, ezv2⟩ : ∃ y : Int32, y = zx12 + 1 := ⟨_, rfl⟩
  have hf := lt_at hf ezv2
  refine lv_iinc (v := zv2) (lv' := [(12, .int zv2), (11, .int zv1), (0, .ref zx0), (2, .ref zx2), (3, .ref zx3), (4, .ref zx4), (5, .ref zx5), (6, .ref zx6), (8, .ref zx8), (9, .int zx9), (10, .int zx10)]) hx hb dL_goes_251 hl (k := 10) rfl (by rw [ezv2]; rfl) (by decide) rfl (fun ls hl => ?_)
  refine lv_goto (tgt := 175) hx hb dL_goes_254 (by decide) ?_
  exact zhr175 I _ _ _ zx0 zx2 zx3 zx4 zx5 zx6 zx8 zx9 zx10 zv1 zv2 zt0 zt2 zt3 zt4 zt5 zt6 zt8 hw (lv_sub hl [2, 3, 4, 5, 6, 7, 8, 9, 10, 1, 0] rfl) hf
noncomputable def m9_goes_175b (fl : Nat) (len : Nat → Nat) (X : Xm) (zr175 : Im → Nat → Nat → Nat → Nat → Nat → Nat → Nat → Int32 → Int32 → Int32 → Int32 → Option (Int32 × Im)) (I : Im) (zx0 : Nat) (zx2 : Nat) (zx3 : Nat) (zx4 : Nat) (zx5 : Nat) (zx6 : Nat) (zx8 : Nat) (zx9 : Int32) (zx10 : Int32) (zx11 : Int32) (zx12 : Int32) : Option (Int32 × Im) :=
  ck (inb (6 : Int32) (len zx0) = true) <|
  if (gA I zx0 ((6 : Int32)).toNatClampNeg) ≤ zx12 then
    lt (pA I zx0 ((6 : Int32)).toNatClampNeg zx11) fun zI3 =>
    ck (inb (4 : Int32) (len zx0) = true) <|
    ck (inb ((gA zI3 zx0 ((4 : Int32)).toNatClampNeg) - (gA zI3 zx0 ((4 : Int32)).toNatClampNeg) / (64 : Int32) * (64 : Int32)) (len zx8) = true) <|
    lt (pA zI3 zx8 (((gA zI3 zx0 ((4 : Int32)).toNatClampNeg) - (gA zI3 zx0 ((4 : Int32)).toNatClampNeg) / (64 : Int32) * (64 : Int32))).toNatClampNeg zx10) fun zI6 =>
    m9_goes_277 fl len X fl zI6 zx0 zx2 zx3 zx4 zx9 (0 : Int32)
  else
    ck (inb zx12 (len zx6) = true) <|
    ck (inb ((2 : Int32) * ((gA I zx6 (zx12).toNatClampNeg) - (gA I zx6 (zx12).toNatClampNeg) / (4 : Int32) * (4 : Int32))) (len zx5) = true) <|
    lt ((zx10 + (((((gA I zx6 (zx12).toNatClampNeg) / (4 : Int32)) - ((gA I zx6 (zx12).toNatClampNeg) / (4 : Int32)) / (128 : Int32) * (128 : Int32)) * (gA I zx5 (((2 : Int32) * ((gA I zx6 (zx12).toNatClampNeg) - (gA I zx6 (zx12).toNatClampNeg) / (4 : Int32) * (4 : Int32)))).toNatClampNeg)) / (50 : Int32)))) fun zv9 =>
    ck (inb zx11 (len zx6) = true) <|
    lt (pA I zx6 (zx11).toNatClampNeg ((gA I zx6 (zx12).toNatClampNeg) - (512 : Int32))) fun zI11 =>
    if (512 : Int32) ≤ (gA zI11 zx6 (zx11).toNatClampNeg) then
      m9_goes_248 fl len X zr175 zI11 zx0 zx2 zx3 zx4 zx5 zx6 zx8 zx9 zv9 zx12 zx11 (1 : Int32)
    else
      m9_goes_248 fl len X zr175 zI11 zx0 zx2 zx3 zx4 zx5 zx6 zx8 zx9 zv9 zx12 zx11 (0 : Int32)
noncomputable def m9_goes_175 (fl : Nat) (len : Nat → Nat) (X : Xm) (n : Nat) : Im → Nat → Nat → Nat → Nat → Nat → Nat → Nat → Int32 → Int32 → Int32 → Int32 → Option (Int32 × Im) :=
  Nat.rec (fun _ _ _ _ _ _ _ _ _ _ _ _ => none) (fun _ r => m9_goes_175b fl len X r) n
set_option maxHeartbeats 4000000 in
set_option maxRecDepth 100000 in
theorem w9_goes_175b {p : Program} {l : Launch} {e : Env} {s : State} {m : MethodId} {args : Array Value} {below : List Frame} {meth : Method} {c : Code} {E : EN} {G : GM} {X : Xm} (C0 : CX p s m args meth c E cL_goes RL 14) (hr : meth.sig.returnType = (some .int)) (hz : s.heap.size + 0 ≤ eB E + G.1) {rr : Int32 × Im} (fl : Nat) (zr175 : Im → Nat → Nat → Nat → Nat → Nat → Nat → Nat → Int32 → Int32 → Int32 → Int32 → Option (Int32 × Im)) (zhr175 : ∀ (I : Im) (H : Heap) (locs : List Loc) (ls : Array Slot) (zx0 : Nat) (zx2 : Nat) (zx3 : Nat) (zx4 : Nat) (zx5 : Nat) (zx6 : Nat) (zx8 : Nat) (zx9 : Int32) (zx10 : Int32) (zx11 : Int32) (zx12 : Int32) (zt0 : okA E G 11 zx0) (zt2 : okA E G 11 zx2) (zt3 : okA E G 11 zx3) (zt4 : okA E G 11 zx4) (zt5 : okA E G 11 zx5) (zt6 : okA E G 11 zx6) (zt8 : okA E G 11 zx8), WD E G I X s.heap H locs → lv_has ls 14 [(0, .ref zx0), (2, .ref zx2), (3, .ref zx3), (4, .ref zx4), (5, .ref zx5), (6, .ref zx6), (8, .ref zx8), (9, .int zx9), (10, .int zx10), (11, .int zx11), (12, .int zx12)] → zr175 I zx0 zx2 zx3 zx4 zx5 zx6 zx8 zx9 zx10 zx11 zx12 = some rr → W p l e ({ frames := 2, cells := 0, slots := 0, locals := 56 } : Room) s m args below meth c H locs 0 0 (MQ below (QI E G rr.1 rr.2 X) args s 0 0 (eA E)) (F0 m 175 ls [])) : ∀ (I : Im) (H : Heap) (locs : List Loc) (ls : Array Slot) (zx0 : Nat) (zx2 : Nat) (zx3 : Nat) (zx4 : Nat) (zx5 : Nat) (zx6 : Nat) (zx8 : Nat) (zx9 : Int32) (zx10 : Int32) (zx11 : Int32) (zx12 : Int32) (zt0 : okA E G 11 zx0) (zt2 : okA E G 11 zx2) (zt3 : okA E G 11 zx3) (zt4 : okA E G 11 zx4) (zt5 : okA E G 11 zx5) (zt6 : okA E G 11 zx6) (zt8 : okA E G 11 zx8), WD E G I X s.heap H locs → lv_has ls 14 [(0, .ref zx0), (2, .ref zx2), (3, .ref zx3), (4, .ref zx4), (5, .ref zx5), (6, .ref zx6), (8, .ref zx8), (9, .int zx9), (10, .int zx10), (11, .int zx11), (12, .int zx12)] → m9_goes_175b fl G.2.2 X zr175 I zx0 zx2 zx3 zx4 zx5 zx6 zx8 zx9 zx10 zx11 zx12 = some rr → W p l e ({ frames := 2, cells := 0, slots := 0, locals := 56 } : Room) s m args below meth c H locs 0 0 (MQ below (QI E G rr.1 rr.2 X) args s 0 0 (eA E)) (F0 m 175 ls []) := by
  intro I H locs ls zx0 zx2 zx3 zx4 zx5 zx6 zx8 zx9 zx10 zx11 zx12 zt0 zt2 zt3 zt4 zt5 zt6 zt8 hw hl hf
  unfold m9_goes_175b at hf
  have hx := C0.1; have hb := C0.2.1; have hml := C0.2.2.1; have hown := C0.2.2.2.1; have hts := C0.2.2.2.2.1
  refine lv_iload hx hb dL_goes_175 (lv_at hl 10 rfl) ?_
  refine lv_aload_n hx hb dL_goes_177 rfl (lv_at hl 0 rfl) ?_
  refine lv_bipush (v := (6 : Int32)) hx hb dL_goes_178 (by decide) ?_
  obtain ⟨zhb1, hf⟩ := ck_some hf
  refine x_iald C0 hw zt0 zhb1 dL_goes_180 ?_
  refine lv_icmp_ge (tgt := 257) hx hb dL_goes_181 (by decide) (fun zc2 => ?_) (fun zc2 => ?_)
  · have hf := ite_t hf zc2
    refine lv_aload_n hx hb dL_goes_257 rfl (lv_at hl 0 rfl) ?_
    refine lv_bipush (v := (6 : Int32)) hx hb dL_goes_258 (by decide) ?_
    refine lv_iload hx hb dL_goes_260 (lv_at hl 9 rfl) ?_
    obtain ⟨zI3, ezI3⟩ : ∃ y : Im, y = pA I zx0 ((6 : Int32)).toNatClampNeg zx11 := ⟨_, rfl⟩
    have hf := lt_at hf ezI3
    refine x_iast C0 hz hw zt0 zhb1 dL_goes_262 ezI3 (fun H locs hw => ?_)
    refine lv_aload hx hb dL_goes_263 (lv_at hl 6 rfl) ?_
    refine lv_aload_n hx hb dL_goes_265 rfl (lv_at hl 0 rfl) ?_
    refine lv_iconst (v := (4 : Int32)) hx hb dL_goes_266 (by decide) ?_
    obtain ⟨zhb4, hf⟩ := ck_some hf
    refine x_iald C0 hw zt0 zhb4 dL_goes_267 ?_
    refine lv_bipush (v := (64 : Int32)) hx hb dL_goes_268 (by decide) ?_
    refine lv_irem hx hb dL_goes_270 (by decide) ?_
    refine lv_iload hx hb dL_goes_271 (lv_at hl 8 rfl) ?_
    obtain ⟨zhb5, hf⟩ := ck_some hf
    obtain ⟨zI6, ezI6⟩ : ∃ y : Im, y = pA zI3 zx8 (((gA zI3 zx0 ((4 : Int32)).toNatClampNeg) - (gA zI3 zx0 ((4 : Int32)).toNatClampNeg) / (64 : Int32) * (64 : Int32))).toNatClampNeg zx10 := ⟨_, rfl⟩
    have hf := lt_at hf ezI6
    refine x_iast C0 hz hw zt8 zhb5 dL_goes_273 ezI6 (fun H locs hw => ?_)
    refine lv_iconst (v := (0 : Int32)) hx hb dL_goes_274 (by decide) ?_
    refine lv_istore (lv' := [(12, .int (0 : Int32)), (0, .ref zx0), (2, .ref zx2), (3, .ref zx3), (4, .ref zx4), (5, .ref zx5), (6, .ref zx6), (8, .ref zx8), (9, .int zx9), (10, .int zx10), (11, .int zx11)]) hx hb dL_goes_275 hl (by decide) rfl (fun ls hl => ?_)
    exact w9_goes_277 C0 hr hz fl fl zI6 _ _ _ zx0 zx2 zx3 zx4 zx9 (0 : Int32) zt0 zt2 zt3 zt4 hw (lv_sub hl [1, 2, 3, 4, 8, 0] rfl) hf
  · have hf := ite_f hf zc2
    refine lv_iload hx hb dL_goes_184 (lv_at hl 8 rfl) ?_
    refine lv_aload hx hb dL_goes_186 (lv_at hl 5 rfl) ?_
    refine lv_iload hx hb dL_goes_188 (lv_at hl 10 rfl) ?_
    obtain ⟨zhb7, hf⟩ := ck_some hf
    refine x_iald C0 hw zt6 zhb7 dL_goes_190 ?_
    refine lv_iconst (v := (4 : Int32)) hx hb dL_goes_191 (by decide) ?_
    refine lv_idiv hx hb dL_goes_192 (by decide) ?_
    refine lv_sipush (v := (128 : Int32)) hx hb dL_goes_193 (by decide) ?_
    refine lv_irem hx hb dL_goes_196 (by decide) ?_
    refine lv_aload hx hb dL_goes_197 (lv_at hl 4 rfl) ?_
    refine lv_iconst (v := (2 : Int32)) hx hb dL_goes_199 (by decide) ?_
    refine lv_aload hx hb dL_goes_200 (lv_at hl 5 rfl) ?_
    refine lv_iload hx hb dL_goes_202 (lv_at hl 10 rfl) ?_
    refine x_iald C0 hw zt6 zhb7 dL_goes_204 ?_
    refine lv_iconst (v := (4 : Int32)) hx hb dL_goes_205 (by decide) ?_
    refine lv_irem hx hb dL_goes_206 (by decide) ?_
    refine lv_imul hx hb dL_goes_207 ?_
    obtain ⟨zhb8, hf⟩ := ck_some hf
    refine x_iald C0 hw zt5 zhb8 dL_goes_208 ?_
    refine lv_imul hx hb dL_goes_209 ?_
    refine lv_bipush (v := (50 : Int32)) hx hb dL_goes_210 (by decide) ?_
    refine lv_idiv hx hb dL_goes_212 (by decide) ?_
    refine lv_iadd hx hb dL_goes_213 ?_
    refine lv_topi (fun zv9 ezv9 => ?_)
    have hf := lt_at hf ezv9
    refine lv_istore (lv' := [(10, .int zv9), (0, .ref zx0), (2, .ref zx2), (3, .ref zx3), (4, .ref zx4), (5, .ref zx5), (6, .ref zx6), (8, .ref zx8), (9, .int zx9), (11, .int zx11), (12, .int zx12)]) hx hb dL_goes_214 hl (by decide) rfl (fun ls hl => ?_)
    refine lv_aload hx hb dL_goes_216 (lv_at hl 6 rfl) ?_
    refine lv_iload hx hb dL_goes_218 (lv_at hl 9 rfl) ?_
    refine lv_aload hx hb dL_goes_220 (lv_at hl 6 rfl) ?_
    refine lv_iload hx hb dL_goes_222 (lv_at hl 10 rfl) ?_
    refine x_iald C0 hw zt6 zhb7 dL_goes_224 ?_
    refine lv_sipush (v := (512 : Int32)) hx hb dL_goes_225 (by decide) ?_
    refine lv_isub hx hb dL_goes_228 ?_
    obtain ⟨zhb10, hf⟩ := ck_some hf
    obtain ⟨zI11, ezI11⟩ : ∃ y : Im, y = pA I zx6 (zx11).toNatClampNeg ((gA I zx6 (zx12).toNatClampNeg) - (512 : Int32)) := ⟨_, rfl⟩
    have hf := lt_at hf ezI11
    refine x_iast C0 hz hw zt6 zhb10 dL_goes_229 ezI11 (fun H locs hw => ?_)
    refine lv_iload hx hb dL_goes_230 (lv_at hl 9 rfl) ?_
    refine lv_aload hx hb dL_goes_232 (lv_at hl 6 rfl) ?_
    refine lv_iload hx hb dL_goes_234 (lv_at hl 9 rfl) ?_
    refine x_iald C0 hw zt6 zhb10 dL_goes_236 ?_
    refine lv_sipush (v := (512 : Int32)) hx hb dL_goes_237 (by decide) ?_
    refine lv_icmp_ge (tgt := 247) hx hb dL_goes_240 (by decide) (fun zc12 => ?_) (fun zc12 => ?_)
    · have hf := ite_t hf zc12
      refine lv_iconst (v := (1 : Int32)) hx hb dL_goes_247 (by decide) ?_
      exact w9_goes_248 C0 hr hz fl zr175 zhr175 zI11 _ _ _ zx0 zx2 zx3 zx4 zx5 zx6 zx8 zx9 zv9 zx12 zx11 (1 : Int32) zt0 zt2 zt3 zt4 zt5 zt6 zt8 hw (lv_sub hl [1, 2, 3, 4, 5, 6, 7, 8, 0, 10] rfl) hf
    · have hf := ite_f hf zc12
      refine lv_iconst (v := (0 : Int32)) hx hb dL_goes_243 (by decide) ?_
      refine lv_goto (tgt := 248) hx hb dL_goes_244 (by decide) ?_
      exact w9_goes_248 C0 hr hz fl zr175 zhr175 zI11 _ _ _ zx0 zx2 zx3 zx4 zx5 zx6 zx8 zx9 zv9 zx12 zx11 (0 : Int32) zt0 zt2 zt3 zt4 zt5 zt6 zt8 hw (lv_sub hl [1, 2, 3, 4, 5, 6, 7, 8, 0, 10] rfl) hf
theorem w9_goes_175 {p : Program} {l : Launch} {e : Env} {s : State} {m : MethodId} {args : Array Value} {below : List Frame} {meth : Method} {c : Code} {E : EN} {G : GM} {X : Xm} (C0 : CX p s m args meth c E cL_goes RL 14) (hr : meth.sig.returnType = (some .int)) (hz : s.heap.size + 0 ≤ eB E + G.1) {rr : Int32 × Im} (fl : Nat) : ∀ (n : Nat) (I : Im) (H : Heap) (locs : List Loc) (ls : Array Slot) (zx0 : Nat) (zx2 : Nat) (zx3 : Nat) (zx4 : Nat) (zx5 : Nat) (zx6 : Nat) (zx8 : Nat) (zx9 : Int32) (zx10 : Int32) (zx11 : Int32) (zx12 : Int32) (zt0 : okA E G 11 zx0) (zt2 : okA E G 11 zx2) (zt3 : okA E G 11 zx3) (zt4 : okA E G 11 zx4) (zt5 : okA E G 11 zx5) (zt6 : okA E G 11 zx6) (zt8 : okA E G 11 zx8), WD E G I X s.heap H locs → lv_has ls 14 [(0, .ref zx0), (2, .ref zx2), (3, .ref zx3), (4, .ref zx4), (5, .ref zx5), (6, .ref zx6), (8, .ref zx8), (9, .int zx9), (10, .int zx10), (11, .int zx11), (12, .int zx12)] → m9_goes_175 fl G.2.2 X n I zx0 zx2 zx3 zx4 zx5 zx6 zx8 zx9 zx10 zx11 zx12 = some rr → W p l e ({ frames := 2, cells := 0, slots := 0, locals := 56 } : Room) s m args below meth c H locs 0 0 (MQ below (QI E G rr.1 rr.2 X) args s 0 0 (eA E)) (F0 m 175 ls []) := by
  intro n
  induction n with
  | zero => intro I H locs ls zx0 zx2 zx3 zx4 zx5 zx6 zx8 zx9 zx10 zx11 zx12 zt0 zt2 zt3 zt4 zt5 zt6 zt8 hw hl hf; exact absurd (show (none : Option (Int32 × Im)) = some rr from hf) (by simp)
  | succ n ih => intro I H locs ls zx0 zx2 zx3 zx4 zx5 zx6 zx8 zx9 zx10 zx11 zx12 zt0 zt2 zt3 zt4 zt5 zt6 zt8 hw hl hf; exact w9_goes_175b C0 hr hz fl _ ih I H locs ls zx0 zx2 zx3 zx4 zx5 zx6 zx8 zx9 zx10 zx11 zx12 zt0 zt2 zt3 zt4 zt5 zt6 zt8 hw hl hf
noncomputable def m9_goes_160 (fl : Nat) (len : Nat → Nat) (X : Xm) (zr71 : Im → Nat → Nat → Nat → Nat → Nat → Nat → Nat → Int32 → Int32 → Int32 → Option (Int32 × Im)) (I : Im) (zx0 : Nat) (zx2 : Nat) (zx3 : Nat) (zx4 : Nat) (zx5 : Nat) (zx6 : Nat) (zx8 : Nat) (zx9 : Int32) (zx11 : Int32) (zs0 : Int32) (zs1 : Int32) : Option (Int32 × Im) :=
  lt ((zs0 + zs1)) fun zv1 =>
  lt (zx11 + 1) fun zv2 =>
  zr71 I zx0 zx2 zx3 zx4 zx5 zx6 zx8 zx9 zv1 zv2
set_option maxHeartbeats 4000000 in
set_option maxRecDepth 100000 in
theorem w9_goes_160 {p : Program} {l : Launch} {e : Env} {s : State} {m : MethodId} {args : Array Value} {below : List Frame} {meth : Method} {c : Code} {E : EN} {G : GM} {X : Xm} (C0 : CX p s m args meth c E cL_goes RL 14) (hr : meth.sig.returnType = (some .int)) (hz : s.heap.size + 0 ≤ eB E + G.1) {rr : Int32 × Im} (fl : Nat) (zr71 : Im → Nat → Nat → Nat → Nat → Nat → Nat → Nat → Int32 → Int32 → Int32 → Option (Int32 × Im)) (zhr71 : ∀ (I : Im) (H : Heap) (locs : List Loc) (ls : Array Slot) (zx0 : Nat) (zx2 : Nat) (zx3 : Nat) (zx4 : Nat) (zx5 : Nat) (zx6 : Nat) (zx8 : Nat) (zx9 : Int32) (zx10 : Int32) (zx11 : Int32) (zt0 : okA E G 11 zx0) (zt2 : okA E G 11 zx2) (zt3 : okA E G 11 zx3) (zt4 : okA E G 11 zx4) (zt5 : okA E G 11 zx5) (zt6 : okA E G 11 zx6) (zt8 : okA E G 11 zx8), WD E G I X s.heap H locs → lv_has ls 14 [(0, .ref zx0), (2, .ref zx2), (3, .ref zx3), (4, .ref zx4), (5, .ref zx5), (6, .ref zx6), (8, .ref zx8), (9, .int zx9), (10, .int zx10), (11, .int zx11)] → zr71 I zx0 zx2 zx3 zx4 zx5 zx6 zx8 zx9 zx10 zx11 = some rr → W p l e ({ frames := 2, cells := 0, slots := 0, locals := 56 } : Room) s m args below meth c H locs 0 0 (MQ below (QI E G rr.1 rr.2 X) args s 0 0 (eA E)) (F0 m 71 ls [])) : ∀ (I : Im) (H : Heap) (locs : List Loc) (ls : Array Slot) (zx0 : Nat) (zx2 : Nat) (zx3 : Nat) (zx4 : Nat) (zx5 : Nat) (zx6 : Nat) (zx8 : Nat) (zx9 : Int32) (zx11 : Int32) (zs0 : Int32) (zs1 : Int32) (zt0 : okA E G 11 zx0) (zt2 : okA E G 11 zx2) (zt3 : okA E G 11 zx3) (zt4 : okA E G 11 zx4) (zt5 : okA E G 11 zx5) (zt6 : okA E G 11 zx6) (zt8 : okA E G 11 zx8), WD E G I X s.heap H locs → lv_has ls 14 [(0, .ref zx0), (2, .ref zx2), (3, .ref zx3), (4, .ref zx4), (5, .ref zx5), (6, .ref zx6), (8, .ref zx8), (9, .int zx9), (11, .int zx11)] → m9_goes_160 fl G.2.2 X zr71 I zx0 zx2 zx3 zx4 zx5 zx6 zx8 zx9 zx11 zs0 zs1 = some rr → W p l e ({ frames := 2, cells := 0, slots := 0, locals := 56 } : Room) s m args below meth c H locs 0 0 (MQ below (QI E G rr.1 rr.2 X) args s 0 0 (eA E)) (F0 m 160 ls [.int zs1, .int zs0]) := by
  intro I H locs ls zx0 zx2 zx3 zx4 zx5 zx6 zx8 zx9 zx11 zs0 zs1 zt0 zt2 zt3 zt4 zt5 zt6 zt8 hw hl hf
  unfold m9_goes_160 at hf
  have hx := C0.1; have hb := C0.2.1; have hml := C0.2.2.1; have hown := C0.2.2.2.1; have hts := C0.2.2.2.2.1
  refine lv_iadd hx hb dL_goes_160 ?_
  refine lv_topi (fun zv1 ezv1 => ?_)
  have hf := lt_at hf ezv1
  refine lv_istore (lv' := [(10, .int zv1), (0, .ref zx0), (2, .ref zx2), (3, .ref zx3), (4, .ref zx4), (5, .ref zx5), (6, .ref zx6), (8, .ref zx8), (9, .int zx9), (11, .int zx11)]) hx hb dL_goes_161 hl (by decide) rfl (fun ls hl => ?_)
  obtain ⟨zv2, ezv2⟩ : ∃ y : Int32, y = zx11 + 1 := ⟨_, rfl⟩
  have hf := lt_at hf ezv2
  refine lv_iinc (v := zv2) (lv' := [(11, .int zv2), (10, .int zv1), (0, .ref zx0), (2, .ref zx2), (3, .ref zx3), (4, .ref zx4), (5, .ref zx5), (6, .ref zx6), (8, .ref zx8), (9, .int zx9)]) hx hb dL_goes_163 hl (k := 9) rfl (by rw [ezv2]; rfl) (by decide) rfl (fun ls hl => ?_)
  refine lv_goto (tgt := 71) hx hb dL_goes_166 (by decide) ?_
  exact zhr71 I _ _ _ zx0 zx2 zx3 zx4 zx5 zx6 zx8 zx9 zv1 zv2 zt0 zt2 zt3 zt4 zt5 zt6 zt8 hw (lv_sub hl [2, 3, 4, 5, 6, 7, 8, 9, 1, 0] rfl) hf
noncomputable def m9_goes_71b (fl : Nat) (len : Nat → Nat) (X : Xm) (zr71 : Im → Nat → Nat → Nat → Nat → Nat → Nat → Nat → Int32 → Int32 → Int32 → Option (Int32 × Im)) (I : Im) (zx0 : Nat) (zx2 : Nat) (zx3 : Nat) (zx4 : Nat) (zx5 : Nat) (zx6 : Nat) (zx8 : Nat) (zx9 : Int32) (zx10 : Int32) (zx11 : Int32) : Option (Int32 × Im) :=
  if (4 : Int32) ≤ zx11 then
    m9_goes_175 fl len X fl I zx0 zx2 zx3 zx4 zx5 zx6 zx8 zx9 zx10 (0 : Int32) (0 : Int32)
  else
    ck (inb ((2 : Int32) * zx11) (len zx5) = true) <|
    ck (inb (((2 : Int32) * zx11) + (1 : Int32)) (len zx5) = true) <|
    ck (inb (2 : Int32) (len zx0) = true) <|
    nn (m9_toward fl len X I (gA I zx5 (((2 : Int32) * zx11)).toNatClampNeg) (gA I zx5 ((((2 : Int32) * zx11) + (1 : Int32))).toNatClampNeg) (gA I zx0 ((2 : Int32)).toNatClampNeg)) fun zv5 =>
    lt (pA I zx5 (((2 : Int32) * zx11)).toNatClampNeg zv5) fun zI7 =>
    ck (inb (((4 : Int32) * zx11) + (1 : Int32)) (len zx3) = true) <|
    if (gA zI7 zx3 ((((4 : Int32) * zx11) + (1 : Int32))).toNatClampNeg) ≤ 0 then
      m9_goes_160 fl len X zr71 zI7 zx0 zx2 zx3 zx4 zx5 zx6 zx8 zx9 zx11 zx10 (0 : Int32)
    else
      ck (inb ((((6 : Int32) * zx11) + (gA zI7 zx3 ((((4 : Int32) * zx11) + (1 : Int32))).toNatClampNeg)) - (1 : Int32)) (len zx4) = true) <|
      m9_goes_160 fl len X zr71 zI7 zx0 zx2 zx3 zx4 zx5 zx6 zx8 zx9 zx11 zx10 (((((gA zI7 zx4 (((((6 : Int32) * zx11) + (gA zI7 zx3 ((((4 : Int32) * zx11) + (1 : Int32))).toNatClampNeg)) - (1 : Int32))).toNatClampNeg) / (64 : Int32)) - ((gA zI7 zx4 (((((6 : Int32) * zx11) + (gA zI7 zx3 ((((4 : Int32) * zx11) + (1 : Int32))).toNatClampNeg)) - (1 : Int32))).toNatClampNeg) / (64 : Int32)) / (128 : Int32) * (128 : Int32)) * (gA zI7 zx5 (((2 : Int32) * zx11)).toNatClampNeg)) / (50 : Int32))
noncomputable def m9_goes_71 (fl : Nat) (len : Nat → Nat) (X : Xm) (n : Nat) : Im → Nat → Nat → Nat → Nat → Nat → Nat → Nat → Int32 → Int32 → Int32 → Option (Int32 × Im) :=
  Nat.rec (fun _ _ _ _ _ _ _ _ _ _ _ => none) (fun _ r => m9_goes_71b fl len X r) n
set_option maxHeartbeats 4000000 in
set_option maxRecDepth 100000 in
theorem w9_goes_71b {p : Program} {l : Launch} {e : Env} {s : State} {m : MethodId} {args : Array Value} {below : List Frame} {meth : Method} {c : Code} {E : EN} {G : GM} {X : Xm} (C0 : CX p s m args meth c E cL_goes RL 14) (hr : meth.sig.returnType = (some .int)) (hz : s.heap.size + 0 ≤ eB E + G.1) {rr : Int32 × Im} (fl : Nat) (zr71 : Im → Nat → Nat → Nat → Nat → Nat → Nat → Nat → Int32 → Int32 → Int32 → Option (Int32 × Im)) (zhr71 : ∀ (I : Im) (H : Heap) (locs : List Loc) (ls : Array Slot) (zx0 : Nat) (zx2 : Nat) (zx3 : Nat) (zx4 : Nat) (zx5 : Nat) (zx6 : Nat) (zx8 : Nat) (zx9 : Int32) (zx10 : Int32) (zx11 : Int32) (zt0 : okA E G 11 zx0) (zt2 : okA E G 11 zx2) (zt3 : okA E G 11 zx3) (zt4 : okA E G 11 zx4) (zt5 : okA E G 11 zx5) (zt6 : okA E G 11 zx6) (zt8 : okA E G 11 zx8), WD E G I X s.heap H locs → lv_has ls 14 [(0, .ref zx0), (2, .ref zx2), (3, .ref zx3), (4, .ref zx4), (5, .ref zx5), (6, .ref zx6), (8, .ref zx8), (9, .int zx9), (10, .int zx10), (11, .int zx11)] → zr71 I zx0 zx2 zx3 zx4 zx5 zx6 zx8 zx9 zx10 zx11 = some rr → W p l e ({ frames := 2, cells := 0, slots := 0, locals := 56 } : Room) s m args below meth c H locs 0 0 (MQ below (QI E G rr.1 rr.2 X) args s 0 0 (eA E)) (F0 m 71 ls [])) : ∀ (I : Im) (H : Heap) (locs : List Loc) (ls : Array Slot) (zx0 : Nat) (zx2 : Nat) (zx3 : Nat) (zx4 : Nat) (zx5 : Nat) (zx6 : Nat) (zx8 : Nat) (zx9 : Int32) (zx10 : Int32) (zx11 : Int32) (zt0 : okA E G 11 zx0) (zt2 : okA E G 11 zx2) (zt3 : okA E G 11 zx3) (zt4 : okA E G 11 zx4) (zt5 : okA E G 11 zx5) (zt6 : okA E G 11 zx6) (zt8 : okA E G 11 zx8), WD E G I X s.heap H locs → lv_has ls 14 [(0, .ref zx0), (2, .ref zx2), (3, .ref zx3), (4, .ref zx4), (5, .ref zx5), (6, .ref zx6), (8, .ref zx8), (9, .int zx9), (10, .int zx10), (11, .int zx11)] → m9_goes_71b fl G.2.2 X zr71 I zx0 zx2 zx3 zx4 zx5 zx6 zx8 zx9 zx10 zx11 = some rr → W p l e ({ frames := 2, cells := 0, slots := 0, locals := 56 } : Room) s m args below meth c H locs 0 0 (MQ below (QI E G rr.1 rr.2 X) args s 0 0 (eA E)) (F0 m 71 ls []) := by
  intro I H locs ls zx0 zx2 zx3 zx4 zx5 zx6 zx8 zx9 zx10 zx11 zt0 zt2 zt3 zt4 zt5 zt6 zt8 hw hl hf
  unfold m9_goes_71b at hf
  have hx := C0.1; have hb := C0.2.1; have hml := C0.2.2.1; have hown := C0.2.2.2.1; have hts := C0.2.2.2.2.1
  refine lv_iload hx hb dL_goes_71 (lv_at hl 9 rfl) ?_
  refine lv_iconst (v := (4 : Int32)) hx hb dL_goes_73 (by decide) ?_
  refine lv_icmp_ge (tgt := 169) hx hb dL_goes_74 (by decide) (fun zc1 => ?_) (fun zc1 => ?_)
  · have hf := ite_t hf zc1
    refine lv_iconst (v := (0 : Int32)) hx hb dL_goes_169 (by decide) ?_
    refine lv_istore (lv' := [(11, .int (0 : Int32)), (0, .ref zx0), (2, .ref zx2), (3, .ref zx3), (4, .ref zx4), (5, .ref zx5), (6, .ref zx6), (8, .ref zx8), (9, .int zx9), (10, .int zx10)]) hx hb dL_goes_170 hl (by decide) rfl (fun ls hl => ?_)
    refine lv_iconst (v := (0 : Int32)) hx hb dL_goes_172 (by decide) ?_
    refine lv_istore (lv' := [(12, .int (0 : Int32)), (11, .int (0 : Int32)), (0, .ref zx0), (2, .ref zx2), (3, .ref zx3), (4, .ref zx4), (5, .ref zx5), (6, .ref zx6), (8, .ref zx8), (9, .int zx9), (10, .int zx10)]) hx hb dL_goes_173 hl (by decide) rfl (fun ls hl => ?_)
    exact w9_goes_175 C0 hr hz fl fl I _ _ _ zx0 zx2 zx3 zx4 zx5 zx6 zx8 zx9 zx10 (0 : Int32) (0 : Int32) zt0 zt2 zt3 zt4 zt5 zt6 zt8 hw (lv_sub hl [2, 3, 4, 5, 6, 7, 8, 9, 10, 1, 0] rfl) hf
  · have hf := ite_f hf zc1
    refine lv_aload hx hb dL_goes_77 (lv_at hl 4 rfl) ?_
    refine lv_iconst (v := (2 : Int32)) hx hb dL_goes_79 (by decide) ?_
    refine lv_iload hx hb dL_goes_80 (lv_at hl 9 rfl) ?_
    refine lv_imul hx hb dL_goes_82 ?_
    refine lv_aload hx hb dL_goes_83 (lv_at hl 4 rfl) ?_
    refine lv_iconst (v := (2 : Int32)) hx hb dL_goes_85 (by decide) ?_
    refine lv_iload hx hb dL_goes_86 (lv_at hl 9 rfl) ?_
    refine lv_imul hx hb dL_goes_88 ?_
    obtain ⟨zhb2, hf⟩ := ck_some hf
    refine x_iald C0 hw zt5 zhb2 dL_goes_89 ?_
    refine lv_aload hx hb dL_goes_90 (lv_at hl 4 rfl) ?_
    refine lv_iconst (v := (2 : Int32)) hx hb dL_goes_92 (by decide) ?_
    refine lv_iload hx hb dL_goes_93 (lv_at hl 9 rfl) ?_
    refine lv_imul hx hb dL_goes_95 ?_
    refine lv_iconst (v := (1 : Int32)) hx hb dL_goes_96 (by decide) ?_
    refine lv_iadd hx hb dL_goes_97 ?_
    obtain ⟨zhb3, hf⟩ := ck_some hf
    refine x_iald C0 hw zt5 zhb3 dL_goes_98 ?_
    refine lv_aload_n hx hb dL_goes_99 rfl (lv_at hl 0 rfl) ?_
    refine lv_iconst (v := (2 : Int32)) hx hb dL_goes_100 (by decide) ?_
    obtain ⟨zhb4, hf⟩ := ck_some hf
    refine x_iald C0 hw zt0 zhb4 dL_goes_101 ?_
    obtain ⟨zv5, ze6, hf⟩ := nn_some hf
    refine x_ci (r := zv5) (I1 := I) (X1 := X) (x_runS (As := [.int (gA I zx5 (((2 : Int32) * zx11)).toNatClampNeg), .int (gA I zx5 ((((2 : Int32) * zx11) + (1 : Int32))).toNatClampNeg), .int (gA I zx0 ((2 : Int32)).toNatClampNeg)]) (rest := [.int ((2 : Int32) * zx11), .ref zx5]) C0 (c9_toward l E G fl X I (gA I zx5 (((2 : Int32) * zx11)).toNatClampNeg) (gA I zx5 ((((2 : Int32) * zx11) + (1 : Int32))).toNatClampNeg) (gA I zx0 ((2 : Int32)).toNatClampNeg) ze6) hw wd81 wd425 wd426 wd422 ⟨rfl, rfl⟩ hy9_toward ⟨Nat.le_of_ble_eq_true rfl, Nat.le_of_ble_eq_true rfl⟩ rfl hl.1 (Nat.le_of_ble_eq_true rfl) ⟨Nat.zero_le _, Nat.zero_le _⟩ dL_goes_102) hw (fun H locs hw => ?_)
    obtain ⟨zI7, ezI7⟩ : ∃ y : Im, y = pA I zx5 (((2 : Int32) * zx11)).toNatClampNeg zv5 := ⟨_, rfl⟩
    have hf := lt_at hf ezI7
    refine x_iast C0 hz hw zt5 zhb2 dL_goes_105 ezI7 (fun H locs hw => ?_)
    refine lv_iload hx hb dL_goes_106 (lv_at hl 8 rfl) ?_
    refine lv_aload_n hx hb dL_goes_108 rfl (lv_at hl 2 rfl) ?_
    refine lv_iconst (v := (4 : Int32)) hx hb dL_goes_109 (by decide) ?_
    refine lv_iload hx hb dL_goes_110 (lv_at hl 9 rfl) ?_
    refine lv_imul hx hb dL_goes_112 ?_
    refine lv_iconst (v := (1 : Int32)) hx hb dL_goes_113 (by decide) ?_
    refine lv_iadd hx hb dL_goes_114 ?_
    obtain ⟨zhb8, hf⟩ := ck_some hf
    refine x_iald C0 hw zt3 zhb8 dL_goes_115 ?_
    refine lv_if_le (tgt := 159) hx hb dL_goes_116 (by decide) (fun zc9 => ?_) (fun zc9 => ?_)
    · have hf := ite_t hf zc9
      refine lv_iconst (v := (0 : Int32)) hx hb dL_goes_159 (by decide) ?_
      exact w9_goes_160 C0 hr hz fl zr71 zhr71 zI7 _ _ _ zx0 zx2 zx3 zx4 zx5 zx6 zx8 zx9 zx11 zx10 (0 : Int32) zt0 zt2 zt3 zt4 zt5 zt6 zt8 hw (lv_sub hl [0, 1, 2, 3, 4, 5, 6, 7, 9] rfl) hf
    · have hf := ite_f hf zc9
      refine lv_aload hx hb dL_goes_119 (lv_at hl 3 rfl) ?_
      refine lv_bipush (v := (6 : Int32)) hx hb dL_goes_121 (by decide) ?_
      refine lv_iload hx hb dL_goes_123 (lv_at hl 9 rfl) ?_
      refine lv_imul hx hb dL_goes_125 ?_
      refine lv_aload_n hx hb dL_goes_126 rfl (lv_at hl 2 rfl) ?_
      refine lv_iconst (v := (4 : Int32)) hx hb dL_goes_127 (by decide) ?_
      refine lv_iload hx hb dL_goes_128 (lv_at hl 9 rfl) ?_
      refine lv_imul hx hb dL_goes_130 ?_
      refine lv_iconst (v := (1 : Int32)) hx hb dL_goes_131 (by decide) ?_
      refine lv_iadd hx hb dL_goes_132 ?_
      refine x_iald C0 hw zt3 zhb8 dL_goes_133 ?_
      refine lv_iadd hx hb dL_goes_134 ?_
      refine lv_iconst (v := (1 : Int32)) hx hb dL_goes_135 (by decide) ?_
      refine lv_isub hx hb dL_goes_136 ?_
      obtain ⟨zhb10, hf⟩ := ck_some hf
      refine x_iald C0 hw zt4 zhb10 dL_goes_137 ?_
      refine lv_bipush (v := (64 : Int32)) hx hb dL_goes_138 (by decide) ?_
      refine lv_idiv hx hb dL_goes_140 (by decide) ?_
      refine lv_sipush (v := (128 : Int32)) hx hb dL_goes_141 (by decide) ?_
      refine lv_irem hx hb dL_goes_144 (by decide) ?_
      refine lv_aload hx hb dL_goes_145 (lv_at hl 4 rfl) ?_
      refine lv_iconst (v := (2 : Int32)) hx hb dL_goes_147 (by decide) ?_
      refine lv_iload hx hb dL_goes_148 (lv_at hl 9 rfl) ?_
      refine lv_imul hx hb dL_goes_150 ?_
      refine x_iald C0 hw zt5 zhb2 dL_goes_151 ?_
      refine lv_imul hx hb dL_goes_152 ?_
      refine lv_bipush (v := (50 : Int32)) hx hb dL_goes_153 (by decide) ?_
      refine lv_idiv hx hb dL_goes_155 (by decide) ?_
      refine lv_goto (tgt := 160) hx hb dL_goes_156 (by decide) ?_
      exact w9_goes_160 C0 hr hz fl zr71 zhr71 zI7 _ _ _ zx0 zx2 zx3 zx4 zx5 zx6 zx8 zx9 zx11 zx10 (((((gA zI7 zx4 (((((6 : Int32) * zx11) + (gA zI7 zx3 ((((4 : Int32) * zx11) + (1 : Int32))).toNatClampNeg)) - (1 : Int32))).toNatClampNeg) / (64 : Int32)) - ((gA zI7 zx4 (((((6 : Int32) * zx11) + (gA zI7 zx3 ((((4 : Int32) * zx11) + (1 : Int32))).toNatClampNeg)) - (1 : Int32))).toNatClampNeg) / (64 : Int32)) / (128 : Int32) * (128 : Int32)) * (gA zI7 zx5 (((2 : Int32) * zx11)).toNatClampNeg)) / (50 : Int32)) zt0 zt2 zt3 zt4 zt5 zt6 zt8 hw (lv_sub hl [0, 1, 2, 3, 4, 5, 6, 7, 9] rfl) hf
theorem w9_goes_71 {p : Program} {l : Launch} {e : Env} {s : State} {m : MethodId} {args : Array Value} {below : List Frame} {meth : Method} {c : Code} {E : EN} {G : GM} {X : Xm} (C0 : CX p s m args meth c E cL_goes RL 14) (hr : meth.sig.returnType = (some .int)) (hz : s.heap.size + 0 ≤ eB E + G.1) {rr : Int32 × Im} (fl : Nat) : ∀ (n : Nat) (I : Im) (H : Heap) (locs : List Loc) (ls : Array Slot) (zx0 : Nat) (zx2 : Nat) (zx3 : Nat) (zx4 : Nat) (zx5 : Nat) (zx6 : Nat) (zx8 : Nat) (zx9 : Int32) (zx10 : Int32) (zx11 : Int32) (zt0 : okA E G 11 zx0) (zt2 : okA E G 11 zx2) (zt3 : okA E G 11 zx3) (zt4 : okA E G 11 zx4) (zt5 : okA E G 11 zx5) (zt6 : okA E G 11 zx6) (zt8 : okA E G 11 zx8), WD E G I X s.heap H locs → lv_has ls 14 [(0, .ref zx0), (2, .ref zx2), (3, .ref zx3), (4, .ref zx4), (5, .ref zx5), (6, .ref zx6), (8, .ref zx8), (9, .int zx9), (10, .int zx10), (11, .int zx11)] → m9_goes_71 fl G.2.2 X n I zx0 zx2 zx3 zx4 zx5 zx6 zx8 zx9 zx10 zx11 = some rr → W p l e ({ frames := 2, cells := 0, slots := 0, locals := 56 } : Room) s m args below meth c H locs 0 0 (MQ below (QI E G rr.1 rr.2 X) args s 0 0 (eA E)) (F0 m 71 ls []) := by
  intro n
  induction n with
  | zero => intro I H locs ls zx0 zx2 zx3 zx4 zx5 zx6 zx8 zx9 zx10 zx11 zt0 zt2 zt3 zt4 zt5 zt6 zt8 hw hl hf; exact absurd (show (none : Option (Int32 × Im)) = some rr from hf) (by simp)
  | succ n ih => intro I H locs ls zx0 zx2 zx3 zx4 zx5 zx6 zx8 zx9 zx10 zx11 zt0 zt2 zt3 zt4 zt5 zt6 zt8 hw hl hf; exact w9_goes_71b C0 hr hz fl _ ih I H locs ls zx0 zx2 zx3 zx4 zx5 zx6 zx8 zx9 zx10 zx11 zt0 zt2 zt3 zt4 zt5 zt6 zt8 hw hl hf
noncomputable def m9_goes_56 (fl : Nat) (len : Nat → Nat) (X : Xm) (zr6 : Im → Nat → Nat → Nat → Nat → Nat → Nat → Nat → Nat → Nat → Int32 → Int32 → Option (Int32 × Im)) (I : Im) (zx0 : Nat) (zx1 : Nat) (zx2 : Nat) (zx3 : Nat) (zx4 : Nat) (zx5 : Nat) (zx6 : Nat) (zx7 : Nat) (zx8 : Nat) (zx10 : Int32) (zs0 : Int32) (zs1 : Int32) : Option (Int32 × Im) :=
  lt ((zs0 + zs1)) fun zv1 =>
  lt (zx10 + 1) fun zv2 =>
  zr6 I zx0 zx1 zx2 zx3 zx4 zx5 zx6 zx7 zx8 zv1 zv2
set_option maxHeartbeats 4000000 in
set_option maxRecDepth 100000 in
theorem w9_goes_56 {p : Program} {l : Launch} {e : Env} {s : State} {m : MethodId} {args : Array Value} {below : List Frame} {meth : Method} {c : Code} {E : EN} {G : GM} {X : Xm} (C0 : CX p s m args meth c E cL_goes RL 14) (hr : meth.sig.returnType = (some .int)) (hz : s.heap.size + 0 ≤ eB E + G.1) {rr : Int32 × Im} (fl : Nat) (zr6 : Im → Nat → Nat → Nat → Nat → Nat → Nat → Nat → Nat → Nat → Int32 → Int32 → Option (Int32 × Im)) (zhr6 : ∀ (I : Im) (H : Heap) (locs : List Loc) (ls : Array Slot) (zx0 : Nat) (zx1 : Nat) (zx2 : Nat) (zx3 : Nat) (zx4 : Nat) (zx5 : Nat) (zx6 : Nat) (zx7 : Nat) (zx8 : Nat) (zx9 : Int32) (zx10 : Int32) (zt0 : okA E G 11 zx0) (zt1 : okA E G 11 zx1) (zt2 : okA E G 11 zx2) (zt3 : okA E G 11 zx3) (zt4 : okA E G 11 zx4) (zt5 : okA E G 11 zx5) (zt6 : okA E G 11 zx6) (zt7 : okA E G 11 zx7) (zt8 : okA E G 11 zx8), WD E G I X s.heap H locs → lv_has ls 14 [(0, .ref zx0), (1, .ref zx1), (2, .ref zx2), (3, .ref zx3), (4, .ref zx4), (5, .ref zx5), (6, .ref zx6), (7, .ref zx7), (8, .ref zx8), (9, .int zx9), (10, .int zx10)] → zr6 I zx0 zx1 zx2 zx3 zx4 zx5 zx6 zx7 zx8 zx9 zx10 = some rr → W p l e ({ frames := 2, cells := 0, slots := 0, locals := 56 } : Room) s m args below meth c H locs 0 0 (MQ below (QI E G rr.1 rr.2 X) args s 0 0 (eA E)) (F0 m 6 ls [])) : ∀ (I : Im) (H : Heap) (locs : List Loc) (ls : Array Slot) (zx0 : Nat) (zx1 : Nat) (zx2 : Nat) (zx3 : Nat) (zx4 : Nat) (zx5 : Nat) (zx6 : Nat) (zx7 : Nat) (zx8 : Nat) (zx10 : Int32) (zs0 : Int32) (zs1 : Int32) (zt0 : okA E G 11 zx0) (zt1 : okA E G 11 zx1) (zt2 : okA E G 11 zx2) (zt3 : okA E G 11 zx3) (zt4 : okA E G 11 zx4) (zt5 : okA E G 11 zx5) (zt6 : okA E G 11 zx6) (zt7 : okA E G 11 zx7) (zt8 : okA E G 11 zx8), WD E G I X s.heap H locs → lv_has ls 14 [(0, .ref zx0), (1, .ref zx1), (2, .ref zx2), (3, .ref zx3), (4, .ref zx4), (5, .ref zx5), (6, .ref zx6), (7, .ref zx7), (8, .ref zx8), (10, .int zx10)] → m9_goes_56 fl G.2.2 X zr6 I zx0 zx1 zx2 zx3 zx4 zx5 zx6 zx7 zx8 zx10 zs0 zs1 = some rr → W p l e ({ frames := 2, cells := 0, slots := 0, locals := 56 } : Room) s m args below meth c H locs 0 0 (MQ below (QI E G rr.1 rr.2 X) args s 0 0 (eA E)) (F0 m 56 ls [.int zs1, .int zs0]) := by
  intro I H locs ls zx0 zx1 zx2 zx3 zx4 zx5 zx6 zx7 zx8 zx10 zs0 zs1 zt0 zt1 zt2 zt3 zt4 zt5 zt6 zt7 zt8 hw hl hf
  unfold m9_goes_56 at hf
  have hx := C0.1; have hb := C0.2.1; have hml := C0.2.2.1; have hown := C0.2.2.2.1; have hts := C0.2.2.2.2.1
  refine lv_iadd hx hb dL_goes_56 ?_
  refine lv_topi (fun zv1 ezv1 => ?_)
  have hf := lt_at hf ezv1
  refine lv_istore (lv' := [(9, .int zv1), (0, .ref zx0), (1, .ref zx1), (2, .ref zx2), (3, .ref zx3), (4, .ref zx4), (5, .ref zx5), (6, .ref zx6), (7, .ref zx7), (8, .ref zx8), (10, .int zx10)]) hx hb dL_goes_57 hl (by decide) rfl (fun ls hl => ?_)
  obtain ⟨zv2, ezv2⟩ : ∃ y : Int32, y = zx10 + 1 := ⟨_, rfl⟩
  have hf := lt_at hf ezv2
  refine lv_iinc (v := zv2) (lv' := [(10, .int zv2), (9, .int zv1), (0, .ref zx0), (1, .ref zx1), (2, .ref zx2), (3, .ref zx3), (4, .ref zx4), (5, .ref zx5), (6, .ref zx6), (7, .ref zx7), (8, .ref zx8)]) hx hb dL_goes_59 hl (k := 10) rfl (by rw [ezv2]; rfl) (by decide) rfl (fun ls hl => ?_)
  refine lv_goto (tgt := 6) hx hb dL_goes_62 (by decide) ?_
  exact zhr6 I _ _ _ zx0 zx1 zx2 zx3 zx4 zx5 zx6 zx7 zx8 zv1 zv2 zt0 zt1 zt2 zt3 zt4 zt5 zt6 zt7 zt8 hw (lv_sub hl [2, 3, 4, 5, 6, 7, 8, 9, 10, 1, 0] rfl) hf
noncomputable def m9_goes_55 (fl : Nat) (len : Nat → Nat) (X : Xm) (zr6 : Im → Nat → Nat → Nat → Nat → Nat → Nat → Nat → Nat → Nat → Int32 → Int32 → Option (Int32 × Im)) (I : Im) (zx0 : Nat) (zx1 : Nat) (zx2 : Nat) (zx3 : Nat) (zx4 : Nat) (zx5 : Nat) (zx6 : Nat) (zx7 : Nat) (zx8 : Nat) (zx10 : Int32) (zs0 : Int32) : Option (Int32 × Im) :=
  m9_goes_56 fl len X zr6 I zx0 zx1 zx2 zx3 zx4 zx5 zx6 zx7 zx8 zx10 zs0 (0 : Int32)
set_option maxHeartbeats 4000000 in
set_option maxRecDepth 100000 in
theorem w9_goes_55 {p : Program} {l : Launch} {e : Env} {s : State} {m : MethodId} {args : Array Value} {below : List Frame} {meth : Method} {c : Code} {E : EN} {G : GM} {X : Xm} (C0 : CX p s m args meth c E cL_goes RL 14) (hr : meth.sig.returnType = (some .int)) (hz : s.heap.size + 0 ≤ eB E + G.1) {rr : Int32 × Im} (fl : Nat) (zr6 : Im → Nat → Nat → Nat → Nat → Nat → Nat → Nat → Nat → Nat → Int32 → Int32 → Option (Int32 × Im)) (zhr6 : ∀ (I : Im) (H : Heap) (locs : List Loc) (ls : Array Slot) (zx0 : Nat) (zx1 : Nat) (zx2 : Nat) (zx3 : Nat) (zx4 : Nat) (zx5 : Nat) (zx6 : Nat) (zx7 : Nat) (zx8 : Nat) (zx9 : Int32) (zx10 : Int32) (zt0 : okA E G 11 zx0) (zt1 : okA E G 11 zx1) (zt2 : okA E G 11 zx2) (zt3 : okA E G 11 zx3) (zt4 : okA E G 11 zx4) (zt5 : okA E G 11 zx5) (zt6 : okA E G 11 zx6) (zt7 : okA E G 11 zx7) (zt8 : okA E G 11 zx8), WD E G I X s.heap H locs → lv_has ls 14 [(0, .ref zx0), (1, .ref zx1), (2, .ref zx2), (3, .ref zx3), (4, .ref zx4), (5, .ref zx5), (6, .ref zx6), (7, .ref zx7), (8, .ref zx8), (9, .int zx9), (10, .int zx10)] → zr6 I zx0 zx1 zx2 zx3 zx4 zx5 zx6 zx7 zx8 zx9 zx10 = some rr → W p l e ({ frames := 2, cells := 0, slots := 0, locals := 56 } : Room) s m args below meth c H locs 0 0 (MQ below (QI E G rr.1 rr.2 X) args s 0 0 (eA E)) (F0 m 6 ls [])) : ∀ (I : Im) (H : Heap) (locs : List Loc) (ls : Array Slot) (zx0 : Nat) (zx1 : Nat) (zx2 : Nat) (zx3 : Nat) (zx4 : Nat) (zx5 : Nat) (zx6 : Nat) (zx7 : Nat) (zx8 : Nat) (zx10 : Int32) (zs0 : Int32) (zt0 : okA E G 11 zx0) (zt1 : okA E G 11 zx1) (zt2 : okA E G 11 zx2) (zt3 : okA E G 11 zx3) (zt4 : okA E G 11 zx4) (zt5 : okA E G 11 zx5) (zt6 : okA E G 11 zx6) (zt7 : okA E G 11 zx7) (zt8 : okA E G 11 zx8), WD E G I X s.heap H locs → lv_has ls 14 [(0, .ref zx0), (1, .ref zx1), (2, .ref zx2), (3, .ref zx3), (4, .ref zx4), (5, .ref zx5), (6, .ref zx6), (7, .ref zx7), (8, .ref zx8), (10, .int zx10)] → m9_goes_55 fl G.2.2 X zr6 I zx0 zx1 zx2 zx3 zx4 zx5 zx6 zx7 zx8 zx10 zs0 = some rr → W p l e ({ frames := 2, cells := 0, slots := 0, locals := 56 } : Room) s m args below meth c H locs 0 0 (MQ below (QI E G rr.1 rr.2 X) args s 0 0 (eA E)) (F0 m 55 ls [.int zs0]) := by
  intro I H locs ls zx0 zx1 zx2 zx3 zx4 zx5 zx6 zx7 zx8 zx10 zs0 zt0 zt1 zt2 zt3 zt4 zt5 zt6 zt7 zt8 hw hl hf
  unfold m9_goes_55 at hf
  have hx := C0.1; have hb := C0.2.1; have hml := C0.2.2.1; have hown := C0.2.2.2.1; have hts := C0.2.2.2.2.1
  refine lv_iconst (v := (0 : Int32)) hx hb dL_goes_55 (by decide) ?_
  exact w9_goes_56 C0 hr hz fl zr6 zhr6 I _ _ _ zx0 zx1 zx2 zx3 zx4 zx5 zx6 zx7 zx8 zx10 zs0 (0 : Int32) zt0 zt1 zt2 zt3 zt4 zt5 zt6 zt7 zt8 hw (lv_sub hl [0, 1, 2, 3, 4, 5, 6, 7, 8, 9] rfl) hf
noncomputable def m9_goes_6b (fl : Nat) (len : Nat → Nat) (X : Xm) (zr6 : Im → Nat → Nat → Nat → Nat → Nat → Nat → Nat → Nat → Nat → Int32 → Int32 → Option (Int32 × Im)) (I : Im) (zx0 : Nat) (zx1 : Nat) (zx2 : Nat) (zx3 : Nat) (zx4 : Nat) (zx5 : Nat) (zx6 : Nat) (zx7 : Nat) (zx8 : Nat) (zx9 : Int32) (zx10 : Int32) : Option (Int32 × Im) :=
  ck (inb (5 : Int32) (len zx0) = true) <|
  if (gA I zx0 ((5 : Int32)).toNatClampNeg) ≤ zx10 then
    m9_goes_71 fl len X fl I zx0 zx2 zx3 zx4 zx5 zx6 zx8 zx9 (0 : Int32) (0 : Int32)
  else
    ck (inb zx10 (len zx1) = true) <|
    ck (inb (4 : Int32) (len zx0) = true) <|
    if (gA I zx1 (zx10).toNatClampNeg) = (gA I zx0 ((4 : Int32)).toNatClampNeg) then
      ck (inb zx10 (len zx2) = true) <|
      if (2048 : Int32) ≤ (gA I zx2 (zx10).toNatClampNeg) then
        m9_goes_55 fl len X zr6 I zx0 zx1 zx2 zx3 zx4 zx5 zx6 zx7 zx8 zx10 zx9
      else
        nn (m9_comes fl len X I zx0 zx2 zx3 zx4 zx5 zx6 zx7 zx10) fun ⟨zv8, zI9⟩ =>
        m9_goes_56 fl len X zr6 zI9 zx0 zx1 zx2 zx3 zx4 zx5 zx6 zx7 zx8 zx10 zx9 zv8
    else
      m9_goes_55 fl len X zr6 I zx0 zx1 zx2 zx3 zx4 zx5 zx6 zx7 zx8 zx10 zx9
noncomputable def m9_goes_6 (fl : Nat) (len : Nat → Nat) (X : Xm) (n : Nat) : Im → Nat → Nat → Nat → Nat → Nat → Nat → Nat → Nat → Nat → Int32 → Int32 → Option (Int32 × Im) :=
  Nat.rec (fun _ _ _ _ _ _ _ _ _ _ _ _ => none) (fun _ r => m9_goes_6b fl len X r) n
set_option maxHeartbeats 4000000 in
set_option maxRecDepth 100000 in
theorem w9_goes_6b {p : Program} {l : Launch} {e : Env} {s : State} {m : MethodId} {args : Array Value} {below : List Frame} {meth : Method} {c : Code} {E : EN} {G : GM} {X : Xm} (C0 : CX p s m args meth c E cL_goes RL 14) (hr : meth.sig.returnType = (some .int)) (hz : s.heap.size + 0 ≤ eB E + G.1) {rr : Int32 × Im} (fl : Nat) (zr6 : Im → Nat → Nat → Nat → Nat → Nat → Nat → Nat → Nat → Nat → Int32 → Int32 → Option (Int32 × Im)) (zhr6 : ∀ (I : Im) (H : Heap) (locs : List Loc) (ls : Array Slot) (zx0 : Nat) (zx1 : Nat) (zx2 : Nat) (zx3 : Nat) (zx4 : Nat) (zx5 : Nat) (zx6 : Nat) (zx7 : Nat) (zx8 : Nat) (zx9 : Int32) (zx10 : Int32) (zt0 : okA E G 11 zx0) (zt1 : okA E G 11 zx1) (zt2 : okA E G 11 zx2) (zt3 : okA E G 11 zx3) (zt4 : okA E G 11 zx4) (zt5 : okA E G 11 zx5) (zt6 : okA E G 11 zx6) (zt7 : okA E G 11 zx7) (zt8 : okA E G 11 zx8), WD E G I X s.heap H locs → lv_has ls 14 [(0, .ref zx0), (1, .ref zx1), (2, .ref zx2), (3, .ref zx3), (4, .ref zx4), (5, .ref zx5), (6, .ref zx6), (7, .ref zx7), (8, .ref zx8), (9, .int zx9), (10, .int zx10)] → zr6 I zx0 zx1 zx2 zx3 zx4 zx5 zx6 zx7 zx8 zx9 zx10 = some rr → W p l e ({ frames := 2, cells := 0, slots := 0, locals := 56 } : Room) s m args below meth c H locs 0 0 (MQ below (QI E G rr.1 rr.2 X) args s 0 0 (eA E)) (F0 m 6 ls [])) : ∀ (I : Im) (H : Heap) (locs : List Loc) (ls : Array Slot) (zx0 : Nat) (zx1 : Nat) (zx2 : Nat) (zx3 : Nat) (zx4 : Nat) (zx5 : Nat) (zx6 : Nat) (zx7 : Nat) (zx8 : Nat) (zx9 : Int32) (zx10 : Int32) (zt0 : okA E G 11 zx0) (zt1 : okA E G 11 zx1) (zt2 : okA E G 11 zx2) (zt3 : okA E G 11 zx3) (zt4 : okA E G 11 zx4) (zt5 : okA E G 11 zx5) (zt6 : okA E G 11 zx6) (zt7 : okA E G 11 zx7) (zt8 : okA E G 11 zx8), WD E G I X s.heap H locs → lv_has ls 14 [(0, .ref zx0), (1, .ref zx1), (2, .ref zx2), (3, .ref zx3), (4, .ref zx4), (5, .ref zx5), (6, .ref zx6), (7, .ref zx7), (8, .ref zx8), (9, .int zx9), (10, .int zx10)] → m9_goes_6b fl G.2.2 X zr6 I zx0 zx1 zx2 zx3 zx4 zx5 zx6 zx7 zx8 zx9 zx10 = some rr → W p l e ({ frames := 2, cells := 0, slots := 0, locals := 56 } : Room) s m args below meth c H locs 0 0 (MQ below (QI E G rr.1 rr.2 X) args s 0 0 (eA E)) (F0 m 6 ls []) := by
  intro I H locs ls zx0 zx1 zx2 zx3 zx4 zx5 zx6 zx7 zx8 zx9 zx10 zt0 zt1 zt2 zt3 zt4 zt5 zt6 zt7 zt8 hw hl hf
  unfold m9_goes_6b at hf
  have hx := C0.1; have hb := C0.2.1; have hml := C0.2.2.1; have hown := C0.2.2.2.1; have hts := C0.2.2.2.2.1
  refine lv_iload hx hb dL_goes_6 (lv_at hl 10 rfl) ?_
  refine lv_aload_n hx hb dL_goes_8 rfl (lv_at hl 0 rfl) ?_
  refine lv_iconst (v := (5 : Int32)) hx hb dL_goes_9 (by decide) ?_
  obtain ⟨zhb1, hf⟩ := ck_some hf
  refine x_iald C0 hw zt0 zhb1 dL_goes_10 ?_
  refine lv_icmp_ge (tgt := 65) hx hb dL_goes_11 (by decide) (fun zc2 => ?_) (fun zc2 => ?_)
  · have hf := ite_t hf zc2
    refine lv_iconst (v := (0 : Int32)) hx hb dL_goes_65 (by decide) ?_
    refine lv_istore (lv' := [(10, .int (0 : Int32)), (0, .ref zx0), (1, .ref zx1), (2, .ref zx2), (3, .ref zx3), (4, .ref zx4), (5, .ref zx5), (6, .ref zx6), (7, .ref zx7), (8, .ref zx8), (9, .int zx9)]) hx hb dL_goes_66 hl (by decide) rfl (fun ls hl => ?_)
    refine lv_iconst (v := (0 : Int32)) hx hb dL_goes_68 (by decide) ?_
    refine lv_istore (lv' := [(11, .int (0 : Int32)), (10, .int (0 : Int32)), (0, .ref zx0), (1, .ref zx1), (2, .ref zx2), (3, .ref zx3), (4, .ref zx4), (5, .ref zx5), (6, .ref zx6), (7, .ref zx7), (8, .ref zx8), (9, .int zx9)]) hx hb dL_goes_69 hl (by decide) rfl (fun ls hl => ?_)
    exact w9_goes_71 C0 hr hz fl fl I _ _ _ zx0 zx2 zx3 zx4 zx5 zx6 zx8 zx9 (0 : Int32) (0 : Int32) zt0 zt2 zt3 zt4 zt5 zt6 zt8 hw (lv_sub hl [2, 4, 5, 6, 7, 8, 10, 11, 1, 0] rfl) hf
  · have hf := ite_f hf zc2
    refine lv_iload hx hb dL_goes_14 (lv_at hl 9 rfl) ?_
    refine lv_aload_n hx hb dL_goes_16 rfl (lv_at hl 1 rfl) ?_
    refine lv_iload hx hb dL_goes_17 (lv_at hl 10 rfl) ?_
    obtain ⟨zhb3, hf⟩ := ck_some hf
    refine x_iald C0 hw zt1 zhb3 dL_goes_19 ?_
    refine lv_aload_n hx hb dL_goes_20 rfl (lv_at hl 0 rfl) ?_
    refine lv_iconst (v := (4 : Int32)) hx hb dL_goes_21 (by decide) ?_
    obtain ⟨zhb4, hf⟩ := ck_some hf
    refine x_iald C0 hw zt0 zhb4 dL_goes_22 ?_
    refine lv_icmp_ne (tgt := 55) hx hb dL_goes_23 (by decide) (fun zc5 => ?_) (fun zc5 => ?_)
    · have hf := ite_f hf zc5
      exact w9_goes_55 C0 hr hz fl zr6 zhr6 I _ _ _ zx0 zx1 zx2 zx3 zx4 zx5 zx6 zx7 zx8 zx10 zx9 zt0 zt1 zt2 zt3 zt4 zt5 zt6 zt7 zt8 hw (lv_sub hl [0, 1, 2, 3, 4, 5, 6, 7, 8, 10] rfl) hf
    · have hf := ite_t hf zc5
      refine lv_aload_n hx hb dL_goes_26 rfl (lv_at hl 2 rfl) ?_
      refine lv_iload hx hb dL_goes_27 (lv_at hl 10 rfl) ?_
      obtain ⟨zhb6, hf⟩ := ck_some hf
      refine x_iald C0 hw zt2 zhb6 dL_goes_29 ?_
      refine lv_sipush (v := (2048 : Int32)) hx hb dL_goes_30 (by decide) ?_
      refine lv_icmp_ge (tgt := 55) hx hb dL_goes_33 (by decide) (fun zc7 => ?_) (fun zc7 => ?_)
      · have hf := ite_t hf zc7
        exact w9_goes_55 C0 hr hz fl zr6 zhr6 I _ _ _ zx0 zx1 zx2 zx3 zx4 zx5 zx6 zx7 zx8 zx10 zx9 zt0 zt1 zt2 zt3 zt4 zt5 zt6 zt7 zt8 hw (lv_sub hl [0, 1, 2, 3, 4, 5, 6, 7, 8, 10] rfl) hf
      · have hf := ite_f hf zc7
        refine lv_aload_n hx hb dL_goes_36 rfl (lv_at hl 0 rfl) ?_
        refine lv_aload_n hx hb dL_goes_37 rfl (lv_at hl 2 rfl) ?_
        refine lv_aload_n hx hb dL_goes_38 rfl (lv_at hl 3 rfl) ?_
        refine lv_aload hx hb dL_goes_39 (lv_at hl 4 rfl) ?_
        refine lv_aload hx hb dL_goes_41 (lv_at hl 5 rfl) ?_
        refine lv_aload hx hb dL_goes_43 (lv_at hl 6 rfl) ?_
        refine lv_aload hx hb dL_goes_45 (lv_at hl 7 rfl) ?_
        refine lv_iload hx hb dL_goes_47 (lv_at hl 10 rfl) ?_
        obtain ⟨⟨zv8, zI9⟩, ze10, hf⟩ := nn_some hf
        refine x_ci (r := zv8) (I1 := zI9) (X1 := X) (x_runS (As := [.ref zx0, .ref zx2, .ref zx3, .ref zx4, .ref zx5, .ref zx6, .ref zx7, .int zx10]) (rest := [.int zx9]) C0 (c9_comes l E G fl X I zx0 zx2 zx3 zx4 zx5 zx6 zx7 zx10 zt0 zt2 zt3 zt4 zt5 zt6 zt7 ze10) hw wd82 wd423 wd424 wd422 ⟨rfl, rfl⟩ hy9_comes ⟨Nat.le_of_ble_eq_true rfl, Nat.le_of_ble_eq_true rfl⟩ rfl hl.1 (Nat.le_of_ble_eq_true rfl) ⟨Nat.zero_le _, Nat.zero_le _⟩ dL_goes_49) hw (fun H locs hw => ?_)
        refine lv_goto (tgt := 56) hx hb dL_goes_52 (by decide) ?_
        exact w9_goes_56 C0 hr hz fl zr6 zhr6 zI9 _ _ _ zx0 zx1 zx2 zx3 zx4 zx5 zx6 zx7 zx8 zx10 zx9 zv8 zt0 zt1 zt2 zt3 zt4 zt5 zt6 zt7 zt8 hw (lv_sub hl [0, 1, 2, 3, 4, 5, 6, 7, 8, 10] rfl) hf
theorem w9_goes_6 {p : Program} {l : Launch} {e : Env} {s : State} {m : MethodId} {args : Array Value} {below : List Frame} {meth : Method} {c : Code} {E : EN} {G : GM} {X : Xm} (C0 : CX p s m args meth c E cL_goes RL 14) (hr : meth.sig.returnType = (some .int)) (hz : s.heap.size + 0 ≤ eB E + G.1) {rr : Int32 × Im} (fl : Nat) : ∀ (n : Nat) (I : Im) (H : Heap) (locs : List Loc) (ls : Array Slot) (zx0 : Nat) (zx1 : Nat) (zx2 : Nat) (zx3 : Nat) (zx4 : Nat) (zx5 : Nat) (zx6 : Nat) (zx7 : Nat) (zx8 : Nat) (zx9 : Int32) (zx10 : Int32) (zt0 : okA E G 11 zx0) (zt1 : okA E G 11 zx1) (zt2 : okA E G 11 zx2) (zt3 : okA E G 11 zx3) (zt4 : okA E G 11 zx4) (zt5 : okA E G 11 zx5) (zt6 : okA E G 11 zx6) (zt7 : okA E G 11 zx7) (zt8 : okA E G 11 zx8), WD E G I X s.heap H locs → lv_has ls 14 [(0, .ref zx0), (1, .ref zx1), (2, .ref zx2), (3, .ref zx3), (4, .ref zx4), (5, .ref zx5), (6, .ref zx6), (7, .ref zx7), (8, .ref zx8), (9, .int zx9), (10, .int zx10)] → m9_goes_6 fl G.2.2 X n I zx0 zx1 zx2 zx3 zx4 zx5 zx6 zx7 zx8 zx9 zx10 = some rr → W p l e ({ frames := 2, cells := 0, slots := 0, locals := 56 } : Room) s m args below meth c H locs 0 0 (MQ below (QI E G rr.1 rr.2 X) args s 0 0 (eA E)) (F0 m 6 ls []) := by
  intro n
  induction n with
  | zero => intro I H locs ls zx0 zx1 zx2 zx3 zx4 zx5 zx6 zx7 zx8 zx9 zx10 zt0 zt1 zt2 zt3 zt4 zt5 zt6 zt7 zt8 hw hl hf; exact absurd (show (none : Option (Int32 × Im)) = some rr from hf) (by simp)
  | succ n ih => intro I H locs ls zx0 zx1 zx2 zx3 zx4 zx5 zx6 zx7 zx8 zx9 zx10 zt0 zt1 zt2 zt3 zt4 zt5 zt6 zt7 zt8 hw hl hf; exact w9_goes_6b C0 hr hz fl _ ih I H locs ls zx0 zx1 zx2 zx3 zx4 zx5 zx6 zx7 zx8 zx9 zx10 zt0 zt1 zt2 zt3 zt4 zt5 zt6 zt7 zt8 hw hl hf
noncomputable def m9_goes (fl : Nat) (len : Nat → Nat) (X : Xm) (I : Im) (zx0 : Nat) (zx1 : Nat) (zx2 : Nat) (zx3 : Nat) (zx4 : Nat) (zx5 : Nat) (zx6 : Nat) (zx7 : Nat) (zx8 : Nat) : Option (Int32 × Im) :=
  m9_goes_6 fl len X fl I zx0 zx1 zx2 zx3 zx4 zx5 zx6 zx7 zx8 (0 : Int32) (0 : Int32)
theorem hy9_goes : yL_goes.cls = RL ∧ yL_goes.cls ≠ "java/lang/invoke/MethodHandle" ∧ yL_goes.cls ≠ "java/lang/invoke/VarHandle" ∧ (parseMethodDescriptor yL_goes.desc).map (fun d => d.parameters.length) = some 9 := ⟨rfl, by decide +kernel, by decide +kernel, by decide +kernel⟩
set_option maxHeartbeats 4000000 in
set_option maxRecDepth 100000 in
theorem c9_goes (l : Launch) (E : EN) (G : GM) (fl : Nat) (X : Xm) (I : Im) (zx0 : Nat) (zx1 : Nat) (zx2 : Nat) (zx3 : Nat) (zx4 : Nat) (zx5 : Nat) (zx6 : Nat) (zx7 : Nat) (zx8 : Nat) (zt0 : okA E G 11 zx0) (zt1 : okA E G 11 zx1) (zt2 : okA E G 11 zx2) (zt3 : okA E G 11 zx3) (zt4 : okA E G 11 zx4) (zt5 : okA E G 11 zx5) (zt6 : okA E G 11 zx6) (zt7 : okA E G 11 zx7) (zt8 : okA E G 11 zx8) {rr : Int32 × Im} (hf : m9_goes fl G.2.2 X I zx0 zx1 zx2 zx3 zx4 zx5 zx6 zx7 zx8 = some rr) : MT l yL_goes cL_goes 14 (some .int) ({ frames := 2, cells := 0, slots := 0, locals := 56 } : Room) E G I X [.ref zx0, .ref zx1, .ref zx2, .ref zx3, .ref zx4, .ref zx5, .ref zx6, .ref zx7, .ref zx8] (QI E G rr.1 rr.2 X) 0 0 := by
  refine Met.ofW (cc := cL_goes) (maxL := 14) (ret := (some .int)) (by decide +kernel) rfl ?_
  intro p e s m args below meth c s₁ B hml hv
  obtain ⟨rfl, hw0, hSE⟩ := hv
  have C0 : CX p s m ([.ref zx0, .ref zx1, .ref zx2, .ref zx3, .ref zx4, .ref zx5, .ref zx6, .ref zx7, .ref zx8] : List Value).toArray meth c E cL_goes RL 14 := ⟨B.exec, B.bytes, hml, findClass_of_methodNamed B.named, fun w hw => atoms_spec (ws := WS yL_goes cL_goes 14 (some .int)) B.pre w (List.mem_cons_of_mem _ hw), B.notSynchronized, hSE⟩
  have hz : s.heap.size + 0 ≤ eB E + G.1 := Nat.le_of_eq hw0.2.1
  have hw : WD E G I X s.heap s.heap [] := ⟨hw0, va_S.rf⟩
  have hr := B.returns
  have hx := C0.1; have hb := C0.2.1; have hml := C0.2.2.1; have hown := C0.2.2.2.1; have hts := C0.2.2.2.2.1
  have hl := lv_entry ([.ref zx0, .ref zx1, .ref zx2, .ref zx3, .ref zx4, .ref zx5, .ref zx6, .ref zx7, .ref zx8]) (n := 14) (Nat.le_of_ble_eq_true rfl)
  rw [lg_entry_eq]
  generalize (lg_sl ([.ref zx0, .ref zx1, .ref zx2, .ref zx3, .ref zx4, .ref zx5, .ref zx6, .ref zx7, .ref zx8]) ++ List.replicate (14 - (lg_sl ([.ref zx0, .ref zx1, .ref zx2, .ref zx3, .ref zx4, .ref zx5, .ref zx6, .ref zx7, .ref zx8])).length) Slot.unset).toArray = ls at hl ⊢
  have hl : lv_has ls 14 [(0, .ref zx0), (1, .ref zx1), (2, .ref zx2), (3, .ref zx3), (4, .ref zx4), (5, .ref zx5), (6, .ref zx6), (7, .ref zx7), (8, .ref zx8)] := hl
  unfold m9_goes at hf
  refine lv_iconst (v := (0 : Int32)) hx hb dL_goes_0 (by decide) ?_
  refine lv_istore (lv' := [(9, .int (0 : Int32)), (0, .ref zx0), (1, .ref zx1), (2, .ref zx2), (3, .ref zx3), (4, .ref zx4), (5, .ref zx5), (6, .ref zx6), (7, .ref zx7), (8, .ref zx8)]) hx hb dL_goes_1 hl (by decide) rfl (fun ls hl => ?_)
  refine lv_iconst (v := (0 : Int32)) hx hb dL_goes_3 (by decide) ?_
  refine lv_istore (lv' := [(10, .int (0 : Int32)), (9, .int (0 : Int32)), (0, .ref zx0), (1, .ref zx1), (2, .ref zx2), (3, .ref zx3), (4, .ref zx4), (5, .ref zx5), (6, .ref zx6), (7, .ref zx7), (8, .ref zx8)]) hx hb dL_goes_4 hl (by decide) rfl (fun ls hl => ?_)
  exact w9_goes_6 C0 hr hz fl fl I _ _ _ zx0 zx1 zx2 zx3 zx4 zx5 zx6 zx7 zx8 (0 : Int32) (0 : Int32) zt0 zt1 zt2 zt3 zt4 zt5 zt6 zt7 zt8 hw (lv_sub hl [2, 3, 4, 5, 6, 7, 8, 9, 10, 1, 0] rfl) hf
noncomputable def m9_insert_5b (fl : Nat) (len : Nat → Nat) (X : Xm) (zr5 : Im → Nat → Nat → Nat → Int32 → Int32 → Int32 → Int32 → Option (Im)) (I : Im) (zx0 : Nat) (zx1 : Nat) (zx2 : Nat) (zx3 : Int32) (zx4 : Int32) (zx5 : Int32) (zx6 : Int32) : Option (Im) :=
  if zx6 ≤ zx3 then
    ck (inb zx3 (len zx1) = true) <|
    lt (pA I zx1 (zx3).toNatClampNeg zx4) fun zI3 =>
    ck (inb zx3 (len zx2) = true) <|
    lt (pA zI3 zx2 (zx3).toNatClampNeg zx5) fun zI5 =>
    ck (inb (5 : Int32) (len zx0) = true) <|
    lt (pA zI5 zx0 ((5 : Int32)).toNatClampNeg ((gA zI5 zx0 ((5 : Int32)).toNatClampNeg) + (1 : Int32))) fun zI7 =>
    some (zI7)
  else
    ck (inb (zx6 - (1 : Int32)) (len zx1) = true) <|
    ck (inb zx6 (len zx1) = true) <|
    lt (pA I zx1 (zx6).toNatClampNeg (gA I zx1 ((zx6 - (1 : Int32))).toNatClampNeg)) fun zI10 =>
    ck (inb (zx6 - (1 : Int32)) (len zx2) = true) <|
    ck (inb zx6 (len zx2) = true) <|
    lt (pA zI10 zx2 (zx6).toNatClampNeg (gA zI10 zx2 ((zx6 - (1 : Int32))).toNatClampNeg)) fun zI13 =>
    lt (zx6 + (-1)) fun zv14 =>
    zr5 zI13 zx0 zx1 zx2 zx3 zx4 zx5 zv14
noncomputable def m9_insert_5 (fl : Nat) (len : Nat → Nat) (X : Xm) (n : Nat) : Im → Nat → Nat → Nat → Int32 → Int32 → Int32 → Int32 → Option (Im) :=
  Nat.rec (fun _ _ _ _ _ _ _ _ => none) (fun _ r => m9_insert_5b fl len X r) n
set_option maxHeartbeats 4000000 in
set_option maxRecDepth 100000 in
theorem w9_insert_5b {p : Program} {l : Launch} {e : Env} {s : State} {m : MethodId} {args : Array Value} {below : List Frame} {meth : Method} {c : Code} {E : EN} {G : GM} {X : Xm} (C0 : CX p s m args meth c E cL_insert RL 7) (hr : meth.sig.returnType = none) (hz : s.heap.size + 0 ≤ eB E + G.1) {rr : Im} (fl : Nat) (zr5 : Im → Nat → Nat → Nat → Int32 → Int32 → Int32 → Int32 → Option (Im)) (zhr5 : ∀ (I : Im) (H : Heap) (locs : List Loc) (ls : Array Slot) (zx0 : Nat) (zx1 : Nat) (zx2 : Nat) (zx3 : Int32) (zx4 : Int32) (zx5 : Int32) (zx6 : Int32) (zt0 : okA E G 11 zx0) (zt1 : okA E G 11 zx1) (zt2 : okA E G 11 zx2), WD E G I X s.heap H locs → lv_has ls 7 [(0, .ref zx0), (1, .ref zx1), (2, .ref zx2), (3, .int zx3), (4, .int zx4), (5, .int zx5), (6, .int zx6)] → zr5 I zx0 zx1 zx2 zx3 zx4 zx5 zx6 = some rr → W p l e ({ frames := 0, cells := 0, slots := 0, locals := 0 } : Room) s m args below meth c H locs 0 0 (MQ below (QV E G rr X) args s 0 0 (eA E)) (F0 m 5 ls [])) : ∀ (I : Im) (H : Heap) (locs : List Loc) (ls : Array Slot) (zx0 : Nat) (zx1 : Nat) (zx2 : Nat) (zx3 : Int32) (zx4 : Int32) (zx5 : Int32) (zx6 : Int32) (zt0 : okA E G 11 zx0) (zt1 : okA E G 11 zx1) (zt2 : okA E G 11 zx2), WD E G I X s.heap H locs → lv_has ls 7 [(0, .ref zx0), (1, .ref zx1), (2, .ref zx2), (3, .int zx3), (4, .int zx4), (5, .int zx5), (6, .int zx6)] → m9_insert_5b fl G.2.2 X zr5 I zx0 zx1 zx2 zx3 zx4 zx5 zx6 = some rr → W p l e ({ frames := 0, cells := 0, slots := 0, locals := 0 } : Room) s m args below meth c H locs 0 0 (MQ below (QV E G rr X) args s 0 0 (eA E)) (F0 m 5 ls []) := by
  intro I H locs ls zx0 zx1 zx2 zx3 zx4 zx5 zx6 zt0 zt1 zt2 hw hl hf
  unfold m9_insert_5b at hf
  have hx := C0.1; have hb := C0.2.1; have hml := C0.2.2.1; have hown := C0.2.2.2.1; have hts := C0.2.2.2.2.1
  refine lv_iload hx hb dL_insert_5 (lv_at hl 6 rfl) ?_
  refine lv_iload_n hx hb dL_insert_7 rfl (lv_at hl 3 rfl) ?_
  refine lv_icmp_le (tgt := 37) hx hb dL_insert_8 (by decide) (fun zc1 => ?_) (fun zc1 => ?_)
  · have hf := ite_t hf zc1
    refine lv_aload_n hx hb dL_insert_37 rfl (lv_at hl 1 rfl) ?_
    refine lv_iload_n hx hb dL_insert_38 rfl (lv_at hl 3 rfl) ?_
    refine lv_iload hx hb dL_insert_39 (lv_at hl 4 rfl) ?_
    obtain ⟨zhb2, hf⟩ := ck_some hf
    obtain ⟨zI3, ezI3⟩ : ∃ y : Im, y = pA I zx1 (zx3).toNatClampNeg zx4 := ⟨_, rfl⟩
    have hf := lt_at hf ezI3
    refine x_iast C0 hz hw zt1 zhb2 dL_insert_41 ezI3 (fun H locs hw => ?_)
    refine lv_aload_n hx hb dL_insert_42 rfl (lv_at hl 2 rfl) ?_
    refine lv_iload_n hx hb dL_insert_43 rfl (lv_at hl 3 rfl) ?_
    refine lv_iload hx hb dL_insert_44 (lv_at hl 5 rfl) ?_
    obtain ⟨zhb4, hf⟩ := ck_some hf
    obtain ⟨zI5, ezI5⟩ : ∃ y : Im, y = pA zI3 zx2 (zx3).toNatClampNeg zx5 := ⟨_, rfl⟩
    have hf := lt_at hf ezI5
    refine x_iast C0 hz hw zt2 zhb4 dL_insert_46 ezI5 (fun H locs hw => ?_)
    refine lv_aload_n hx hb dL_insert_47 rfl (lv_at hl 0 rfl) ?_
    refine lv_iconst (v := (5 : Int32)) hx hb dL_insert_48 (by decide) ?_
    refine lv_dup2_11 hx hb dL_insert_49 rfl rfl ?_
    obtain ⟨zhb6, hf⟩ := ck_some hf
    refine x_iald C0 hw zt0 zhb6 dL_insert_50 ?_
    refine lv_iconst (v := (1 : Int32)) hx hb dL_insert_51 (by decide) ?_
    refine lv_iadd hx hb dL_insert_52 ?_
    obtain ⟨zI7, ezI7⟩ : ∃ y : Im, y = pA zI5 zx0 ((5 : Int32)).toNatClampNeg ((gA zI5 zx0 ((5 : Int32)).toNatClampNeg) + (1 : Int32)) := ⟨_, rfl⟩
    have hf := lt_at hf ezI7
    refine x_iast C0 hz hw zt0 zhb6 dL_insert_53 ezI7 (fun H locs hw => ?_)
    obtain rfl := Option.some.inj hf
    exact x_vret C0 hr hw dL_insert_54
  · have hf := ite_f hf zc1
    refine lv_aload_n hx hb dL_insert_11 rfl (lv_at hl 1 rfl) ?_
    refine lv_iload hx hb dL_insert_12 (lv_at hl 6 rfl) ?_
    refine lv_aload_n hx hb dL_insert_14 rfl (lv_at hl 1 rfl) ?_
    refine lv_iload hx hb dL_insert_15 (lv_at hl 6 rfl) ?_
    refine lv_iconst (v := (1 : Int32)) hx hb dL_insert_17 (by decide) ?_
    refine lv_isub hx hb dL_insert_18 ?_
    obtain ⟨zhb8, hf⟩ := ck_some hf
    refine x_iald C0 hw zt1 zhb8 dL_insert_19 ?_
    obtain ⟨zhb9, hf⟩ := ck_some hf
    obtain ⟨zI10, ezI10⟩ : ∃ y : Im, y = pA I zx1 (zx6).toNatClampNeg (gA I zx1 ((zx6 - (1 : Int32))).toNatClampNeg) := ⟨_, rfl⟩
    have hf := lt_at hf ezI10
    refine x_iast C0 hz hw zt1 zhb9 dL_insert_20 ezI10 (fun H locs hw => ?_)
    refine lv_aload_n hx hb dL_insert_21 rfl (lv_at hl 2 rfl) ?_
    refine lv_iload hx hb dL_insert_22 (lv_at hl 6 rfl) ?_
    refine lv_aload_n hx hb dL_insert_24 rfl (lv_at hl 2 rfl) ?_
    refine lv_iload hx hb dL_insert_25 (lv_at hl 6 rfl) ?_
    refine lv_iconst (v := (1 : Int32)) hx hb dL_insert_27 (by decide) ?_
    refine lv_isub hx hb dL_insert_28 ?_
    obtain ⟨zhb11, hf⟩ := ck_some hf
    refine x_iald C0 hw zt2 zhb11 dL_insert_29 ?_
    obtain ⟨zhb12, hf⟩ := ck_some hf
    obtain ⟨zI13, ezI13⟩ : ∃ y : Im, y = pA zI10 zx2 (zx6).toNatClampNeg (gA zI10 zx2 ((zx6 - (1 : Int32))).toNatClampNeg) := ⟨_, rfl⟩
    have hf := lt_at hf ezI13
    refine x_iast C0 hz hw zt2 zhb12 dL_insert_30 ezI13 (fun H locs hw => ?_)
    obtain ⟨zv14, ezv14⟩ : ∃ y : Int32, y = zx6 + (-1) := ⟨_, rfl⟩
    have hf := lt_at hf ezv14
    refine lv_iinc (v := zv14) (lv' := [(6, .int zv14), (0, .ref zx0), (1, .ref zx1), (2, .ref zx2), (3, .int zx3), (4, .int zx4), (5, .int zx5)]) hx hb dL_insert_31 hl (k := 6) rfl (by rw [ezv14]; rfl) (by decide) rfl (fun ls hl => ?_)
    refine lv_goto (tgt := 5) hx hb dL_insert_34 (by decide) ?_
    exact zhr5 zI13 _ _ _ zx0 zx1 zx2 zx3 zx4 zx5 zv14 zt0 zt1 zt2 hw (lv_sub hl [1, 2, 3, 4, 5, 6, 0] rfl) hf
theorem w9_insert_5 {p : Program} {l : Launch} {e : Env} {s : State} {m : MethodId} {args : Array Value} {below : List Frame} {meth : Method} {c : Code} {E : EN} {G : GM} {X : Xm} (C0 : CX p s m args meth c E cL_insert RL 7) (hr : meth.sig.returnType = none) (hz : s.heap.size + 0 ≤ eB E + G.1) {rr : Im} (fl : Nat) : ∀ (n : Nat) (I : Im) (H : Heap) (locs : List Loc) (ls : Array Slot) (zx0 : Nat) (zx1 : Nat) (zx2 : Nat) (zx3 : Int32) (zx4 : Int32) (zx5 : Int32) (zx6 : Int32) (zt0 : okA E G 11 zx0) (zt1 : okA E G 11 zx1) (zt2 : okA E G 11 zx2), WD E G I X s.heap H locs → lv_has ls 7 [(0, .ref zx0), (1, .ref zx1), (2, .ref zx2), (3, .int zx3), (4, .int zx4), (5, .int zx5), (6, .int zx6)] → m9_insert_5 fl G.2.2 X n I zx0 zx1 zx2 zx3 zx4 zx5 zx6 = some rr → W p l e ({ frames := 0, cells := 0, slots := 0, locals := 0 } : Room) s m args below meth c H locs 0 0 (MQ below (QV E G rr X) args s 0 0 (eA E)) (F0 m 5 ls []) := by
  intro n
  induction n with
  | zero => intro I H locs ls zx0 zx1 zx2 zx3 zx4 zx5 zx6 zt0 zt1 zt2 hw hl hf; exact absurd (show (none : Option (Im)) = some rr from hf) (by simp)
  | succ n ih => intro I H locs ls zx0 zx1 zx2 zx3 zx4 zx5 zx6 zt0 zt1 zt2 hw hl hf; exact w9_insert_5b C0 hr hz fl _ ih I H locs ls zx0 zx1 zx2 zx3 zx4 zx5 zx6 zt0 zt1 zt2 hw hl hf
noncomputable def m9_insert (fl : Nat) (len : Nat → Nat) (X : Xm) (I : Im) (zx0 : Nat) (zx1 : Nat) (zx2 : Nat) (zx3 : Int32) (zx4 : Int32) (zx5 : Int32) : Option (Im) :=
  ck (inb (5 : Int32) (len zx0) = true) <|
  lt ((gA I zx0 ((5 : Int32)).toNatClampNeg)) fun zv2 =>
  m9_insert_5 fl len X fl I zx0 zx1 zx2 zx3 zx4 zx5 zv2
theorem hy9_insert : yL_insert.cls = RL ∧ yL_insert.cls ≠ "java/lang/invoke/MethodHandle" ∧ yL_insert.cls ≠ "java/lang/invoke/VarHandle" ∧ (parseMethodDescriptor yL_insert.desc).map (fun d => d.parameters.length) = some 6 := ⟨rfl, by decide +kernel, by decide +kernel, by decide +kernel⟩
set_option maxHeartbeats 4000000 in
set_option maxRecDepth 100000 in
theorem c9_insert (l : Launch) (E : EN) (G : GM) (fl : Nat) (X : Xm) (I : Im) (zx0 : Nat) (zx1 : Nat) (zx2 : Nat) (zx3 : Int32) (zx4 : Int32) (zx5 : Int32) (zt0 : okA E G 11 zx0) (zt1 : okA E G 11 zx1) (zt2 : okA E G 11 zx2) {rr : Im} (hf : m9_insert fl G.2.2 X I zx0 zx1 zx2 zx3 zx4 zx5 = some rr) : MT l yL_insert cL_insert 7 none ({ frames := 0, cells := 0, slots := 0, locals := 0 } : Room) E G I X [.ref zx0, .ref zx1, .ref zx2, .int zx3, .int zx4, .int zx5] (QV E G rr X) 0 0 := by
  refine Met.ofW (cc := cL_insert) (maxL := 7) (ret := none) (by decide +kernel) rfl ?_
  intro p e s m args below meth c s₁ B hml hv
  obtain ⟨rfl, hw0, hSE⟩ := hv
  have C0 : CX p s m ([.ref zx0, .ref zx1, .ref zx2, .int zx3, .int zx4, .int zx5] : List Value).toArray meth c E cL_insert RL 7 := ⟨B.exec, B.bytes, hml, findClass_of_methodNamed B.named, fun w hw => atoms_spec (ws := WS yL_insert cL_insert 7 none) B.pre w (List.mem_cons_of_mem _ hw), B.notSynchronized, hSE⟩
  have hz : s.heap.size + 0 ≤ eB E + G.1 := Nat.le_of_eq hw0.2.1
  have hw : WD E G I X s.heap s.heap [] := ⟨hw0, va_S.rf⟩
  have hr := B.returns
  have hx := C0.1; have hb := C0.2.1; have hml := C0.2.2.1; have hown := C0.2.2.2.1; have hts := C0.2.2.2.2.1
  have hl := lv_entry ([.ref zx0, .ref zx1, .ref zx2, .int zx3, .int zx4, .int zx5]) (n := 7) (Nat.le_of_ble_eq_true rfl)
  rw [lg_entry_eq]
  generalize (lg_sl ([.ref zx0, .ref zx1, .ref zx2, .int zx3, .int zx4, .int zx5]) ++ List.replicate (7 - (lg_sl ([.ref zx0, .ref zx1, .ref zx2, .int zx3, .int zx4, .int zx5])).length) Slot.unset).toArray = ls at hl ⊢
  have hl : lv_has ls 7 [(0, .ref zx0), (1, .ref zx1), (2, .ref zx2), (3, .int zx3), (4, .int zx4), (5, .int zx5)] := hl
  unfold m9_insert at hf
  refine lv_aload_n hx hb dL_insert_0 rfl (lv_at hl 0 rfl) ?_
  refine lv_iconst (v := (5 : Int32)) hx hb dL_insert_1 (by decide) ?_
  obtain ⟨zhb1, hf⟩ := ck_some hf
  refine x_iald C0 hw zt0 zhb1 dL_insert_2 ?_
  refine lv_topi (fun zv2 ezv2 => ?_)
  have hf := lt_at hf ezv2
  refine lv_istore (lv' := [(6, .int zv2), (0, .ref zx0), (1, .ref zx1), (2, .ref zx2), (3, .int zx3), (4, .int zx4), (5, .int zx5)]) hx hb dL_insert_3 hl (by decide) rfl (fun ls hl => ?_)
  exact w9_insert_5 C0 hr hz fl fl I _ _ _ zx0 zx1 zx2 zx3 zx4 zx5 zv2 zt0 zt1 zt2 hw (lv_sub hl [1, 2, 3, 4, 5, 6, 0] rfl) hf
noncomputable def m9_take_10b (fl : Nat) (len : Nat → Nat) (X : Xm) (zr10 : Im → Nat → Nat → Nat → Int32 → Option (Im)) (I : Im) (zx0 : Nat) (zx1 : Nat) (zx2 : Nat) (zx4 : Int32) : Option (Im) :=
  ck (inb (5 : Int32) (len zx0) = true) <|
  if (gA I zx0 ((5 : Int32)).toNatClampNeg) ≤ zx4 then
    some (I)
  else
    ck (inb (zx4 + (1 : Int32)) (len zx1) = true) <|
    ck (inb zx4 (len zx1) = true) <|
    lt (pA I zx1 (zx4).toNatClampNeg (gA I zx1 ((zx4 + (1 : Int32))).toNatClampNeg)) fun zI5 =>
    ck (inb (zx4 + (1 : Int32)) (len zx2) = true) <|
    ck (inb zx4 (len zx2) = true) <|
    lt (pA zI5 zx2 (zx4).toNatClampNeg (gA zI5 zx2 ((zx4 + (1 : Int32))).toNatClampNeg)) fun zI8 =>
    lt (zx4 + 1) fun zv9 =>
    zr10 zI8 zx0 zx1 zx2 zv9
noncomputable def m9_take_10 (fl : Nat) (len : Nat → Nat) (X : Xm) (n : Nat) : Im → Nat → Nat → Nat → Int32 → Option (Im) :=
  Nat.rec (fun _ _ _ _ _ => none) (fun _ r => m9_take_10b fl len X r) n
set_option maxHeartbeats 4000000 in
set_option maxRecDepth 100000 in
theorem w9_take_10b {p : Program} {l : Launch} {e : Env} {s : State} {m : MethodId} {args : Array Value} {below : List Frame} {meth : Method} {c : Code} {E : EN} {G : GM} {X : Xm} (C0 : CX p s m args meth c E cL_take RL 5) (hr : meth.sig.returnType = none) (hz : s.heap.size + 0 ≤ eB E + G.1) {rr : Im} (fl : Nat) (zr10 : Im → Nat → Nat → Nat → Int32 → Option (Im)) (zhr10 : ∀ (I : Im) (H : Heap) (locs : List Loc) (ls : Array Slot) (zx0 : Nat) (zx1 : Nat) (zx2 : Nat) (zx4 : Int32) (zt0 : okA E G 11 zx0) (zt1 : okA E G 11 zx1) (zt2 : okA E G 11 zx2), WD E G I X s.heap H locs → lv_has ls 5 [(0, .ref zx0), (1, .ref zx1), (2, .ref zx2), (4, .int zx4)] → zr10 I zx0 zx1 zx2 zx4 = some rr → W p l e ({ frames := 0, cells := 0, slots := 0, locals := 0 } : Room) s m args below meth c H locs 0 0 (MQ below (QV E G rr X) args s 0 0 (eA E)) (F0 m 10 ls [])) : ∀ (I : Im) (H : Heap) (locs : List Loc) (ls : Array Slot) (zx0 : Nat) (zx1 : Nat) (zx2 : Nat) (zx4 : Int32) (zt0 : okA E G 11 zx0) (zt1 : okA E G 11 zx1) (zt2 : okA E G 11 zx2), WD E G I X s.heap H locs → lv_has ls 5 [(0, .ref zx0), (1, .ref zx1), (2, .ref zx2), (4, .int zx4)] → m9_take_10b fl G.2.2 X zr10 I zx0 zx1 zx2 zx4 = some rr → W p l e ({ frames := 0, cells := 0, slots := 0, locals := 0 } : Room) s m args below meth c H locs 0 0 (MQ below (QV E G rr X) args s 0 0 (eA E)) (F0 m 10 ls []) := by
  intro I H locs ls zx0 zx1 zx2 zx4 zt0 zt1 zt2 hw hl hf
  unfold m9_take_10b at hf
  have hx := C0.1; have hb := C0.2.1; have hml := C0.2.2.1; have hown := C0.2.2.2.1; have hts := C0.2.2.2.2.1
  refine lv_iload hx hb dL_take_10 (lv_at hl 3 rfl) ?_
  refine lv_aload_n hx hb dL_take_12 rfl (lv_at hl 0 rfl) ?_
  refine lv_iconst (v := (5 : Int32)) hx hb dL_take_13 (by decide) ?_
  obtain ⟨zhb1, hf⟩ := ck_some hf
  refine x_iald C0 hw zt0 zhb1 dL_take_14 ?_
  refine lv_icmp_ge (tgt := 44) hx hb dL_take_15 (by decide) (fun zc2 => ?_) (fun zc2 => ?_)
  · have hf := ite_t hf zc2
    obtain rfl := Option.some.inj hf
    exact x_vret C0 hr hw dL_take_44
  · have hf := ite_f hf zc2
    refine lv_aload_n hx hb dL_take_18 rfl (lv_at hl 1 rfl) ?_
    refine lv_iload hx hb dL_take_19 (lv_at hl 3 rfl) ?_
    refine lv_aload_n hx hb dL_take_21 rfl (lv_at hl 1 rfl) ?_
    refine lv_iload hx hb dL_take_22 (lv_at hl 3 rfl) ?_
    refine lv_iconst (v := (1 : Int32)) hx hb dL_take_24 (by decide) ?_
    refine lv_iadd hx hb dL_take_25 ?_
    obtain ⟨zhb3, hf⟩ := ck_some hf
    refine x_iald C0 hw zt1 zhb3 dL_take_26 ?_
    obtain ⟨zhb4, hf⟩ := ck_some hf
    obtain ⟨zI5, ezI5⟩ : ∃ y : Im, y = pA I zx1 (zx4).toNatClampNeg (gA I zx1 ((zx4 + (1 : Int32))).toNatClampNeg) := ⟨_, rfl⟩
    have hf := lt_at hf ezI5
    refine x_iast C0 hz hw zt1 zhb4 dL_take_27 ezI5 (fun H locs hw => ?_)
    refine lv_aload_n hx hb dL_take_28 rfl (lv_at hl 2 rfl) ?_
    refine lv_iload hx hb dL_take_29 (lv_at hl 3 rfl) ?_
    refine lv_aload_n hx hb dL_take_31 rfl (lv_at hl 2 rfl) ?_
    refine lv_iload hx hb dL_take_32 (lv_at hl 3 rfl) ?_
    refine lv_iconst (v := (1 : Int32)) hx hb dL_take_34 (by decide) ?_
    refine lv_iadd hx hb dL_take_35 ?_
    obtain ⟨zhb6, hf⟩ := ck_some hf
    refine x_iald C0 hw zt2 zhb6 dL_take_36 ?_
    obtain ⟨zhb7, hf⟩ := ck_some hf
    obtain ⟨zI8, ezI8⟩ : ∃ y : Im, y = pA zI5 zx2 (zx4).toNatClampNeg (gA zI5 zx2 ((zx4 + (1 : Int32))).toNatClampNeg) := ⟨_, rfl⟩
    have hf := lt_at hf ezI8
    refine x_iast C0 hz hw zt2 zhb7 dL_take_37 ezI8 (fun H locs hw => ?_)
    obtain ⟨zv9, ezv9⟩ : ∃ y : Int32, y = zx4 + 1 := ⟨_, rfl⟩
    have hf := lt_at hf ezv9
    refine lv_iinc (v := zv9) (lv' := [(4, .int zv9), (0, .ref zx0), (1, .ref zx1), (2, .ref zx2)]) hx hb dL_take_38 hl (k := 3) rfl (by rw [ezv9]; rfl) (by decide) rfl (fun ls hl => ?_)
    refine lv_goto (tgt := 10) hx hb dL_take_41 (by decide) ?_
    exact zhr10 zI8 _ _ _ zx0 zx1 zx2 zv9 zt0 zt1 zt2 hw (lv_sub hl [1, 2, 3, 0] rfl) hf
theorem w9_take_10 {p : Program} {l : Launch} {e : Env} {s : State} {m : MethodId} {args : Array Value} {below : List Frame} {meth : Method} {c : Code} {E : EN} {G : GM} {X : Xm} (C0 : CX p s m args meth c E cL_take RL 5) (hr : meth.sig.returnType = none) (hz : s.heap.size + 0 ≤ eB E + G.1) {rr : Im} (fl : Nat) : ∀ (n : Nat) (I : Im) (H : Heap) (locs : List Loc) (ls : Array Slot) (zx0 : Nat) (zx1 : Nat) (zx2 : Nat) (zx4 : Int32) (zt0 : okA E G 11 zx0) (zt1 : okA E G 11 zx1) (zt2 : okA E G 11 zx2), WD E G I X s.heap H locs → lv_has ls 5 [(0, .ref zx0), (1, .ref zx1), (2, .ref zx2), (4, .int zx4)] → m9_take_10 fl G.2.2 X n I zx0 zx1 zx2 zx4 = some rr → W p l e ({ frames := 0, cells := 0, slots := 0, locals := 0 } : Room) s m args below meth c H locs 0 0 (MQ below (QV E G rr X) args s 0 0 (eA E)) (F0 m 10 ls []) := by
  intro n
  induction n with
  | zero => intro I H locs ls zx0 zx1 zx2 zx4 zt0 zt1 zt2 hw hl hf; exact absurd (show (none : Option (Im)) = some rr from hf) (by simp)
  | succ n ih => intro I H locs ls zx0 zx1 zx2 zx4 zt0 zt1 zt2 hw hl hf; exact w9_take_10b C0 hr hz fl _ ih I H locs ls zx0 zx1 zx2 zx4 zt0 zt1 zt2 hw hl hf
noncomputable def m9_take (fl : Nat) (len : Nat → Nat) (X : Xm) (I : Im) (zx0 : Nat) (zx1 : Nat) (zx2 : Nat) (zx3 : Int32) : Option (Im) :=
  ck (inb (5 : Int32) (len zx0) = true) <|
  lt (pA I zx0 ((5 : Int32)).toNatClampNeg ((gA I zx0 ((5 : Int32)).toNatClampNeg) - (1 : Int32))) fun zI2 =>
  m9_take_10 fl len X fl zI2 zx0 zx1 zx2 zx3
theorem hy9_take : yL_take.cls = RL ∧ yL_take.cls ≠ "java/lang/invoke/MethodHandle" ∧ yL_take.cls ≠ "java/lang/invoke/VarHandle" ∧ (parseMethodDescriptor yL_take.desc).map (fun d => d.parameters.length) = some 4 := ⟨rfl, by decide +kernel, by decide +kernel, by decide +kernel⟩
set_option maxHeartbeats 4000000 in
set_option maxRecDepth 100000 in
theorem c9_take (l : Launch) (E : EN) (G : GM) (fl : Nat) (X : Xm) (I : Im) (zx0 : Nat) (zx1 : Nat) (zx2 : Nat) (zx3 : Int32) (zt0 : okA E G 11 zx0) (zt1 : okA E G 11 zx1) (zt2 : okA E G 11 zx2) {rr : Im} (hf : m9_take fl G.2.2 X I zx0 zx1 zx2 zx3 = some rr) : MT l yL_take cL_take 5 none ({ frames := 0, cells := 0, slots := 0, locals := 0 } : Room) E G I X [.ref zx0, .ref zx1, .ref zx2, .int zx3] (QV E G rr X) 0 0 := by
  refine Met.ofW (cc := cL_take) (maxL := 5) (ret := none) (by decide +kernel) rfl ?_
  intro p e s m args below meth c s₁ B hml hv
  obtain ⟨rfl, hw0, hSE⟩ := hv
  have C0 : CX p s m ([.ref zx0, .ref zx1, .ref zx2, .int zx3] : List Value).toArray meth c E cL_take RL 5 := ⟨B.exec, B.bytes, hml, findClass_of_methodNamed B.named, fun w hw => atoms_spec (ws := WS yL_take cL_take 5 none) B.pre w (List.mem_cons_of_mem _ hw), B.notSynchronized, hSE⟩
  have hz : s.heap.size + 0 ≤ eB E + G.1 := Nat.le_of_eq hw0.2.1
  have hw : WD E G I X s.heap s.heap [] := ⟨hw0, va_S.rf⟩
  have hr := B.returns
  have hx := C0.1; have hb := C0.2.1; have hml := C0.2.2.1; have hown := C0.2.2.2.1; have hts := C0.2.2.2.2.1
  have hl := lv_entry ([.ref zx0, .ref zx1, .ref zx2, .int zx3]) (n := 5) (Nat.le_of_ble_eq_true rfl)
  rw [lg_entry_eq]
  generalize (lg_sl ([.ref zx0, .ref zx1, .ref zx2, .int zx3]) ++ List.replicate (5 - (lg_sl ([.ref zx0, .ref zx1, .ref zx2, .int zx3])).length) Slot.unset).toArray = ls at hl ⊢
  have hl : lv_has ls 5 [(0, .ref zx0), (1, .ref zx1), (2, .ref zx2), (3, .int zx3)] := hl
  unfold m9_take at hf
  refine lv_aload_n hx hb dL_take_0 rfl (lv_at hl 0 rfl) ?_
  refine lv_iconst (v := (5 : Int32)) hx hb dL_take_1 (by decide) ?_
  refine lv_dup2_11 hx hb dL_take_2 rfl rfl ?_
  obtain ⟨zhb1, hf⟩ := ck_some hf
  refine x_iald C0 hw zt0 zhb1 dL_take_3 ?_
  refine lv_iconst (v := (1 : Int32)) hx hb dL_take_4 (by decide) ?_
  refine lv_isub hx hb dL_take_5 ?_
  obtain ⟨zI2, ezI2⟩ : ∃ y : Im, y = pA I zx0 ((5 : Int32)).toNatClampNeg ((gA I zx0 ((5 : Int32)).toNatClampNeg) - (1 : Int32)) := ⟨_, rfl⟩
  have hf := lt_at hf ezI2
  refine x_iast C0 hz hw zt0 zhb1 dL_take_6 ezI2 (fun H locs hw => ?_)
  refine lv_iload_n hx hb dL_take_7 rfl (lv_at hl 3 rfl) ?_
  refine lv_istore (lv' := [(4, .int zx3), (0, .ref zx0), (1, .ref zx1), (2, .ref zx2), (3, .int zx3)]) hx hb dL_take_8 hl (by decide) rfl (fun ls hl => ?_)
  exact w9_take_10 C0 hr hz fl fl zI2 _ _ _ zx0 zx1 zx2 zx3 zt0 zt1 zt2 hw (lv_sub hl [1, 2, 3, 0] rfl) hf
noncomputable def m9_rankFor_22 (fl : Nat) (len : Nat → Nat) (X : Xm) (I : Im) (zx3 : Int32) : Option (Int32) :=
  some (zx3)
set_option maxHeartbeats 4000000 in
set_option maxRecDepth 100000 in
theorem w9_rankFor_22 {p : Program} {l : Launch} {e : Env} {s : State} {m : MethodId} {args : Array Value} {below : List Frame} {meth : Method} {c : Code} {E : EN} {G : GM} {X : Xm} {I : Im} (C0 : CX p s m args meth c E cL_rankFor RL 4) (hr : meth.sig.returnType = (some .int)) (hz : s.heap.size + 0 ≤ eB E + G.1) {rr : Int32} (fl : Nat) : ∀ (H : Heap) (locs : List Loc) (ls : Array Slot) (zx3 : Int32) , WD E G I X s.heap H locs → lv_has ls 4 [(3, .int zx3)] → m9_rankFor_22 fl G.2.2 X I zx3 = some rr → W p l e ({ frames := 0, cells := 0, slots := 0, locals := 0 } : Room) s m args below meth c H locs 0 0 (MQ below (QI E G rr I X) args s 0 0 (eA E)) (F0 m 22 ls []) := by
  intro H locs ls zx3 hw hl hf
  unfold m9_rankFor_22 at hf
  have hx := C0.1; have hb := C0.2.1; have hml := C0.2.2.1; have hown := C0.2.2.2.1; have hts := C0.2.2.2.2.1
  refine lv_iload_n hx hb dL_rankFor_22 rfl (lv_at hl 0 rfl) ?_
  obtain rfl := Option.some.inj hf
  exact x_iret C0 hr hw dL_rankFor_23
noncomputable def m9_rankFor_2b (fl : Nat) (len : Nat → Nat) (X : Xm) (I : Im) (zr2 : Nat → Nat → Int32 → Int32 → Option (Int32)) (zx0 : Nat) (zx1 : Nat) (zx2 : Int32) (zx3 : Int32) : Option (Int32) :=
  ck (inb (5 : Int32) (len zx0) = true) <|
  if (gA I zx0 ((5 : Int32)).toNatClampNeg) ≤ zx3 then
    m9_rankFor_22 fl len X I zx3
  else
    ck (inb zx3 (len zx1) = true) <|
    if zx2 < (gA I zx1 (zx3).toNatClampNeg) then
      m9_rankFor_22 fl len X I zx3
    else
      lt (zx3 + 1) fun zv5 =>
      zr2 zx0 zx1 zx2 zv5
noncomputable def m9_rankFor_2 (fl : Nat) (len : Nat → Nat) (X : Xm) (I : Im) (n : Nat) : Nat → Nat → Int32 → Int32 → Option (Int32) :=
  Nat.rec (fun _ _ _ _ => none) (fun _ r => m9_rankFor_2b fl len X I r) n
set_option maxHeartbeats 4000000 in
set_option maxRecDepth 100000 in
theorem w9_rankFor_2b {p : Program} {l : Launch} {e : Env} {s : State} {m : MethodId} {args : Array Value} {below : List Frame} {meth : Method} {c : Code} {E : EN} {G : GM} {X : Xm} {I : Im} (C0 : CX p s m args meth c E cL_rankFor RL 4) (hr : meth.sig.returnType = (some .int)) (hz : s.heap.size + 0 ≤ eB E + G.1) {rr : Int32} (fl : Nat) (zr2 : Nat → Nat → Int32 → Int32 → Option (Int32)) (zhr2 : ∀ (H : Heap) (locs : List Loc) (ls : Array Slot) (zx0 : Nat) (zx1 : Nat) (zx2 : Int32) (zx3 : Int32) (zt0 : okA E G 11 zx0) (zt1 : okA E G 11 zx1), WD E G I X s.heap H locs → lv_has ls 4 [(0, .ref zx0), (1, .ref zx1), (2, .int zx2), (3, .int zx3)] → zr2 zx0 zx1 zx2 zx3 = some rr → W p l e ({ frames := 0, cells := 0, slots := 0, locals := 0 } : Room) s m args below meth c H locs 0 0 (MQ below (QI E G rr I X) args s 0 0 (eA E)) (F0 m 2 ls [])) : ∀ (H : Heap) (locs : List Loc) (ls : Array Slot) (zx0 : Nat) (zx1 : Nat) (zx2 : Int32) (zx3 : Int32) (zt0 : okA E G 11 zx0) (zt1 : okA E G 11 zx1), WD E G I X s.heap H locs → lv_has ls 4 [(0, .ref zx0), (1, .ref zx1), (2, .int zx2), (3, .int zx3)] → m9_rankFor_2b fl G.2.2 X I zr2 zx0 zx1 zx2 zx3 = some rr → W p l e ({ frames := 0, cells := 0, slots := 0, locals := 0 } : Room) s m args below meth c H locs 0 0 (MQ below (QI E G rr I X) args s 0 0 (eA E)) (F0 m 2 ls []) := by
  intro H locs ls zx0 zx1 zx2 zx3 zt0 zt1 hw hl hf
  unfold m9_rankFor_2b at hf
  have hx := C0.1; have hb := C0.2.1; have hml := C0.2.2.1; have hown := C0.2.2.2.1; have hts := C0.2.2.2.2.1
  refine lv_iload_n hx hb dL_rankFor_2 rfl (lv_at hl 3 rfl) ?_
  refine lv_aload_n hx hb dL_rankFor_3 rfl (lv_at hl 0 rfl) ?_
  refine lv_iconst (v := (5 : Int32)) hx hb dL_rankFor_4 (by decide) ?_
  obtain ⟨zhb1, hf⟩ := ck_some hf
  refine x_iald C0 hw zt0 zhb1 dL_rankFor_5 ?_
  refine lv_icmp_ge (tgt := 22) hx hb dL_rankFor_6 (by decide) (fun zc2 => ?_) (fun zc2 => ?_)
  · have hf := ite_t hf zc2
    exact w9_rankFor_22 C0 hr hz fl _ _ _ zx3 hw (lv_sub hl [3] rfl) hf
  · have hf := ite_f hf zc2
    refine lv_aload_n hx hb dL_rankFor_9 rfl (lv_at hl 1 rfl) ?_
    refine lv_iload_n hx hb dL_rankFor_10 rfl (lv_at hl 3 rfl) ?_
    obtain ⟨zhb3, hf⟩ := ck_some hf
    refine x_iald C0 hw zt1 zhb3 dL_rankFor_11 ?_
    refine lv_iload_n hx hb dL_rankFor_12 rfl (lv_at hl 2 rfl) ?_
    refine lv_icmp_gt (tgt := 22) hx hb dL_rankFor_13 (by decide) (fun zc4 => ?_) (fun zc4 => ?_)
    · have hf := ite_t hf zc4
      exact w9_rankFor_22 C0 hr hz fl _ _ _ zx3 hw (lv_sub hl [3] rfl) hf
    · have hf := ite_f hf zc4
      obtain ⟨zv5, ezv5⟩ : ∃ y : Int32, y = zx3 + 1 := ⟨_, rfl⟩
      have hf := lt_at hf ezv5
      refine lv_iinc (v := zv5) (lv' := [(3, .int zv5), (0, .ref zx0), (1, .ref zx1), (2, .int zx2)]) hx hb dL_rankFor_16 hl (k := 3) rfl (by rw [ezv5]; rfl) (by decide) rfl (fun ls hl => ?_)
      refine lv_goto (tgt := 2) hx hb dL_rankFor_19 (by decide) ?_
      exact zhr2 _ _ _ zx0 zx1 zx2 zv5 zt0 zt1 hw (lv_sub hl [1, 2, 3, 0] rfl) hf
theorem w9_rankFor_2 {p : Program} {l : Launch} {e : Env} {s : State} {m : MethodId} {args : Array Value} {below : List Frame} {meth : Method} {c : Code} {E : EN} {G : GM} {X : Xm} {I : Im} (C0 : CX p s m args meth c E cL_rankFor RL 4) (hr : meth.sig.returnType = (some .int)) (hz : s.heap.size + 0 ≤ eB E + G.1) {rr : Int32} (fl : Nat) : ∀ (n : Nat) (H : Heap) (locs : List Loc) (ls : Array Slot) (zx0 : Nat) (zx1 : Nat) (zx2 : Int32) (zx3 : Int32) (zt0 : okA E G 11 zx0) (zt1 : okA E G 11 zx1), WD E G I X s.heap H locs → lv_has ls 4 [(0, .ref zx0), (1, .ref zx1), (2, .int zx2), (3, .int zx3)] → m9_rankFor_2 fl G.2.2 X I n zx0 zx1 zx2 zx3 = some rr → W p l e ({ frames := 0, cells := 0, slots := 0, locals := 0 } : Room) s m args below meth c H locs 0 0 (MQ below (QI E G rr I X) args s 0 0 (eA E)) (F0 m 2 ls []) := by
  intro n
  induction n with
  | zero => intro H locs ls zx0 zx1 zx2 zx3 zt0 zt1 hw hl hf; exact absurd (show (none : Option (Int32)) = some rr from hf) (by simp)
  | succ n ih => intro H locs ls zx0 zx1 zx2 zx3 zt0 zt1 hw hl hf; exact w9_rankFor_2b C0 hr hz fl _ ih H locs ls zx0 zx1 zx2 zx3 zt0 zt1 hw hl hf
noncomputable def m9_rankFor (fl : Nat) (len : Nat → Nat) (X : Xm) (I : Im) (zx0 : Nat) (zx1 : Nat) (zx2 : Int32) : Option (Int32) :=
  m9_rankFor_2 fl len X I fl zx0 zx1 zx2 (0 : Int32)
theorem hy9_rankFor : yL_rankFor.cls = RL ∧ yL_rankFor.cls ≠ "java/lang/invoke/MethodHandle" ∧ yL_rankFor.cls ≠ "java/lang/invoke/VarHandle" ∧ (parseMethodDescriptor yL_rankFor.desc).map (fun d => d.parameters.length) = some 3 := ⟨rfl, by decide +kernel, by decide +kernel, by decide +kernel⟩
set_option maxHeartbeats 4000000 in
set_option maxRecDepth 100000 in
theorem c9_rankFor (l : Launch) (E : EN) (G : GM) (fl : Nat) (X : Xm) (I : Im) (zx0 : Nat) (zx1 : Nat) (zx2 : Int32) (zt0 : okA E G 11 zx0) (zt1 : okA E G 11 zx1) {rr : Int32} (hf : m9_rankFor fl G.2.2 X I zx0 zx1 zx2 = some rr) : MT l yL_rankFor cL_rankFor 4 (some .int) ({ frames := 0, cells := 0, slots := 0, locals := 0 } : Room) E G I X [.ref zx0, .ref zx1, .int zx2] (QI E G rr I X) 0 0 := by
  refine Met.ofW (cc := cL_rankFor) (maxL := 4) (ret := (some .int)) (by decide +kernel) rfl ?_
  intro p e s m args below meth c s₁ B hml hv
  obtain ⟨rfl, hw0, hSE⟩ := hv
  have C0 : CX p s m ([.ref zx0, .ref zx1, .int zx2] : List Value).toArray meth c E cL_rankFor RL 4 := ⟨B.exec, B.bytes, hml, findClass_of_methodNamed B.named, fun w hw => atoms_spec (ws := WS yL_rankFor cL_rankFor 4 (some .int)) B.pre w (List.mem_cons_of_mem _ hw), B.notSynchronized, hSE⟩
  have hz : s.heap.size + 0 ≤ eB E + G.1 := Nat.le_of_eq hw0.2.1
  have hw : WD E G I X s.heap s.heap [] := ⟨hw0, va_S.rf⟩
  have hr := B.returns
  have hx := C0.1; have hb := C0.2.1; have hml := C0.2.2.1; have hown := C0.2.2.2.1; have hts := C0.2.2.2.2.1
  have hl := lv_entry ([.ref zx0, .ref zx1, .int zx2]) (n := 4) (Nat.le_of_ble_eq_true rfl)
  rw [lg_entry_eq]
  generalize (lg_sl ([.ref zx0, .ref zx1, .int zx2]) ++ List.replicate (4 - (lg_sl ([.ref zx0, .ref zx1, .int zx2])).length) Slot.unset).toArray = ls at hl ⊢
  have hl : lv_has ls 4 [(0, .ref zx0), (1, .ref zx1), (2, .int zx2)] := hl
  unfold m9_rankFor at hf
  refine lv_iconst (v := (0 : Int32)) hx hb dL_rankFor_0 (by decide) ?_
  refine lv_istore_n (lv' := [(3, .int (0 : Int32)), (0, .ref zx0), (1, .ref zx1), (2, .int zx2)]) hx hb dL_rankFor_1 rfl hl (by decide) rfl (fun ls hl => ?_)
  exact w9_rankFor_2 C0 hr hz fl fl _ _ _ zx0 zx1 zx2 (0 : Int32) zt0 zt1 hw (lv_sub hl [1, 2, 3, 0] rfl) hf
noncomputable def m9_restart_53b (fl : Nat) (len : Nat → Nat) (X : Xm) (zr53 : Im → Nat → Nat → Int32 → Option (Im)) (I : Im) (zx2 : Nat) (zx4 : Nat) (zx5 : Int32) : Option (Im) :=
  if (8 : Int32) ≤ zx5 then
    some (I)
  else
    ck (inb zx5 (len zx4) = true) <|
    lt (pA I zx4 (zx5).toNatClampNeg (50 : Int32)) fun zI3 =>
    ck (inb (((zx5 / (2 : Int32)) * (4 : Int32)) + (zx5 - zx5 / (2 : Int32) * (2 : Int32))) (len zx2) = true) <|
    lt (pA zI3 zx2 ((((zx5 / (2 : Int32)) * (4 : Int32)) + (zx5 - zx5 / (2 : Int32) * (2 : Int32)))).toNatClampNeg (0 : Int32)) fun zI5 =>
    ck (inb (((zx5 / (2 : Int32)) * (4 : Int32)) + (2 : Int32)) (len zx2) = true) <|
    lt (pA zI5 zx2 ((((zx5 / (2 : Int32)) * (4 : Int32)) + (2 : Int32))).toNatClampNeg (0 : Int32)) fun zI7 =>
    lt (zx5 + 1) fun zv8 =>
    zr53 zI7 zx2 zx4 zv8
noncomputable def m9_restart_53 (fl : Nat) (len : Nat → Nat) (X : Xm) (n : Nat) : Im → Nat → Nat → Int32 → Option (Im) :=
  Nat.rec (fun _ _ _ _ => none) (fun _ r => m9_restart_53b fl len X r) n
set_option maxHeartbeats 4000000 in
set_option maxRecDepth 100000 in
theorem w9_restart_53b {p : Program} {l : Launch} {e : Env} {s : State} {m : MethodId} {args : Array Value} {below : List Frame} {meth : Method} {c : Code} {E : EN} {G : GM} {X : Xm} (C0 : CX p s m args meth c E cL_restart RL 6) (hr : meth.sig.returnType = none) (hz : s.heap.size + 0 ≤ eB E + G.1) {rr : Im} (fl : Nat) (zr53 : Im → Nat → Nat → Int32 → Option (Im)) (zhr53 : ∀ (I : Im) (H : Heap) (locs : List Loc) (ls : Array Slot) (zx2 : Nat) (zx4 : Nat) (zx5 : Int32) (zt2 : okA E G 11 zx2) (zt4 : okA E G 11 zx4), WD E G I X s.heap H locs → lv_has ls 6 [(2, .ref zx2), (4, .ref zx4), (5, .int zx5)] → zr53 I zx2 zx4 zx5 = some rr → W p l e ({ frames := 0, cells := 0, slots := 0, locals := 0 } : Room) s m args below meth c H locs 0 0 (MQ below (QV E G rr X) args s 0 0 (eA E)) (F0 m 53 ls [])) : ∀ (I : Im) (H : Heap) (locs : List Loc) (ls : Array Slot) (zx2 : Nat) (zx4 : Nat) (zx5 : Int32) (zt2 : okA E G 11 zx2) (zt4 : okA E G 11 zx4), WD E G I X s.heap H locs → lv_has ls 6 [(2, .ref zx2), (4, .ref zx4), (5, .int zx5)] → m9_restart_53b fl G.2.2 X zr53 I zx2 zx4 zx5 = some rr → W p l e ({ frames := 0, cells := 0, slots := 0, locals := 0 } : Room) s m args below meth c H locs 0 0 (MQ below (QV E G rr X) args s 0 0 (eA E)) (F0 m 53 ls []) := by
  intro I H locs ls zx2 zx4 zx5 zt2 zt4 hw hl hf
  unfold m9_restart_53b at hf
  have hx := C0.1; have hb := C0.2.1; have hml := C0.2.2.1; have hown := C0.2.2.2.1; have hts := C0.2.2.2.2.1
  refine lv_iload hx hb dL_restart_53 (lv_at hl 2 rfl) ?_
  refine lv_bipush (v := (8 : Int32)) hx hb dL_restart_55 (by decide) ?_
  refine lv_icmp_ge (tgt := 98) hx hb dL_restart_57 (by decide) (fun zc1 => ?_) (fun zc1 => ?_)
  · have hf := ite_t hf zc1
    obtain rfl := Option.some.inj hf
    exact x_vret C0 hr hw dL_restart_98
  · have hf := ite_f hf zc1
    refine lv_aload hx hb dL_restart_60 (lv_at hl 1 rfl) ?_
    refine lv_iload hx hb dL_restart_62 (lv_at hl 2 rfl) ?_
    refine lv_bipush (v := (50 : Int32)) hx hb dL_restart_64 (by decide) ?_
    obtain ⟨zhb2, hf⟩ := ck_some hf
    obtain ⟨zI3, ezI3⟩ : ∃ y : Im, y = pA I zx4 (zx5).toNatClampNeg (50 : Int32) := ⟨_, rfl⟩
    have hf := lt_at hf ezI3
    refine x_iast C0 hz hw zt4 zhb2 dL_restart_66 ezI3 (fun H locs hw => ?_)
    refine lv_aload_n hx hb dL_restart_67 rfl (lv_at hl 0 rfl) ?_
    refine lv_iload hx hb dL_restart_68 (lv_at hl 2 rfl) ?_
    refine lv_iconst (v := (2 : Int32)) hx hb dL_restart_70 (by decide) ?_
    refine lv_idiv hx hb dL_restart_71 (by decide) ?_
    refine lv_iconst (v := (4 : Int32)) hx hb dL_restart_72 (by decide) ?_
    refine lv_imul hx hb dL_restart_73 ?_
    refine lv_iload hx hb dL_restart_74 (lv_at hl 2 rfl) ?_
    refine lv_iconst (v := (2 : Int32)) hx hb dL_restart_76 (by decide) ?_
    refine lv_irem hx hb dL_restart_77 (by decide) ?_
    refine lv_iadd hx hb dL_restart_78 ?_
    refine lv_iconst (v := (0 : Int32)) hx hb dL_restart_79 (by decide) ?_
    obtain ⟨zhb4, hf⟩ := ck_some hf
    obtain ⟨zI5, ezI5⟩ : ∃ y : Im, y = pA zI3 zx2 ((((zx5 / (2 : Int32)) * (4 : Int32)) + (zx5 - zx5 / (2 : Int32) * (2 : Int32)))).toNatClampNeg (0 : Int32) := ⟨_, rfl⟩
    have hf := lt_at hf ezI5
    refine x_iast C0 hz hw zt2 zhb4 dL_restart_80 ezI5 (fun H locs hw => ?_)
    refine lv_aload_n hx hb dL_restart_81 rfl (lv_at hl 0 rfl) ?_
    refine lv_iload hx hb dL_restart_82 (lv_at hl 2 rfl) ?_
    refine lv_iconst (v := (2 : Int32)) hx hb dL_restart_84 (by decide) ?_
    refine lv_idiv hx hb dL_restart_85 (by decide) ?_
    refine lv_iconst (v := (4 : Int32)) hx hb dL_restart_86 (by decide) ?_
    refine lv_imul hx hb dL_restart_87 ?_
    refine lv_iconst (v := (2 : Int32)) hx hb dL_restart_88 (by decide) ?_
    refine lv_iadd hx hb dL_restart_89 ?_
    refine lv_iconst (v := (0 : Int32)) hx hb dL_restart_90 (by decide) ?_
    obtain ⟨zhb6, hf⟩ := ck_some hf
    obtain ⟨zI7, ezI7⟩ : ∃ y : Im, y = pA zI5 zx2 ((((zx5 / (2 : Int32)) * (4 : Int32)) + (2 : Int32))).toNatClampNeg (0 : Int32) := ⟨_, rfl⟩
    have hf := lt_at hf ezI7
    refine x_iast C0 hz hw zt2 zhb6 dL_restart_91 ezI7 (fun H locs hw => ?_)
    obtain ⟨zv8, ezv8⟩ : ∃ y : Int32, y = zx5 + 1 := ⟨_, rfl⟩
    have hf := lt_at hf ezv8
    refine lv_iinc (v := zv8) (lv' := [(5, .int zv8), (2, .ref zx2), (4, .ref zx4)]) hx hb dL_restart_92 hl (k := 2) rfl (by rw [ezv8]; rfl) (by decide) rfl (fun ls hl => ?_)
    refine lv_goto (tgt := 53) hx hb dL_restart_95 (by decide) ?_
    exact zhr53 zI7 _ _ _ zx2 zx4 zv8 zt2 zt4 hw (lv_sub hl [1, 2, 0] rfl) hf
theorem w9_restart_53 {p : Program} {l : Launch} {e : Env} {s : State} {m : MethodId} {args : Array Value} {below : List Frame} {meth : Method} {c : Code} {E : EN} {G : GM} {X : Xm} (C0 : CX p s m args meth c E cL_restart RL 6) (hr : meth.sig.returnType = none) (hz : s.heap.size + 0 ≤ eB E + G.1) {rr : Im} (fl : Nat) : ∀ (n : Nat) (I : Im) (H : Heap) (locs : List Loc) (ls : Array Slot) (zx2 : Nat) (zx4 : Nat) (zx5 : Int32) (zt2 : okA E G 11 zx2) (zt4 : okA E G 11 zx4), WD E G I X s.heap H locs → lv_has ls 6 [(2, .ref zx2), (4, .ref zx4), (5, .int zx5)] → m9_restart_53 fl G.2.2 X n I zx2 zx4 zx5 = some rr → W p l e ({ frames := 0, cells := 0, slots := 0, locals := 0 } : Room) s m args below meth c H locs 0 0 (MQ below (QV E G rr X) args s 0 0 (eA E)) (F0 m 53 ls []) := by
  intro n
  induction n with
  | zero => intro I H locs ls zx2 zx4 zx5 zt2 zt4 hw hl hf; exact absurd (show (none : Option (Im)) = some rr from hf) (by simp)
  | succ n ih => intro I H locs ls zx2 zx4 zx5 zt2 zt4 hw hl hf; exact w9_restart_53b C0 hr hz fl _ ih I H locs ls zx2 zx4 zx5 zt2 zt4 hw hl hf
noncomputable def m9_restart_17b (fl : Nat) (len : Nat → Nat) (X : Xm) (zr17 : Im → Nat → Nat → Nat → Nat → Int32 → Option (Im)) (I : Im) (zx1 : Nat) (zx2 : Nat) (zx3 : Nat) (zx4 : Nat) (zx5 : Int32) : Option (Im) :=
  if (24 : Int32) ≤ zx5 then
    m9_restart_53 fl len X fl I zx2 zx4 (0 : Int32)
  else
    ck (inb zx5 (len zx1) = true) <|
    lt (pA I zx1 (zx5).toNatClampNeg ((gA I zx1 (zx5).toNatClampNeg) - (gA I zx1 (zx5).toNatClampNeg) / (2048 : Int32) * (2048 : Int32))) fun zI3 =>
    ck (inb zx5 (len zx3) = true) <|
    lt (pA zI3 zx3 (zx5).toNatClampNeg ((gA zI3 zx3 (zx5).toNatClampNeg) - (gA zI3 zx3 (zx5).toNatClampNeg) / (8192 : Int32) * (8192 : Int32))) fun zI5 =>
    lt (zx5 + 1) fun zv6 =>
    zr17 zI5 zx1 zx2 zx3 zx4 zv6
noncomputable def m9_restart_17 (fl : Nat) (len : Nat → Nat) (X : Xm) (n : Nat) : Im → Nat → Nat → Nat → Nat → Int32 → Option (Im) :=
  Nat.rec (fun _ _ _ _ _ _ => none) (fun _ r => m9_restart_17b fl len X r) n
set_option maxHeartbeats 4000000 in
set_option maxRecDepth 100000 in
theorem w9_restart_17b {p : Program} {l : Launch} {e : Env} {s : State} {m : MethodId} {args : Array Value} {below : List Frame} {meth : Method} {c : Code} {E : EN} {G : GM} {X : Xm} (C0 : CX p s m args meth c E cL_restart RL 6) (hr : meth.sig.returnType = none) (hz : s.heap.size + 0 ≤ eB E + G.1) {rr : Im} (fl : Nat) (zr17 : Im → Nat → Nat → Nat → Nat → Int32 → Option (Im)) (zhr17 : ∀ (I : Im) (H : Heap) (locs : List Loc) (ls : Array Slot) (zx1 : Nat) (zx2 : Nat) (zx3 : Nat) (zx4 : Nat) (zx5 : Int32) (zt1 : okA E G 11 zx1) (zt2 : okA E G 11 zx2) (zt3 : okA E G 11 zx3) (zt4 : okA E G 11 zx4), WD E G I X s.heap H locs → lv_has ls 6 [(1, .ref zx1), (2, .ref zx2), (3, .ref zx3), (4, .ref zx4), (5, .int zx5)] → zr17 I zx1 zx2 zx3 zx4 zx5 = some rr → W p l e ({ frames := 0, cells := 0, slots := 0, locals := 0 } : Room) s m args below meth c H locs 0 0 (MQ below (QV E G rr X) args s 0 0 (eA E)) (F0 m 17 ls [])) : ∀ (I : Im) (H : Heap) (locs : List Loc) (ls : Array Slot) (zx1 : Nat) (zx2 : Nat) (zx3 : Nat) (zx4 : Nat) (zx5 : Int32) (zt1 : okA E G 11 zx1) (zt2 : okA E G 11 zx2) (zt3 : okA E G 11 zx3) (zt4 : okA E G 11 zx4), WD E G I X s.heap H locs → lv_has ls 6 [(1, .ref zx1), (2, .ref zx2), (3, .ref zx3), (4, .ref zx4), (5, .int zx5)] → m9_restart_17b fl G.2.2 X zr17 I zx1 zx2 zx3 zx4 zx5 = some rr → W p l e ({ frames := 0, cells := 0, slots := 0, locals := 0 } : Room) s m args below meth c H locs 0 0 (MQ below (QV E G rr X) args s 0 0 (eA E)) (F0 m 17 ls []) := by
  intro I H locs ls zx1 zx2 zx3 zx4 zx5 zt1 zt2 zt3 zt4 hw hl hf
  unfold m9_restart_17b at hf
  have hx := C0.1; have hb := C0.2.1; have hml := C0.2.2.1; have hown := C0.2.2.2.1; have hts := C0.2.2.2.2.1
  refine lv_iload hx hb dL_restart_17 (lv_at hl 4 rfl) ?_
  refine lv_bipush (v := (24 : Int32)) hx hb dL_restart_19 (by decide) ?_
  refine lv_icmp_ge (tgt := 50) hx hb dL_restart_21 (by decide) (fun zc1 => ?_) (fun zc1 => ?_)
  · have hf := ite_t hf zc1
    refine lv_iconst (v := (0 : Int32)) hx hb dL_restart_50 (by decide) ?_
    refine lv_istore (lv' := [(5, .int (0 : Int32)), (1, .ref zx1), (2, .ref zx2), (3, .ref zx3), (4, .ref zx4)]) hx hb dL_restart_51 hl (by decide) rfl (fun ls hl => ?_)
    exact w9_restart_53 C0 hr hz fl fl I _ _ _ zx2 zx4 (0 : Int32) zt2 zt4 hw (lv_sub hl [2, 4, 0] rfl) hf
  · have hf := ite_f hf zc1
    refine lv_aload_n hx hb dL_restart_24 rfl (lv_at hl 0 rfl) ?_
    refine lv_iload hx hb dL_restart_25 (lv_at hl 4 rfl) ?_
    refine lv_dup2_11 hx hb dL_restart_27 rfl rfl ?_
    obtain ⟨zhb2, hf⟩ := ck_some hf
    refine x_iald C0 hw zt1 zhb2 dL_restart_28 ?_
    refine lv_sipush (v := (2048 : Int32)) hx hb dL_restart_29 (by decide) ?_
    refine lv_irem hx hb dL_restart_32 (by decide) ?_
    obtain ⟨zI3, ezI3⟩ : ∃ y : Im, y = pA I zx1 (zx5).toNatClampNeg ((gA I zx1 (zx5).toNatClampNeg) - (gA I zx1 (zx5).toNatClampNeg) / (2048 : Int32) * (2048 : Int32)) := ⟨_, rfl⟩
    have hf := lt_at hf ezI3
    refine x_iast C0 hz hw zt1 zhb2 dL_restart_33 ezI3 (fun H locs hw => ?_)
    refine lv_aload_n hx hb dL_restart_34 rfl (lv_at hl 2 rfl) ?_
    refine lv_iload hx hb dL_restart_35 (lv_at hl 4 rfl) ?_
    refine lv_dup2_11 hx hb dL_restart_37 rfl rfl ?_
    obtain ⟨zhb4, hf⟩ := ck_some hf
    refine x_iald C0 hw zt3 zhb4 dL_restart_38 ?_
    refine lv_sipush (v := (8192 : Int32)) hx hb dL_restart_39 (by decide) ?_
    refine lv_irem hx hb dL_restart_42 (by decide) ?_
    obtain ⟨zI5, ezI5⟩ : ∃ y : Im, y = pA zI3 zx3 (zx5).toNatClampNeg ((gA zI3 zx3 (zx5).toNatClampNeg) - (gA zI3 zx3 (zx5).toNatClampNeg) / (8192 : Int32) * (8192 : Int32)) := ⟨_, rfl⟩
    have hf := lt_at hf ezI5
    refine x_iast C0 hz hw zt3 zhb4 dL_restart_43 ezI5 (fun H locs hw => ?_)
    obtain ⟨zv6, ezv6⟩ : ∃ y : Int32, y = zx5 + 1 := ⟨_, rfl⟩
    have hf := lt_at hf ezv6
    refine lv_iinc (v := zv6) (lv' := [(5, .int zv6), (1, .ref zx1), (2, .ref zx2), (3, .ref zx3), (4, .ref zx4)]) hx hb dL_restart_44 hl (k := 4) rfl (by rw [ezv6]; rfl) (by decide) rfl (fun ls hl => ?_)
    refine lv_goto (tgt := 17) hx hb dL_restart_47 (by decide) ?_
    exact zhr17 zI5 _ _ _ zx1 zx2 zx3 zx4 zv6 zt1 zt2 zt3 zt4 hw (lv_sub hl [1, 2, 3, 4, 0] rfl) hf
theorem w9_restart_17 {p : Program} {l : Launch} {e : Env} {s : State} {m : MethodId} {args : Array Value} {below : List Frame} {meth : Method} {c : Code} {E : EN} {G : GM} {X : Xm} (C0 : CX p s m args meth c E cL_restart RL 6) (hr : meth.sig.returnType = none) (hz : s.heap.size + 0 ≤ eB E + G.1) {rr : Im} (fl : Nat) : ∀ (n : Nat) (I : Im) (H : Heap) (locs : List Loc) (ls : Array Slot) (zx1 : Nat) (zx2 : Nat) (zx3 : Nat) (zx4 : Nat) (zx5 : Int32) (zt1 : okA E G 11 zx1) (zt2 : okA E G 11 zx2) (zt3 : okA E G 11 zx3) (zt4 : okA E G 11 zx4), WD E G I X s.heap H locs → lv_has ls 6 [(1, .ref zx1), (2, .ref zx2), (3, .ref zx3), (4, .ref zx4), (5, .int zx5)] → m9_restart_17 fl G.2.2 X n I zx1 zx2 zx3 zx4 zx5 = some rr → W p l e ({ frames := 0, cells := 0, slots := 0, locals := 0 } : Room) s m args below meth c H locs 0 0 (MQ below (QV E G rr X) args s 0 0 (eA E)) (F0 m 17 ls []) := by
  intro n
  induction n with
  | zero => intro I H locs ls zx1 zx2 zx3 zx4 zx5 zt1 zt2 zt3 zt4 hw hl hf; exact absurd (show (none : Option (Im)) = some rr from hf) (by simp)
  | succ n ih => intro I H locs ls zx1 zx2 zx3 zx4 zx5 zt1 zt2 zt3 zt4 hw hl hf; exact w9_restart_17b C0 hr hz fl _ ih I H locs ls zx1 zx2 zx3 zx4 zx5 zt1 zt2 zt3 zt4 hw hl hf
noncomputable def m9_restart (fl : Nat) (len : Nat → Nat) (X : Xm) (I : Im) (zx0 : Nat) (zx1 : Nat) (zx2 : Nat) (zx3 : Nat) (zx4 : Nat) : Option (Im) :=
  ck (inb (4 : Int32) (len zx0) = true) <|
  lt (pA I zx0 ((4 : Int32)).toNatClampNeg (0 : Int32)) fun zI2 =>
  ck (inb (6 : Int32) (len zx0) = true) <|
  lt (pA zI2 zx0 ((6 : Int32)).toNatClampNeg (0 : Int32)) fun zI4 =>
  ck (inb (7 : Int32) (len zx0) = true) <|
  lt (pA zI4 zx0 ((7 : Int32)).toNatClampNeg (0 : Int32)) fun zI6 =>
  m9_restart_17 fl len X fl zI6 zx1 zx2 zx3 zx4 (0 : Int32)
theorem hy9_restart : yL_restart.cls = RL ∧ yL_restart.cls ≠ "java/lang/invoke/MethodHandle" ∧ yL_restart.cls ≠ "java/lang/invoke/VarHandle" ∧ (parseMethodDescriptor yL_restart.desc).map (fun d => d.parameters.length) = some 5 := ⟨rfl, by decide +kernel, by decide +kernel, by decide +kernel⟩
set_option maxHeartbeats 4000000 in
set_option maxRecDepth 100000 in
theorem c9_restart (l : Launch) (E : EN) (G : GM) (fl : Nat) (X : Xm) (I : Im) (zx0 : Nat) (zx1 : Nat) (zx2 : Nat) (zx3 : Nat) (zx4 : Nat) (zt0 : okA E G 11 zx0) (zt1 : okA E G 11 zx1) (zt2 : okA E G 11 zx2) (zt3 : okA E G 11 zx3) (zt4 : okA E G 11 zx4) {rr : Im} (hf : m9_restart fl G.2.2 X I zx0 zx1 zx2 zx3 zx4 = some rr) : MT l yL_restart cL_restart 6 none ({ frames := 0, cells := 0, slots := 0, locals := 0 } : Room) E G I X [.ref zx0, .ref zx1, .ref zx2, .ref zx3, .ref zx4] (QV E G rr X) 0 0 := by
  refine Met.ofW (cc := cL_restart) (maxL := 6) (ret := none) (by decide +kernel) rfl ?_
  intro p e s m args below meth c s₁ B hml hv
  obtain ⟨rfl, hw0, hSE⟩ := hv
  have C0 : CX p s m ([.ref zx0, .ref zx1, .ref zx2, .ref zx3, .ref zx4] : List Value).toArray meth c E cL_restart RL 6 := ⟨B.exec, B.bytes, hml, findClass_of_methodNamed B.named, fun w hw => atoms_spec (ws := WS yL_restart cL_restart 6 none) B.pre w (List.mem_cons_of_mem _ hw), B.notSynchronized, hSE⟩
  have hz : s.heap.size + 0 ≤ eB E + G.1 := Nat.le_of_eq hw0.2.1
  have hw : WD E G I X s.heap s.heap [] := ⟨hw0, va_S.rf⟩
  have hr := B.returns
  have hx := C0.1; have hb := C0.2.1; have hml := C0.2.2.1; have hown := C0.2.2.2.1; have hts := C0.2.2.2.2.1
  have hl := lv_entry ([.ref zx0, .ref zx1, .ref zx2, .ref zx3, .ref zx4]) (n := 6) (Nat.le_of_ble_eq_true rfl)
  rw [lg_entry_eq]
  generalize (lg_sl ([.ref zx0, .ref zx1, .ref zx2, .ref zx3, .ref zx4]) ++ List.replicate (6 - (lg_sl ([.ref zx0, .ref zx1, .ref zx2, .ref zx3, .ref zx4])).length) Slot.unset).toArray = ls at hl ⊢
  have hl : lv_has ls 6 [(0, .ref zx0), (1, .ref zx1), (2, .ref zx2), (3, .ref zx3), (4, .ref zx4)] := hl
  unfold m9_restart at hf
  refine lv_aload_n hx hb dL_restart_0 rfl (lv_at hl 0 rfl) ?_
  refine lv_iconst (v := (4 : Int32)) hx hb dL_restart_1 (by decide) ?_
  refine lv_iconst (v := (0 : Int32)) hx hb dL_restart_2 (by decide) ?_
  obtain ⟨zhb1, hf⟩ := ck_some hf
  obtain ⟨zI2, ezI2⟩ : ∃ y : Im, y = pA I zx0 ((4 : Int32)).toNatClampNeg (0 : Int32) := ⟨_, rfl⟩
  have hf := lt_at hf ezI2
  refine x_iast C0 hz hw zt0 zhb1 dL_restart_3 ezI2 (fun H locs hw => ?_)
  refine lv_aload_n hx hb dL_restart_4 rfl (lv_at hl 0 rfl) ?_
  refine lv_bipush (v := (6 : Int32)) hx hb dL_restart_5 (by decide) ?_
  refine lv_iconst (v := (0 : Int32)) hx hb dL_restart_7 (by decide) ?_
  obtain ⟨zhb3, hf⟩ := ck_some hf
  obtain ⟨zI4, ezI4⟩ : ∃ y : Im, y = pA zI2 zx0 ((6 : Int32)).toNatClampNeg (0 : Int32) := ⟨_, rfl⟩
  have hf := lt_at hf ezI4
  refine x_iast C0 hz hw zt0 zhb3 dL_restart_8 ezI4 (fun H locs hw => ?_)
  refine lv_aload_n hx hb dL_restart_9 rfl (lv_at hl 0 rfl) ?_
  refine lv_bipush (v := (7 : Int32)) hx hb dL_restart_10 (by decide) ?_
  refine lv_iconst (v := (0 : Int32)) hx hb dL_restart_12 (by decide) ?_
  obtain ⟨zhb5, hf⟩ := ck_some hf
  obtain ⟨zI6, ezI6⟩ : ∃ y : Im, y = pA zI4 zx0 ((7 : Int32)).toNatClampNeg (0 : Int32) := ⟨_, rfl⟩
  have hf := lt_at hf ezI6
  refine x_iast C0 hz hw zt0 zhb5 dL_restart_13 ezI6 (fun H locs hw => ?_)
  refine lv_iconst (v := (0 : Int32)) hx hb dL_restart_14 (by decide) ?_
  refine lv_istore (lv' := [(5, .int (0 : Int32)), (0, .ref zx0), (1, .ref zx1), (2, .ref zx2), (3, .ref zx3), (4, .ref zx4)]) hx hb dL_restart_15 hl (by decide) rfl (fun ls hl => ?_)
  exact w9_restart_17 C0 hr hz fl fl zI6 _ _ _ zx1 zx2 zx3 zx4 (0 : Int32) zt1 zt2 zt3 zt4 hw (lv_sub hl [2, 3, 4, 5, 0] rfl) hf
