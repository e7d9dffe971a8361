noncomputable def m9_isCue_441 (fl : Nat) (len : Nat → Nat) (I : Im) (X : Xm) (zs0 : Int32) : Option (Int32 × Im × Xm) :=
  ck (isbl zs0 = true) <|
  some (zs0, I, X)
set_option maxHeartbeats 4000000 in
set_option maxRecDepth 100000 in
theorem w9_isCue_441 {p : Program} {l : Launch} {e : Env} {s : State} {m : MethodId} {args : Array Value} {below : List Frame} {meth : Method} {c : Code} {E : EN} {G : GM} (C0 : CX p s m args meth c E cL_isCue RL 14) (hr : meth.sig.returnType = (some .boolean)) (hz : s.heap.size + 0 ≤ eB E + G.1) {rr : Int32 × Im × Xm} (fl : Nat) : ∀ (I : Im) (X : Xm) (H : Heap) (locs : List Loc) (ls : Array Slot) (zs0 : Int32) , WD E G I X s.heap H locs → lv_has ls 14 [] → m9_isCue_441 fl G.2.2 I X zs0 = some rr → W p l e ({ frames := 5, cells := 0, slots := 0, locals := 116 } : Room) s m args below meth c H locs 0 0 (MQ below (QI E G rr.1 rr.2.1 rr.2.2) args s 0 0 (eA E)) (F0 m 441 ls [.int zs0]) := by
  intro I X H locs ls zs0 hw hl hf
  unfold m9_isCue_441 at hf
  have hx := C0.1; have hb := C0.2.1; have hml := C0.2.2.1; have hown := C0.2.2.2.1; have hts := C0.2.2.2.2.1
  obtain ⟨zhn1, hf⟩ := ck_some hf
  obtain rfl := Option.some.inj hf
  exact x_zret C0 hr (isbl_nar zhn1) hw dL_isCue_441
noncomputable def m9_isCue_423 (fl : Nat) (len : Nat → Nat) (I : Im) (X : Xm) (zx0 : Nat) (zx7 : Int32) (zx10 : Int32) (zx12 : Int32) : Option (Int32 × Im × Xm) :=
  nn (m8_move fl len X I zx0 zx10 zx7) fun ⟨zv1, zI2, zX3⟩ =>
  if zv1 = zx12 then
    m9_isCue_441 fl len zI2 zX3 (1 : Int32)
  else
    m9_isCue_441 fl len zI2 zX3 (0 : Int32)
set_option maxHeartbeats 4000000 in
set_option maxRecDepth 100000 in
theorem w9_isCue_423 {p : Program} {l : Launch} {e : Env} {s : State} {m : MethodId} {args : Array Value} {below : List Frame} {meth : Method} {c : Code} {E : EN} {G : GM} (C0 : CX p s m args meth c E cL_isCue RL 14) (hr : meth.sig.returnType = (some .boolean)) (hz : s.heap.size + 0 ≤ eB E + G.1) {rr : Int32 × Im × Xm} (fl : Nat) : ∀ (I : Im) (X : Xm) (H : Heap) (locs : List Loc) (ls : Array Slot) (zx0 : Nat) (zx7 : Int32) (zx10 : Int32) (zx12 : Int32) (zt0 : okA E G 8 zx0), WD E G I X s.heap H locs → lv_has ls 14 [(0, .ref zx0), (7, .int zx7), (10, .int zx10), (12, .int zx12)] → m9_isCue_423 fl G.2.2 I X zx0 zx7 zx10 zx12 = some rr → W p l e ({ frames := 5, cells := 0, slots := 0, locals := 116 } : Room) s m args below meth c H locs 0 0 (MQ below (QI E G rr.1 rr.2.1 rr.2.2) args s 0 0 (eA E)) (F0 m 423 ls []) := by
  intro I X H locs ls zx0 zx7 zx10 zx12 zt0 hw hl hf
  unfold m9_isCue_423 at hf
  have hx := C0.1; have hb := C0.2.1; have hml := C0.2.2.1; have hown := C0.2.2.2.1; have hts := C0.2.2.2.2.1
  refine lv_aload_n hx hb dL_isCue_423 rfl (lv_at hl 0 rfl) ?_
  refine lv_iload hx hb dL_isCue_424 (lv_at hl 2 rfl) ?_
  refine lv_iload hx hb dL_isCue_426 (lv_at hl 1 rfl) ?_
  obtain ⟨⟨zv1, zI2, zX3⟩, ze4, hf⟩ := nn_some hf
  refine x_ci (r := zv1) (I1 := zI2) (X1 := zX3) (x_runV (As := [.int zx10, .int zx7]) (rest := []) C0 (c8_move l E G fl X I zx0 zx10 zx7 zt0 ze4) hw 8 zt0 (by decide) rfl wd64 wd465 wd466 wd467 wd107 ⟨rfl, rfl⟩ hy8_move ⟨Nat.le_of_ble_eq_true rfl, Nat.le_of_ble_eq_true rfl⟩ rfl hl.1 (Nat.le_of_ble_eq_true rfl) ⟨Nat.zero_le _, Nat.zero_le _⟩ dL_isCue_428) hw (fun H locs hw => ?_)
  refine lv_iload hx hb dL_isCue_431 (lv_at hl 3 rfl) ?_
  refine lv_icmp_ne (tgt := 440) hx hb dL_isCue_433 (by decide) (fun zc5 => ?_) (fun zc5 => ?_)
  · have hf := ite_f hf zc5
    refine lv_iconst (v := (0 : Int32)) hx hb dL_isCue_440 (by decide) ?_
    exact w9_isCue_441 C0 hr hz fl zI2 zX3 _ _ _ (0 : Int32) hw (lv_sub hl [] rfl) hf
  · have hf := ite_t hf zc5
    refine lv_iconst (v := (1 : Int32)) hx hb dL_isCue_436 (by decide) ?_
    refine lv_goto (tgt := 441) hx hb dL_isCue_437 (by decide) ?_
    exact w9_isCue_441 C0 hr hz fl zI2 zX3 _ _ _ (1 : Int32) hw (lv_sub hl [] rfl) hf
noncomputable def m9_isCue_381 (fl : Nat) (len : Nat → Nat) (I : Im) (X : Xm) (zx0 : Nat) (zx1 : Nat) (zx2 : Nat) (zx3 : Nat) (zx7 : Int32) (zx10 : Int32) (zs0 : Int32) : Option (Int32 × Im × Xm) :=
  if zs0 = 0 then
    ck (inb zx10 (len zx3) = true) <|
    lt ((gA I zx3 (zx10).toNatClampNeg)) fun zv3 =>
    nn (m9_take fl len X I zx1 zx2 zx3 zx10) fun zI4 =>
    nn (m9_rankFor fl len X zI4 zx1 zx2 zx7) fun zv6 =>
    nn (m9_insert fl len X zI4 zx1 zx2 zx3 zv6 zx7 zv3) fun zI8 =>
    m9_isCue_423 fl len zI8 X zx0 zx7 zx10 zv6
  else
    m9_isCue_423 fl len I X zx0 zx7 zx10 zs0
set_option maxHeartbeats 4000000 in
set_option maxRecDepth 100000 in
theorem w9_isCue_381 {p : Program} {l : Launch} {e : Env} {s : State} {m : MethodId} {args : Array Value} {below : List Frame} {meth : Method} {c : Code} {E : EN} {G : GM} (C0 : CX p s m args meth c E cL_isCue RL 14) (hr : meth.sig.returnType = (some .boolean)) (hz : s.heap.size + 0 ≤ eB E + G.1) {rr : Int32 × Im × Xm} (fl : Nat) : ∀ (I : Im) (X : Xm) (H : Heap) (locs : List Loc) (ls : Array Slot) (zx0 : Nat) (zx1 : Nat) (zx2 : Nat) (zx3 : Nat) (zx7 : Int32) (zx10 : Int32) (zs0 : Int32) (zt0 : okA E G 8 zx0) (zt1 : okA E G 11 zx1) (zt2 : okA E G 11 zx2) (zt3 : okA E G 11 zx3), WD E G I X s.heap H locs → lv_has ls 14 [(0, .ref zx0), (1, .ref zx1), (2, .ref zx2), (3, .ref zx3), (7, .int zx7), (10, .int zx10)] → m9_isCue_381 fl G.2.2 I X zx0 zx1 zx2 zx3 zx7 zx10 zs0 = some rr → W p l e ({ frames := 5, cells := 0, slots := 0, locals := 116 } : Room) s m args below meth c H locs 0 0 (MQ below (QI E G rr.1 rr.2.1 rr.2.2) args s 0 0 (eA E)) (F0 m 381 ls [.int zs0]) := by
  intro I X H locs ls zx0 zx1 zx2 zx3 zx7 zx10 zs0 zt0 zt1 zt2 zt3 hw hl hf
  unfold m9_isCue_381 at hf
  have hx := C0.1; have hb := C0.2.1; have hml := C0.2.2.1; have hown := C0.2.2.2.1; have hts := C0.2.2.2.2.1
  refine lv_istore (lv' := [(12, .int zs0), (0, .ref zx0), (1, .ref zx1), (2, .ref zx2), (3, .ref zx3), (7, .int zx7), (10, .int zx10)]) hx hb dL_isCue_381 hl (by decide) rfl (fun ls hl => ?_)
  refine lv_iload hx hb dL_isCue_383 (lv_at hl 0 rfl) ?_
  refine lv_if_ne (tgt := 423) hx hb dL_isCue_385 (by decide) (fun zc1 => ?_) (fun zc1 => ?_)
  · have hf := ite_f hf zc1
    exact w9_isCue_423 C0 hr hz fl I X _ _ _ zx0 zx7 zx10 zs0 zt0 hw (lv_sub hl [1, 5, 6, 0] rfl) hf
  · have hf := ite_t hf zc1
    refine lv_aload_n hx hb dL_isCue_388 rfl (lv_at hl 4 rfl) ?_
    refine lv_iload hx hb dL_isCue_389 (lv_at hl 6 rfl) ?_
    obtain ⟨zhb2, hf⟩ := ck_some hf
    refine x_iald C0 hw zt3 zhb2 dL_isCue_391 ?_
    refine lv_topi (fun zv3 ezv3 => ?_)
    have hf := lt_at hf ezv3
    refine lv_istore (lv' := [(13, .int zv3), (12, .int zs0), (0, .ref zx0), (1, .ref zx1), (2, .ref zx2), (3, .ref zx3), (7, .int zx7), (10, .int zx10)]) hx hb dL_isCue_392 hl (by decide) rfl (fun ls hl => ?_)
    refine lv_aload_n hx hb dL_isCue_394 rfl (lv_at hl 3 rfl) ?_
    refine lv_aload_n hx hb dL_isCue_395 rfl (lv_at hl 4 rfl) ?_
    refine lv_aload_n hx hb dL_isCue_396 rfl (lv_at hl 5 rfl) ?_
    refine lv_iload hx hb dL_isCue_397 (lv_at hl 7 rfl) ?_
    obtain ⟨zI4, ze5, hf⟩ := nn_some hf
    refine x_cv (I1 := zI4) (X1 := X) (x_runS (As := [.ref zx1, .ref zx2, .ref zx3, .int zx10]) (rest := []) C0 (c9_take l E G fl X I zx1 zx2 zx3 zx10 zt1 zt2 zt3 ze5) hw wd86 wd460 wd461 wd422 ⟨rfl, rfl⟩ hy9_take ⟨Nat.le_of_ble_eq_true rfl, Nat.le_of_ble_eq_true rfl⟩ rfl hl.1 (Nat.le_of_ble_eq_true rfl) ⟨Nat.zero_le _, Nat.zero_le _⟩ dL_isCue_399) hw (fun H locs hw => ?_)
    refine lv_aload_n hx hb dL_isCue_402 rfl (lv_at hl 3 rfl) ?_
    refine lv_aload_n hx hb dL_isCue_403 rfl (lv_at hl 4 rfl) ?_
    refine lv_iload hx hb dL_isCue_404 (lv_at hl 6 rfl) ?_
    obtain ⟨zv6, ze7, hf⟩ := nn_some hf
    refine x_ci (r := zv6) (I1 := zI4) (X1 := X) (x_runS (As := [.ref zx1, .ref zx2, .int zx7]) (rest := []) C0 (c9_rankFor l E G fl X zI4 zx1 zx2 zx7 zt1 zt2 ze7) hw wd87 wd453 wd454 wd422 ⟨rfl, rfl⟩ hy9_rankFor ⟨Nat.le_of_ble_eq_true rfl, Nat.le_of_ble_eq_true rfl⟩ rfl hl.1 (Nat.le_of_ble_eq_true rfl) ⟨Nat.zero_le _, Nat.zero_le _⟩ dL_isCue_406) hw (fun H locs hw => ?_)
    refine lv_istore (lv' := [(12, .int zv6), (13, .int zv3), (0, .ref zx0), (1, .ref zx1), (2, .ref zx2), (3, .ref zx3), (7, .int zx7), (10, .int zx10)]) hx hb dL_isCue_409 hl (by decide) rfl (fun ls hl => ?_)
    refine lv_aload_n hx hb dL_isCue_411 rfl (lv_at hl 3 rfl) ?_
    refine lv_aload_n hx hb dL_isCue_412 rfl (lv_at hl 4 rfl) ?_
    refine lv_aload_n hx hb dL_isCue_413 rfl (lv_at hl 5 rfl) ?_
    refine lv_iload hx hb dL_isCue_414 (lv_at hl 0 rfl) ?_
    refine lv_iload hx hb dL_isCue_416 (lv_at hl 6 rfl) ?_
    refine lv_iload hx hb dL_isCue_418 (lv_at hl 1 rfl) ?_
    obtain ⟨zI8, ze9, hf⟩ := nn_some hf
    refine x_cv (I1 := zI8) (X1 := X) (x_runS (As := [.ref zx1, .ref zx2, .ref zx3, .int zv6, .int zx7, .int zv3]) (rest := []) C0 (c9_insert l E G fl X zI4 zx1 zx2 zx3 zv6 zx7 zv3 zt1 zt2 zt3 ze9) hw wd85 wd455 wd456 wd422 ⟨rfl, rfl⟩ hy9_insert ⟨Nat.le_of_ble_eq_true rfl, Nat.le_of_ble_eq_true rfl⟩ rfl hl.1 (Nat.le_of_ble_eq_true rfl) ⟨Nat.zero_le _, Nat.zero_le _⟩ dL_isCue_420) hw (fun H locs hw => ?_)
    exact w9_isCue_423 C0 hr hz fl zI8 X _ _ _ zx0 zx7 zx10 zv6 zt0 hw (lv_sub hl [2, 6, 7, 0] rfl) hf
noncomputable def m9_isCue_375 (fl : Nat) (len : Nat → Nat) (I : Im) (X : Xm) (zx0 : Nat) (zx1 : Nat) (zx2 : Nat) (zx3 : Nat) (zx7 : Int32) (zx10 : Int32) : Option (Int32 × Im × Xm) :=
  m9_isCue_381 fl len I X zx0 zx1 zx2 zx3 zx7 zx10 (-5 : Int32)
set_option maxHeartbeats 4000000 in
set_option maxRecDepth 100000 in
theorem w9_isCue_375 {p : Program} {l : Launch} {e : Env} {s : State} {m : MethodId} {args : Array Value} {below : List Frame} {meth : Method} {c : Code} {E : EN} {G : GM} (C0 : CX p s m args meth c E cL_isCue RL 14) (hr : meth.sig.returnType = (some .boolean)) (hz : s.heap.size + 0 ≤ eB E + G.1) {rr : Int32 × Im × Xm} (fl : Nat) : ∀ (I : Im) (X : Xm) (H : Heap) (locs : List Loc) (ls : Array Slot) (zx0 : Nat) (zx1 : Nat) (zx2 : Nat) (zx3 : Nat) (zx7 : Int32) (zx10 : Int32) (zt0 : okA E G 8 zx0) (zt1 : okA E G 11 zx1) (zt2 : okA E G 11 zx2) (zt3 : okA E G 11 zx3), WD E G I X s.heap H locs → lv_has ls 14 [(0, .ref zx0), (1, .ref zx1), (2, .ref zx2), (3, .ref zx3), (7, .int zx7), (10, .int zx10)] → m9_isCue_375 fl G.2.2 I X zx0 zx1 zx2 zx3 zx7 zx10 = some rr → W p l e ({ frames := 5, cells := 0, slots := 0, locals := 116 } : Room) s m args below meth c H locs 0 0 (MQ below (QI E G rr.1 rr.2.1 rr.2.2) args s 0 0 (eA E)) (F0 m 375 ls []) := by
  intro I X H locs ls zx0 zx1 zx2 zx3 zx7 zx10 zt0 zt1 zt2 zt3 hw hl hf
  unfold m9_isCue_375 at hf
  have hx := C0.1; have hb := C0.2.1; have hml := C0.2.2.1; have hown := C0.2.2.2.1; have hts := C0.2.2.2.2.1
  refine lv_bipush (v := (-5 : Int32)) hx hb dL_isCue_375 (by decide) ?_
  refine lv_goto (tgt := 381) hx hb dL_isCue_377 (by decide) ?_
  exact w9_isCue_381 C0 hr hz fl I X _ _ _ zx0 zx1 zx2 zx3 zx7 zx10 (-5 : Int32) zt0 zt1 zt2 zt3 hw (lv_sub hl [0, 1, 2, 3, 4, 5] rfl) hf
noncomputable def m9_isCue_357 (fl : Nat) (len : Nat → Nat) (I : Im) (X : Xm) (zx0 : Nat) (zx1 : Nat) (zx2 : Nat) (zx3 : Nat) (zx7 : Int32) (zx10 : Int32) : Option (Int32 × Im × Xm) :=
  m9_isCue_381 fl len I X zx0 zx1 zx2 zx3 zx7 zx10 (-2 : Int32)
set_option maxHeartbeats 4000000 in
set_option maxRecDepth 100000 in
theorem w9_isCue_357 {p : Program} {l : Launch} {e : Env} {s : State} {m : MethodId} {args : Array Value} {below : List Frame} {meth : Method} {c : Code} {E : EN} {G : GM} (C0 : CX p s m args meth c E cL_isCue RL 14) (hr : meth.sig.returnType = (some .boolean)) (hz : s.heap.size + 0 ≤ eB E + G.1) {rr : Int32 × Im × Xm} (fl : Nat) : ∀ (I : Im) (X : Xm) (H : Heap) (locs : List Loc) (ls : Array Slot) (zx0 : Nat) (zx1 : Nat) (zx2 : Nat) (zx3 : Nat) (zx7 : Int32) (zx10 : Int32) (zt0 : okA E G 8 zx0) (zt1 : okA E G 11 zx1) (zt2 : okA E G 11 zx2) (zt3 : okA E G 11 zx3), WD E G I X s.heap H locs → lv_has ls 14 [(0, .ref zx0), (1, .ref zx1), (2, .ref zx2), (3, .ref zx3), (7, .int zx7), (10, .int zx10)] → m9_isCue_357 fl G.2.2 I X zx0 zx1 zx2 zx3 zx7 zx10 = some rr → W p l e ({ frames := 5, cells := 0, slots := 0, locals := 116 } : Room) s m args below meth c H locs 0 0 (MQ below (QI E G rr.1 rr.2.1 rr.2.2) args s 0 0 (eA E)) (F0 m 357 ls []) := by
  intro I X H locs ls zx0 zx1 zx2 zx3 zx7 zx10 zt0 zt1 zt2 zt3 hw hl hf
  unfold m9_isCue_357 at hf
  have hx := C0.1; have hb := C0.2.1; have hml := C0.2.2.1; have hown := C0.2.2.2.1; have hts := C0.2.2.2.2.1
  refine lv_bipush (v := (-2 : Int32)) hx hb dL_isCue_357 (by decide) ?_
  refine lv_goto (tgt := 381) hx hb dL_isCue_359 (by decide) ?_
  exact w9_isCue_381 C0 hr hz fl I X _ _ _ zx0 zx1 zx2 zx3 zx7 zx10 (-2 : Int32) zt0 zt1 zt2 zt3 hw (lv_sub hl [0, 1, 2, 3, 4, 5] rfl) hf
noncomputable def m9_isCue_333 (fl : Nat) (len : Nat → Nat) (I : Im) (X : Xm) (zs0 : Int32) : Option (Int32 × Im × Xm) :=
  ck (isbl zs0 = true) <|
  some (zs0, I, X)
set_option maxHeartbeats 4000000 in
set_option maxRecDepth 100000 in
theorem w9_isCue_333 {p : Program} {l : Launch} {e : Env} {s : State} {m : MethodId} {args : Array Value} {below : List Frame} {meth : Method} {c : Code} {E : EN} {G : GM} (C0 : CX p s m args meth c E cL_isCue RL 14) (hr : meth.sig.returnType = (some .boolean)) (hz : s.heap.size + 0 ≤ eB E + G.1) {rr : Int32 × Im × Xm} (fl : Nat) : ∀ (I : Im) (X : Xm) (H : Heap) (locs : List Loc) (ls : Array Slot) (zs0 : Int32) , WD E G I X s.heap H locs → lv_has ls 14 [] → m9_isCue_333 fl G.2.2 I X zs0 = some rr → W p l e ({ frames := 5, cells := 0, slots := 0, locals := 116 } : Room) s m args below meth c H locs 0 0 (MQ below (QI E G rr.1 rr.2.1 rr.2.2) args s 0 0 (eA E)) (F0 m 333 ls [.int zs0]) := by
  intro I X H locs ls zs0 hw hl hf
  unfold m9_isCue_333 at hf
  have hx := C0.1; have hb := C0.2.1; have hml := C0.2.2.1; have hown := C0.2.2.2.1; have hts := C0.2.2.2.2.1
  obtain ⟨zhn1, hf⟩ := ck_some hf
  obtain rfl := Option.some.inj hf
  exact x_zret C0 hr (isbl_nar zhn1) hw dL_isCue_333
noncomputable def m9_isCue_325 (fl : Nat) (len : Nat → Nat) (I : Im) (X : Xm) (zs0 : Int32) (zs1 : Int32) : Option (Int32 × Im × Xm) :=
  if zs0 = zs1 then
    m9_isCue_333 fl len I X (1 : Int32)
  else
    m9_isCue_333 fl len I X (0 : Int32)
set_option maxHeartbeats 4000000 in
set_option maxRecDepth 100000 in
theorem w9_isCue_325 {p : Program} {l : Launch} {e : Env} {s : State} {m : MethodId} {args : Array Value} {below : List Frame} {meth : Method} {c : Code} {E : EN} {G : GM} (C0 : CX p s m args meth c E cL_isCue RL 14) (hr : meth.sig.returnType = (some .boolean)) (hz : s.heap.size + 0 ≤ eB E + G.1) {rr : Int32 × Im × Xm} (fl : Nat) : ∀ (I : Im) (X : Xm) (H : Heap) (locs : List Loc) (ls : Array Slot) (zs0 : Int32) (zs1 : Int32) , WD E G I X s.heap H locs → lv_has ls 14 [] → m9_isCue_325 fl G.2.2 I X zs0 zs1 = some rr → W p l e ({ frames := 5, cells := 0, slots := 0, locals := 116 } : Room) s m args below meth c H locs 0 0 (MQ below (QI E G rr.1 rr.2.1 rr.2.2) args s 0 0 (eA E)) (F0 m 325 ls [.int zs1, .int zs0]) := by
  intro I X H locs ls zs0 zs1 hw hl hf
  unfold m9_isCue_325 at hf
  have hx := C0.1; have hb := C0.2.1; have hml := C0.2.2.1; have hown := C0.2.2.2.1; have hts := C0.2.2.2.2.1
  refine lv_icmp_ne (tgt := 332) hx hb dL_isCue_325 (by decide) (fun zc1 => ?_) (fun zc1 => ?_)
  · have hf := ite_f hf zc1
    refine lv_iconst (v := (0 : Int32)) hx hb dL_isCue_332 (by decide) ?_
    exact w9_isCue_333 C0 hr hz fl I X _ _ _ (0 : Int32) hw (lv_sub hl [] rfl) hf
  · have hf := ite_t hf zc1
    refine lv_iconst (v := (1 : Int32)) hx hb dL_isCue_328 (by decide) ?_
    refine lv_goto (tgt := 333) hx hb dL_isCue_329 (by decide) ?_
    exact w9_isCue_333 C0 hr hz fl I X _ _ _ (1 : Int32) hw (lv_sub hl [] rfl) hf
noncomputable def m9_isCue_296 (fl : Nat) (len : Nat → Nat) (I : Im) (X : Xm) (zx0 : Nat) (zx1 : Nat) (zx10 : Int32) (zx11 : Int32) : Option (Int32 × Im × Xm) :=
  nn (m8_takeOut fl len X I zx0 zx10) fun ⟨zv1, zI2, zX3⟩ =>
  if zx11 = 0 then
    ck (inb (5 : Int32) (len zx1) = true) <|
    if (gA zI2 zx1 ((5 : Int32)).toNatClampNeg) = 0 then
      m9_isCue_325 fl len zI2 zX3 zv1 (-1 : Int32)
    else
      m9_isCue_325 fl len zI2 zX3 zv1 (-5 : Int32)
  else
    ck (inb (5 : Int32) (len zx1) = true) <|
    m9_isCue_325 fl len zI2 zX3 zv1 (gA zI2 zx1 ((5 : Int32)).toNatClampNeg)
set_option maxHeartbeats 4000000 in
set_option maxRecDepth 100000 in
theorem w9_isCue_296 {p : Program} {l : Launch} {e : Env} {s : State} {m : MethodId} {args : Array Value} {below : List Frame} {meth : Method} {c : Code} {E : EN} {G : GM} (C0 : CX p s m args meth c E cL_isCue RL 14) (hr : meth.sig.returnType = (some .boolean)) (hz : s.heap.size + 0 ≤ eB E + G.1) {rr : Int32 × Im × Xm} (fl : Nat) : ∀ (I : Im) (X : Xm) (H : Heap) (locs : List Loc) (ls : Array Slot) (zx0 : Nat) (zx1 : Nat) (zx10 : Int32) (zx11 : Int32) (zt0 : okA E G 8 zx0) (zt1 : okA E G 11 zx1), WD E G I X s.heap H locs → lv_has ls 14 [(0, .ref zx0), (1, .ref zx1), (10, .int zx10), (11, .int zx11)] → m9_isCue_296 fl G.2.2 I X zx0 zx1 zx10 zx11 = some rr → W p l e ({ frames := 5, cells := 0, slots := 0, locals := 116 } : Room) s m args below meth c H locs 0 0 (MQ below (QI E G rr.1 rr.2.1 rr.2.2) args s 0 0 (eA E)) (F0 m 296 ls []) := by
  intro I X H locs ls zx0 zx1 zx10 zx11 zt0 zt1 hw hl hf
  unfold m9_isCue_296 at hf
  have hx := C0.1; have hb := C0.2.1; have hml := C0.2.2.1; have hown := C0.2.2.2.1; have hts := C0.2.2.2.2.1
  refine lv_aload_n hx hb dL_isCue_296 rfl (lv_at hl 0 rfl) ?_
  refine lv_iload hx hb dL_isCue_297 (lv_at hl 2 rfl) ?_
  obtain ⟨⟨zv1, zI2, zX3⟩, ze4, hf⟩ := nn_some hf
  refine x_ci (r := zv1) (I1 := zI2) (X1 := zX3) (x_runV (As := [.int zx10]) (rest := []) C0 (c8_takeOut l E G fl X I zx0 zx10 zt0 ze4) hw 8 zt0 (by decide) rfl wd63 wd462 wd463 wd464 wd107 ⟨rfl, rfl⟩ hy8_takeOut ⟨Nat.le_of_ble_eq_true rfl, Nat.le_of_ble_eq_true rfl⟩ rfl hl.1 (Nat.le_of_ble_eq_true rfl) ⟨Nat.zero_le _, Nat.zero_le _⟩ dL_isCue_299) hw (fun H locs hw => ?_)
  refine lv_iload hx hb dL_isCue_302 (lv_at hl 3 rfl) ?_
  refine lv_if_eq (tgt := 313) hx hb dL_isCue_304 (by decide) (fun zc5 => ?_) (fun zc5 => ?_)
  · have hf := ite_t hf zc5
    refine lv_aload_n hx hb dL_isCue_313 rfl (lv_at hl 1 rfl) ?_
    refine lv_iconst (v := (5 : Int32)) hx hb dL_isCue_314 (by decide) ?_
    obtain ⟨zhb6, hf⟩ := ck_some hf
    refine x_iald C0 hw zt1 zhb6 dL_isCue_315 ?_
    refine lv_if_ne (tgt := 323) hx hb dL_isCue_316 (by decide) (fun zc7 => ?_) (fun zc7 => ?_)
    · have hf := ite_f hf zc7
      refine lv_bipush (v := (-5 : Int32)) hx hb dL_isCue_323 (by decide) ?_
      exact w9_isCue_325 C0 hr hz fl zI2 zX3 _ _ _ zv1 (-5 : Int32) hw (lv_sub hl [] rfl) hf
    · have hf := ite_t hf zc7
      refine lv_iconst (v := (-1 : Int32)) hx hb dL_isCue_319 (by decide) ?_
      refine lv_goto (tgt := 325) hx hb dL_isCue_320 (by decide) ?_
      exact w9_isCue_325 C0 hr hz fl zI2 zX3 _ _ _ zv1 (-1 : Int32) hw (lv_sub hl [] rfl) hf
  · have hf := ite_f hf zc5
    refine lv_aload_n hx hb dL_isCue_307 rfl (lv_at hl 1 rfl) ?_
    refine lv_iconst (v := (5 : Int32)) hx hb dL_isCue_308 (by decide) ?_
    obtain ⟨zhb8, hf⟩ := ck_some hf
    refine x_iald C0 hw zt1 zhb8 dL_isCue_309 ?_
    refine lv_goto (tgt := 325) hx hb dL_isCue_310 (by decide) ?_
    exact w9_isCue_325 C0 hr hz fl zI2 zX3 _ _ _ zv1 (gA zI2 zx1 ((5 : Int32)).toNatClampNeg) hw (lv_sub hl [] rfl) hf
noncomputable def m9_isCue_274 (fl : Nat) (len : Nat → Nat) (I : Im) (X : Xm) (zx0 : Nat) (zx1 : Nat) (zx2 : Nat) (zx3 : Nat) (zx5 : Int32) (zx7 : Int32) (zx10 : Int32) (zs0 : Int32) : Option (Int32 × Im × Xm) :=
  if (14 : Int32) ≤ zx5 then
    ck (inb (5 : Int32) (len zx1) = true) <|
    if (gA I zx1 ((5 : Int32)).toNatClampNeg) = 0 then
      m9_isCue_381 fl len I X zx0 zx1 zx2 zx3 zx7 zx10 (-1 : Int32)
    else
      if zx7 < 0 then
        m9_isCue_357 fl len I X zx0 zx1 zx2 zx3 zx7 zx10
      else
        if zx7 ≤ (999 : Int32) then
          if zs0 = 0 then
            m9_isCue_375 fl len I X zx0 zx1 zx2 zx3 zx7 zx10
          else
            ck (inb (4 : Int32) (len zx1) = true) <|
            if (gA I zx1 ((4 : Int32)).toNatClampNeg) ≤ zx7 then
              m9_isCue_381 fl len I X zx0 zx1 zx2 zx3 zx7 zx10 (0 : Int32)
            else
              m9_isCue_375 fl len I X zx0 zx1 zx2 zx3 zx7 zx10
        else
          m9_isCue_357 fl len I X zx0 zx1 zx2 zx3 zx7 zx10
  else
    if zs0 = 0 then
      m9_isCue_296 fl len I X zx0 zx1 zx10 zs0
    else
      nn (m9_take fl len X I zx1 zx2 zx3 zx10) fun zI10 =>
      m9_isCue_296 fl len zI10 X zx0 zx1 zx10 zs0
set_option maxHeartbeats 4000000 in
set_option maxRecDepth 100000 in
theorem w9_isCue_274 {p : Program} {l : Launch} {e : Env} {s : State} {m : MethodId} {args : Array Value} {below : List Frame} {meth : Method} {c : Code} {E : EN} {G : GM} (C0 : CX p s m args meth c E cL_isCue RL 14) (hr : meth.sig.returnType = (some .boolean)) (hz : s.heap.size + 0 ≤ eB E + G.1) {rr : Int32 × Im × Xm} (fl : Nat) : ∀ (I : Im) (X : Xm) (H : Heap) (locs : List Loc) (ls : Array Slot) (zx0 : Nat) (zx1 : Nat) (zx2 : Nat) (zx3 : Nat) (zx5 : Int32) (zx7 : Int32) (zx10 : Int32) (zs0 : Int32) (zt0 : okA E G 8 zx0) (zt1 : okA E G 11 zx1) (zt2 : okA E G 11 zx2) (zt3 : okA E G 11 zx3), WD E G I X s.heap H locs → lv_has ls 14 [(0, .ref zx0), (1, .ref zx1), (2, .ref zx2), (3, .ref zx3), (5, .int zx5), (7, .int zx7), (10, .int zx10)] → m9_isCue_274 fl G.2.2 I X zx0 zx1 zx2 zx3 zx5 zx7 zx10 zs0 = some rr → W p l e ({ frames := 5, cells := 0, slots := 0, locals := 116 } : Room) s m args below meth c H locs 0 0 (MQ below (QI E G rr.1 rr.2.1 rr.2.2) args s 0 0 (eA E)) (F0 m 274 ls [.int zs0]) := by
  intro I X H locs ls zx0 zx1 zx2 zx3 zx5 zx7 zx10 zs0 zt0 zt1 zt2 zt3 hw hl hf
  unfold m9_isCue_274 at hf
  have hx := C0.1; have hb := C0.2.1; have hml := C0.2.2.1; have hown := C0.2.2.2.1; have hts := C0.2.2.2.2.1
  refine lv_istore (lv' := [(11, .int zs0), (0, .ref zx0), (1, .ref zx1), (2, .ref zx2), (3, .ref zx3), (5, .int zx5), (7, .int zx7), (10, .int zx10)]) hx hb dL_isCue_274 hl (by decide) rfl (fun ls hl => ?_)
  refine lv_iload hx hb dL_isCue_276 (lv_at hl 5 rfl) ?_
  refine lv_bipush (v := (14 : Int32)) hx hb dL_isCue_278 (by decide) ?_
  refine lv_icmp_ge (tgt := 334) hx hb dL_isCue_280 (by decide) (fun zc1 => ?_) (fun zc1 => ?_)
  · have hf := ite_t hf zc1
    refine lv_aload_n hx hb dL_isCue_334 rfl (lv_at hl 2 rfl) ?_
    refine lv_iconst (v := (5 : Int32)) hx hb dL_isCue_335 (by decide) ?_
    obtain ⟨zhb2, hf⟩ := ck_some hf
    refine x_iald C0 hw zt1 zhb2 dL_isCue_336 ?_
    refine lv_if_ne (tgt := 344) hx hb dL_isCue_337 (by decide) (fun zc3 => ?_) (fun zc3 => ?_)
    · have hf := ite_f hf zc3
      refine lv_iload hx hb dL_isCue_344 (lv_at hl 6 rfl) ?_
      refine lv_if_lt (tgt := 357) hx hb dL_isCue_346 (by decide) (fun zc4 => ?_) (fun zc4 => ?_)
      · have hf := ite_t hf zc4
        exact w9_isCue_357 C0 hr hz fl I X _ _ _ zx0 zx1 zx2 zx3 zx7 zx10 zt0 zt1 zt2 zt3 hw (lv_sub hl [1, 2, 3, 4, 6, 7] rfl) hf
      · have hf := ite_f hf zc4
        refine lv_iload hx hb dL_isCue_349 (lv_at hl 6 rfl) ?_
        refine lv_sipush (v := (999 : Int32)) hx hb dL_isCue_351 (by decide) ?_
        refine lv_icmp_le (tgt := 362) hx hb dL_isCue_354 (by decide) (fun zc5 => ?_) (fun zc5 => ?_)
        · have hf := ite_t hf zc5
          refine lv_iload hx hb dL_isCue_362 (lv_at hl 0 rfl) ?_
          refine lv_if_eq (tgt := 375) hx hb dL_isCue_364 (by decide) (fun zc6 => ?_) (fun zc6 => ?_)
          · have hf := ite_t hf zc6
            exact w9_isCue_375 C0 hr hz fl I X _ _ _ zx0 zx1 zx2 zx3 zx7 zx10 zt0 zt1 zt2 zt3 hw (lv_sub hl [1, 2, 3, 4, 6, 7] rfl) hf
          · have hf := ite_f hf zc6
            refine lv_iload hx hb dL_isCue_367 (lv_at hl 6 rfl) ?_
            refine lv_aload_n hx hb dL_isCue_369 rfl (lv_at hl 2 rfl) ?_
            refine lv_iconst (v := (4 : Int32)) hx hb dL_isCue_370 (by decide) ?_
            obtain ⟨zhb7, hf⟩ := ck_some hf
            refine x_iald C0 hw zt1 zhb7 dL_isCue_371 ?_
            refine lv_icmp_ge (tgt := 380) hx hb dL_isCue_372 (by decide) (fun zc8 => ?_) (fun zc8 => ?_)
            · have hf := ite_t hf zc8
              refine lv_iconst (v := (0 : Int32)) hx hb dL_isCue_380 (by decide) ?_
              exact w9_isCue_381 C0 hr hz fl I X _ _ _ zx0 zx1 zx2 zx3 zx7 zx10 (0 : Int32) zt0 zt1 zt2 zt3 hw (lv_sub hl [1, 2, 3, 4, 6, 7] rfl) hf
            · have hf := ite_f hf zc8
              exact w9_isCue_375 C0 hr hz fl I X _ _ _ zx0 zx1 zx2 zx3 zx7 zx10 zt0 zt1 zt2 zt3 hw (lv_sub hl [1, 2, 3, 4, 6, 7] rfl) hf
        · have hf := ite_f hf zc5
          exact w9_isCue_357 C0 hr hz fl I X _ _ _ zx0 zx1 zx2 zx3 zx7 zx10 zt0 zt1 zt2 zt3 hw (lv_sub hl [1, 2, 3, 4, 6, 7] rfl) hf
    · have hf := ite_t hf zc3
      refine lv_iconst (v := (-1 : Int32)) hx hb dL_isCue_340 (by decide) ?_
      refine lv_goto (tgt := 381) hx hb dL_isCue_341 (by decide) ?_
      exact w9_isCue_381 C0 hr hz fl I X _ _ _ zx0 zx1 zx2 zx3 zx7 zx10 (-1 : Int32) zt0 zt1 zt2 zt3 hw (lv_sub hl [1, 2, 3, 4, 6, 7] rfl) hf
  · have hf := ite_f hf zc1
    refine lv_iload hx hb dL_isCue_283 (lv_at hl 0 rfl) ?_
    refine lv_if_eq (tgt := 296) hx hb dL_isCue_285 (by decide) (fun zc9 => ?_) (fun zc9 => ?_)
    · have hf := ite_t hf zc9
      exact w9_isCue_296 C0 hr hz fl I X _ _ _ zx0 zx1 zx10 zs0 zt0 zt1 hw (lv_sub hl [1, 2, 7, 0] rfl) hf
    · have hf := ite_f hf zc9
      refine lv_aload_n hx hb dL_isCue_288 rfl (lv_at hl 2 rfl) ?_
      refine lv_aload_n hx hb dL_isCue_289 rfl (lv_at hl 3 rfl) ?_
      refine lv_aload_n hx hb dL_isCue_290 rfl (lv_at hl 4 rfl) ?_
      refine lv_iload hx hb dL_isCue_291 (lv_at hl 7 rfl) ?_
      obtain ⟨zI10, ze11, hf⟩ := nn_some hf
      refine x_cv (I1 := zI10) (X1 := X) (x_runS (As := [.ref zx1, .ref zx2, .ref zx3, .int zx10]) (rest := []) C0 (c9_take l E G fl X I zx1 zx2 zx3 zx10 zt1 zt2 zt3 ze11) hw wd86 wd460 wd461 wd422 ⟨rfl, rfl⟩ hy9_take ⟨Nat.le_of_ble_eq_true rfl, Nat.le_of_ble_eq_true rfl⟩ rfl hl.1 (Nat.le_of_ble_eq_true rfl) ⟨Nat.zero_le _, Nat.zero_le _⟩ dL_isCue_293) hw (fun H locs hw => ?_)
      exact w9_isCue_296 C0 hr hz fl zI10 X _ _ _ zx0 zx1 zx10 zs0 zt0 zt1 hw (lv_sub hl [1, 2, 7, 0] rfl) hf
noncomputable def m9_isCue_273 (fl : Nat) (len : Nat → Nat) (I : Im) (X : Xm) (zx0 : Nat) (zx1 : Nat) (zx2 : Nat) (zx3 : Nat) (zx5 : Int32) (zx7 : Int32) (zx10 : Int32) : Option (Int32 × Im × Xm) :=
  m9_isCue_274 fl len I X zx0 zx1 zx2 zx3 zx5 zx7 zx10 (0 : Int32)
set_option maxHeartbeats 4000000 in
set_option maxRecDepth 100000 in
theorem w9_isCue_273 {p : Program} {l : Launch} {e : Env} {s : State} {m : MethodId} {args : Array Value} {below : List Frame} {meth : Method} {c : Code} {E : EN} {G : GM} (C0 : CX p s m args meth c E cL_isCue RL 14) (hr : meth.sig.returnType = (some .boolean)) (hz : s.heap.size + 0 ≤ eB E + G.1) {rr : Int32 × Im × Xm} (fl : Nat) : ∀ (I : Im) (X : Xm) (H : Heap) (locs : List Loc) (ls : Array Slot) (zx0 : Nat) (zx1 : Nat) (zx2 : Nat) (zx3 : Nat) (zx5 : Int32) (zx7 : Int32) (zx10 : Int32) (zt0 : okA E G 8 zx0) (zt1 : okA E G 11 zx1) (zt2 : okA E G 11 zx2) (zt3 : okA E G 11 zx3), WD E G I X s.heap H locs → lv_has ls 14 [(0, .ref zx0), (1, .ref zx1), (2, .ref zx2), (3, .ref zx3), (5, .int zx5), (7, .int zx7), (10, .int zx10)] → m9_isCue_273 fl G.2.2 I X zx0 zx1 zx2 zx3 zx5 zx7 zx10 = some rr → W p l e ({ frames := 5, cells := 0, slots := 0, locals := 116 } : Room) s m args below meth c H locs 0 0 (MQ below (QI E G rr.1 rr.2.1 rr.2.2) args s 0 0 (eA E)) (F0 m 273 ls []) := by
  intro I X H locs ls zx0 zx1 zx2 zx3 zx5 zx7 zx10 zt0 zt1 zt2 zt3 hw hl hf
  unfold m9_isCue_273 at hf
  have hx := C0.1; have hb := C0.2.1; have hml := C0.2.2.1; have hown := C0.2.2.2.1; have hts := C0.2.2.2.2.1
  refine lv_iconst (v := (0 : Int32)) hx hb dL_isCue_273 (by decide) ?_
  exact w9_isCue_274 C0 hr hz fl I X _ _ _ zx0 zx1 zx2 zx3 zx5 zx7 zx10 (0 : Int32) zt0 zt1 zt2 zt3 hw (lv_sub hl [0, 1, 2, 3, 4, 5, 6] rfl) hf
noncomputable def m9_isCue_251 (fl : Nat) (len : Nat → Nat) (I : Im) (X : Xm) (zx0 : Nat) (zx1 : Nat) (zx2 : Nat) (zx3 : Nat) (zx5 : Int32) (zx7 : Int32) (zs0 : Int32) : Option (Int32 × Im × Xm) :=
  ck (inb (5 : Int32) (len zx1) = true) <|
  if (gA I zx1 ((5 : Int32)).toNatClampNeg) ≤ 0 then
    m9_isCue_273 fl len I X zx0 zx1 zx2 zx3 zx5 zx7 zs0
  else
    ck (inb zs0 (len zx3) = true) <|
    if (2048 : Int32) ≤ (gA I zx3 (zs0).toNatClampNeg) then
      m9_isCue_273 fl len I X zx0 zx1 zx2 zx3 zx5 zx7 zs0
    else
      m9_isCue_274 fl len I X zx0 zx1 zx2 zx3 zx5 zx7 zs0 (1 : Int32)
set_option maxHeartbeats 4000000 in
set_option maxRecDepth 100000 in
theorem w9_isCue_251 {p : Program} {l : Launch} {e : Env} {s : State} {m : MethodId} {args : Array Value} {below : List Frame} {meth : Method} {c : Code} {E : EN} {G : GM} (C0 : CX p s m args meth c E cL_isCue RL 14) (hr : meth.sig.returnType = (some .boolean)) (hz : s.heap.size + 0 ≤ eB E + G.1) {rr : Int32 × Im × Xm} (fl : Nat) : ∀ (I : Im) (X : Xm) (H : Heap) (locs : List Loc) (ls : Array Slot) (zx0 : Nat) (zx1 : Nat) (zx2 : Nat) (zx3 : Nat) (zx5 : Int32) (zx7 : Int32) (zs0 : Int32) (zt0 : okA E G 8 zx0) (zt1 : okA E G 11 zx1) (zt2 : okA E G 11 zx2) (zt3 : okA E G 11 zx3), WD E G I X s.heap H locs → lv_has ls 14 [(0, .ref zx0), (1, .ref zx1), (2, .ref zx2), (3, .ref zx3), (5, .int zx5), (7, .int zx7)] → m9_isCue_251 fl G.2.2 I X zx0 zx1 zx2 zx3 zx5 zx7 zs0 = some rr → W p l e ({ frames := 5, cells := 0, slots := 0, locals := 116 } : Room) s m args below meth c H locs 0 0 (MQ below (QI E G rr.1 rr.2.1 rr.2.2) args s 0 0 (eA E)) (F0 m 251 ls [.int zs0]) := by
  intro I X H locs ls zx0 zx1 zx2 zx3 zx5 zx7 zs0 zt0 zt1 zt2 zt3 hw hl hf
  unfold m9_isCue_251 at hf
  have hx := C0.1; have hb := C0.2.1; have hml := C0.2.2.1; have hown := C0.2.2.2.1; have hts := C0.2.2.2.2.1
  refine lv_istore (lv' := [(10, .int zs0), (0, .ref zx0), (1, .ref zx1), (2, .ref zx2), (3, .ref zx3), (5, .int zx5), (7, .int zx7)]) hx hb dL_isCue_251 hl (by decide) rfl (fun ls hl => ?_)
  refine lv_aload_n hx hb dL_isCue_253 rfl (lv_at hl 2 rfl) ?_
  refine lv_iconst (v := (5 : Int32)) hx hb dL_isCue_254 (by decide) ?_
  obtain ⟨zhb1, hf⟩ := ck_some hf
  refine x_iald C0 hw zt1 zhb1 dL_isCue_255 ?_
  refine lv_if_le (tgt := 273) hx hb dL_isCue_256 (by decide) (fun zc2 => ?_) (fun zc2 => ?_)
  · have hf := ite_t hf zc2
    exact w9_isCue_273 C0 hr hz fl I X _ _ _ zx0 zx1 zx2 zx3 zx5 zx7 zs0 zt0 zt1 zt2 zt3 hw (lv_sub hl [1, 2, 3, 4, 5, 6, 0] rfl) hf
  · have hf := ite_f hf zc2
    refine lv_aload_n hx hb dL_isCue_259 rfl (lv_at hl 4 rfl) ?_
    refine lv_iload hx hb dL_isCue_260 (lv_at hl 0 rfl) ?_
    obtain ⟨zhb3, hf⟩ := ck_some hf
    refine x_iald C0 hw zt3 zhb3 dL_isCue_262 ?_
    refine lv_sipush (v := (2048 : Int32)) hx hb dL_isCue_263 (by decide) ?_
    refine lv_icmp_ge (tgt := 273) hx hb dL_isCue_266 (by decide) (fun zc4 => ?_) (fun zc4 => ?_)
    · have hf := ite_t hf zc4
      exact w9_isCue_273 C0 hr hz fl I X _ _ _ zx0 zx1 zx2 zx3 zx5 zx7 zs0 zt0 zt1 zt2 zt3 hw (lv_sub hl [1, 2, 3, 4, 5, 6, 0] rfl) hf
    · have hf := ite_f hf zc4
      refine lv_iconst (v := (1 : Int32)) hx hb dL_isCue_269 (by decide) ?_
      refine lv_goto (tgt := 274) hx hb dL_isCue_270 (by decide) ?_
      exact w9_isCue_274 C0 hr hz fl I X _ _ _ zx0 zx1 zx2 zx3 zx5 zx7 zs0 (1 : Int32) zt0 zt1 zt2 zt3 hw (lv_sub hl [1, 2, 3, 4, 5, 6, 0] rfl) hf
noncomputable def m9_isCue_234 (fl : Nat) (len : Nat → Nat) (I : Im) (X : Xm) (zs0 : Int32) : Option (Int32 × Im × Xm) :=
  ck (isbl zs0 = true) <|
  some (zs0, I, X)
set_option maxHeartbeats 4000000 in
set_option maxRecDepth 100000 in
theorem w9_isCue_234 {p : Program} {l : Launch} {e : Env} {s : State} {m : MethodId} {args : Array Value} {below : List Frame} {meth : Method} {c : Code} {E : EN} {G : GM} (C0 : CX p s m args meth c E cL_isCue RL 14) (hr : meth.sig.returnType = (some .boolean)) (hz : s.heap.size + 0 ≤ eB E + G.1) {rr : Int32 × Im × Xm} (fl : Nat) : ∀ (I : Im) (X : Xm) (H : Heap) (locs : List Loc) (ls : Array Slot) (zs0 : Int32) , WD E G I X s.heap H locs → lv_has ls 14 [] → m9_isCue_234 fl G.2.2 I X zs0 = some rr → W p l e ({ frames := 5, cells := 0, slots := 0, locals := 116 } : Room) s m args below meth c H locs 0 0 (MQ below (QI E G rr.1 rr.2.1 rr.2.2) args s 0 0 (eA E)) (F0 m 234 ls [.int zs0]) := by
  intro I X H locs ls zs0 hw hl hf
  unfold m9_isCue_234 at hf
  have hx := C0.1; have hb := C0.2.1; have hml := C0.2.2.1; have hown := C0.2.2.2.1; have hts := C0.2.2.2.2.1
  obtain ⟨zhn1, hf⟩ := ck_some hf
  obtain rfl := Option.some.inj hf
  exact x_zret C0 hr (isbl_nar zhn1) hw dL_isCue_234
noncomputable def m9_isCue_212 (fl : Nat) (len : Nat → Nat) (I : Im) (X : Xm) (zx0 : Nat) (zx7 : Int32) (zx8 : Int32) (zx10 : Int32) (zx11 : Int32) (zx13 : Int32) : Option (Int32 × Im × Xm) :=
  nn (m8_cue fl len X I zx0 zx7 zx10 zx8 zx11) fun ⟨zv1, zI2, zX3⟩ =>
  if zv1 = zx13 then
    m9_isCue_234 fl len zI2 zX3 (1 : Int32)
  else
    m9_isCue_234 fl len zI2 zX3 (0 : Int32)
set_option maxHeartbeats 4000000 in
set_option maxRecDepth 100000 in
theorem w9_isCue_212 {p : Program} {l : Launch} {e : Env} {s : State} {m : MethodId} {args : Array Value} {below : List Frame} {meth : Method} {c : Code} {E : EN} {G : GM} (C0 : CX p s m args meth c E cL_isCue RL 14) (hr : meth.sig.returnType = (some .boolean)) (hz : s.heap.size + 0 ≤ eB E + G.1) {rr : Int32 × Im × Xm} (fl : Nat) : ∀ (I : Im) (X : Xm) (H : Heap) (locs : List Loc) (ls : Array Slot) (zx0 : Nat) (zx7 : Int32) (zx8 : Int32) (zx10 : Int32) (zx11 : Int32) (zx13 : Int32) (zt0 : okA E G 8 zx0), WD E G I X s.heap H locs → lv_has ls 14 [(0, .ref zx0), (7, .int zx7), (8, .int zx8), (10, .int zx10), (11, .int zx11), (13, .int zx13)] → m9_isCue_212 fl G.2.2 I X zx0 zx7 zx8 zx10 zx11 zx13 = some rr → W p l e ({ frames := 5, cells := 0, slots := 0, locals := 116 } : Room) s m args below meth c H locs 0 0 (MQ below (QI E G rr.1 rr.2.1 rr.2.2) args s 0 0 (eA E)) (F0 m 212 ls []) := by
  intro I X H locs ls zx0 zx7 zx8 zx10 zx11 zx13 zt0 hw hl hf
  unfold m9_isCue_212 at hf
  have hx := C0.1; have hb := C0.2.1; have hml := C0.2.2.1; have hown := C0.2.2.2.1; have hts := C0.2.2.2.2.1
  refine lv_aload_n hx hb dL_isCue_212 rfl (lv_at hl 0 rfl) ?_
  refine lv_iload hx hb dL_isCue_213 (lv_at hl 1 rfl) ?_
  refine lv_iload hx hb dL_isCue_215 (lv_at hl 3 rfl) ?_
  refine lv_iload hx hb dL_isCue_217 (lv_at hl 2 rfl) ?_
  refine lv_iload hx hb dL_isCue_219 (lv_at hl 4 rfl) ?_
  obtain ⟨⟨zv1, zI2, zX3⟩, ze4, hf⟩ := nn_some hf
  refine x_ci (r := zv1) (I1 := zI2) (X1 := zX3) (x_runV (As := [.int zx7, .int zx10, .int zx8, .int zx11]) (rest := []) C0 (c8_cue l E G fl X I zx0 zx7 zx10 zx8 zx11 zt0 ze4) hw 8 zt0 (by decide) rfl wd62 wd457 wd458 wd459 wd107 ⟨rfl, rfl⟩ hy8_cue ⟨Nat.le_of_ble_eq_true rfl, Nat.le_of_ble_eq_true rfl⟩ rfl hl.1 (Nat.le_of_ble_eq_true rfl) ⟨Nat.zero_le _, Nat.zero_le _⟩ dL_isCue_221) hw (fun H locs hw => ?_)
  refine lv_iload hx hb dL_isCue_224 (lv_at hl 5 rfl) ?_
  refine lv_icmp_ne (tgt := 233) hx hb dL_isCue_226 (by decide) (fun zc5 => ?_) (fun zc5 => ?_)
  · have hf := ite_f hf zc5
    refine lv_iconst (v := (0 : Int32)) hx hb dL_isCue_233 (by decide) ?_
    exact w9_isCue_234 C0 hr hz fl zI2 zX3 _ _ _ (0 : Int32) hw (lv_sub hl [] rfl) hf
  · have hf := ite_t hf zc5
    refine lv_iconst (v := (1 : Int32)) hx hb dL_isCue_229 (by decide) ?_
    refine lv_goto (tgt := 234) hx hb dL_isCue_230 (by decide) ?_
    exact w9_isCue_234 C0 hr hz fl zI2 zX3 _ _ _ (1 : Int32) hw (lv_sub hl [] rfl) hf
noncomputable def m9_isCue_182 (fl : Nat) (len : Nat → Nat) (I : Im) (X : Xm) (zx0 : Nat) (zx1 : Nat) (zx2 : Nat) (zx3 : Nat) (zx7 : Int32) (zx8 : Int32) (zx10 : Int32) (zx11 : Int32) (zs0 : Int32) : Option (Int32 × Im × Xm) :=
  if zs0 < 0 then
    m9_isCue_212 fl len I X zx0 zx7 zx8 zx10 zx11 zs0
  else
    nn (m9_insert fl len X I zx1 zx2 zx3 zs0 zx7 ((zx10 + ((4 : Int32) * zx8)) + ((16 : Int32) * zx11))) fun zI2 =>
    m9_isCue_212 fl len zI2 X zx0 zx7 zx8 zx10 zx11 zs0
set_option maxHeartbeats 4000000 in
set_option maxRecDepth 100000 in
theorem w9_isCue_182 {p : Program} {l : Launch} {e : Env} {s : State} {m : MethodId} {args : Array Value} {below : List Frame} {meth : Method} {c : Code} {E : EN} {G : GM} (C0 : CX p s m args meth c E cL_isCue RL 14) (hr : meth.sig.returnType = (some .boolean)) (hz : s.heap.size + 0 ≤ eB E + G.1) {rr : Int32 × Im × Xm} (fl : Nat) : ∀ (I : Im) (X : Xm) (H : Heap) (locs : List Loc) (ls : Array Slot) (zx0 : Nat) (zx1 : Nat) (zx2 : Nat) (zx3 : Nat) (zx7 : Int32) (zx8 : Int32) (zx10 : Int32) (zx11 : Int32) (zs0 : Int32) (zt0 : okA E G 8 zx0) (zt1 : okA E G 11 zx1) (zt2 : okA E G 11 zx2) (zt3 : okA E G 11 zx3), WD E G I X s.heap H locs → lv_has ls 14 [(0, .ref zx0), (1, .ref zx1), (2, .ref zx2), (3, .ref zx3), (7, .int zx7), (8, .int zx8), (10, .int zx10), (11, .int zx11)] → m9_isCue_182 fl G.2.2 I X zx0 zx1 zx2 zx3 zx7 zx8 zx10 zx11 zs0 = some rr → W p l e ({ frames := 5, cells := 0, slots := 0, locals := 116 } : Room) s m args below meth c H locs 0 0 (MQ below (QI E G rr.1 rr.2.1 rr.2.2) args s 0 0 (eA E)) (F0 m 182 ls [.int zs0]) := by
  intro I X H locs ls zx0 zx1 zx2 zx3 zx7 zx8 zx10 zx11 zs0 zt0 zt1 zt2 zt3 hw hl hf
  unfold m9_isCue_182 at hf
  have hx := C0.1; have hb := C0.2.1; have hml := C0.2.2.1; have hown := C0.2.2.2.1; have hts := C0.2.2.2.2.1
  refine lv_istore (lv' := [(13, .int zs0), (0, .ref zx0), (1, .ref zx1), (2, .ref zx2), (3, .ref zx3), (7, .int zx7), (8, .int zx8), (10, .int zx10), (11, .int zx11)]) hx hb dL_isCue_182 hl (by decide) rfl (fun ls hl => ?_)
  refine lv_iload hx hb dL_isCue_184 (lv_at hl 0 rfl) ?_
  refine lv_if_lt (tgt := 212) hx hb dL_isCue_186 (by decide) (fun zc1 => ?_) (fun zc1 => ?_)
  · have hf := ite_t hf zc1
    exact w9_isCue_212 C0 hr hz fl I X _ _ _ zx0 zx7 zx8 zx10 zx11 zs0 zt0 hw (lv_sub hl [1, 5, 6, 7, 8, 0] rfl) hf
  · have hf := ite_f hf zc1
    refine lv_aload_n hx hb dL_isCue_189 rfl (lv_at hl 2 rfl) ?_
    refine lv_aload_n hx hb dL_isCue_190 rfl (lv_at hl 3 rfl) ?_
    refine lv_aload_n hx hb dL_isCue_191 rfl (lv_at hl 4 rfl) ?_
    refine lv_iload hx hb dL_isCue_192 (lv_at hl 0 rfl) ?_
    refine lv_iload hx hb dL_isCue_194 (lv_at hl 5 rfl) ?_
    refine lv_iload hx hb dL_isCue_196 (lv_at hl 7 rfl) ?_
    refine lv_iconst (v := (4 : Int32)) hx hb dL_isCue_198 (by decide) ?_
    refine lv_iload hx hb dL_isCue_199 (lv_at hl 6 rfl) ?_
    refine lv_imul hx hb dL_isCue_201 ?_
    refine lv_iadd hx hb dL_isCue_202 ?_
    refine lv_bipush (v := (16 : Int32)) hx hb dL_isCue_203 (by decide) ?_
    refine lv_iload hx hb dL_isCue_205 (lv_at hl 8 rfl) ?_
    refine lv_imul hx hb dL_isCue_207 ?_
    refine lv_iadd hx hb dL_isCue_208 ?_
    obtain ⟨zI2, ze3, hf⟩ := nn_some hf
    refine x_cv (I1 := zI2) (X1 := X) (x_runS (As := [.ref zx1, .ref zx2, .ref zx3, .int zs0, .int zx7, .int ((zx10 + ((4 : Int32) * zx8)) + ((16 : Int32) * zx11))]) (rest := []) C0 (c9_insert l E G fl X I zx1 zx2 zx3 zs0 zx7 ((zx10 + ((4 : Int32) * zx8)) + ((16 : Int32) * zx11)) zt1 zt2 zt3 ze3) hw wd85 wd455 wd456 wd422 ⟨rfl, rfl⟩ hy9_insert ⟨Nat.le_of_ble_eq_true rfl, Nat.le_of_ble_eq_true rfl⟩ rfl hl.1 (Nat.le_of_ble_eq_true rfl) ⟨Nat.zero_le _, Nat.zero_le _⟩ dL_isCue_209) hw (fun H locs hw => ?_)
    exact w9_isCue_212 C0 hr hz fl zI2 X _ _ _ zx0 zx7 zx8 zx10 zx11 zs0 zt0 hw (lv_sub hl [1, 5, 6, 7, 8, 0] rfl) hf
noncomputable def m9_isCue_135 (fl : Nat) (len : Nat → Nat) (I : Im) (X : Xm) (zx0 : Nat) (zx1 : Nat) (zx2 : Nat) (zx3 : Nat) (zx7 : Int32) (zx8 : Int32) (zx10 : Int32) (zx11 : Int32) : Option (Int32 × Im × Xm) :=
  m9_isCue_182 fl len I X zx0 zx1 zx2 zx3 zx7 zx8 zx10 zx11 (-2 : Int32)
set_option maxHeartbeats 4000000 in
set_option maxRecDepth 100000 in
theorem w9_isCue_135 {p : Program} {l : Launch} {e : Env} {s : State} {m : MethodId} {args : Array Value} {below : List Frame} {meth : Method} {c : Code} {E : EN} {G : GM} (C0 : CX p s m args meth c E cL_isCue RL 14) (hr : meth.sig.returnType = (some .boolean)) (hz : s.heap.size + 0 ≤ eB E + G.1) {rr : Int32 × Im × Xm} (fl : Nat) : ∀ (I : Im) (X : Xm) (H : Heap) (locs : List Loc) (ls : Array Slot) (zx0 : Nat) (zx1 : Nat) (zx2 : Nat) (zx3 : Nat) (zx7 : Int32) (zx8 : Int32) (zx10 : Int32) (zx11 : Int32) (zt0 : okA E G 8 zx0) (zt1 : okA E G 11 zx1) (zt2 : okA E G 11 zx2) (zt3 : okA E G 11 zx3), WD E G I X s.heap H locs → lv_has ls 14 [(0, .ref zx0), (1, .ref zx1), (2, .ref zx2), (3, .ref zx3), (7, .int zx7), (8, .int zx8), (10, .int zx10), (11, .int zx11)] → m9_isCue_135 fl G.2.2 I X zx0 zx1 zx2 zx3 zx7 zx8 zx10 zx11 = some rr → W p l e ({ frames := 5, cells := 0, slots := 0, locals := 116 } : Room) s m args below meth c H locs 0 0 (MQ below (QI E G rr.1 rr.2.1 rr.2.2) args s 0 0 (eA E)) (F0 m 135 ls []) := by
  intro I X H locs ls zx0 zx1 zx2 zx3 zx7 zx8 zx10 zx11 zt0 zt1 zt2 zt3 hw hl hf
  unfold m9_isCue_135 at hf
  have hx := C0.1; have hb := C0.2.1; have hml := C0.2.2.1; have hown := C0.2.2.2.1; have hts := C0.2.2.2.2.1
  refine lv_bipush (v := (-2 : Int32)) hx hb dL_isCue_135 (by decide) ?_
  refine lv_goto (tgt := 182) hx hb dL_isCue_137 (by decide) ?_
  exact w9_isCue_182 C0 hr hz fl I X _ _ _ zx0 zx1 zx2 zx3 zx7 zx8 zx10 zx11 (-2 : Int32) zt0 zt1 zt2 zt3 hw (lv_sub hl [0, 1, 2, 3, 4, 5, 6, 7] rfl) hf
noncomputable def m9_isCue_120 (fl : Nat) (len : Nat → Nat) (I : Im) (X : Xm) (zx0 : Nat) (zx1 : Nat) (zx2 : Nat) (zx3 : Nat) (zx7 : Int32) (zx8 : Int32) (zx10 : Int32) (zx11 : Int32) (zs0 : Int32) : Option (Int32 × Im × Xm) :=
  if zx7 < 0 then
    m9_isCue_135 fl len I X zx0 zx1 zx2 zx3 zx7 zx8 zx10 zx11
  else
    if zx7 ≤ (999 : Int32) then
      if zs0 = 0 then
        ck (inb (4 : Int32) (len zx1) = true) <|
        if (gA I zx1 ((4 : Int32)).toNatClampNeg) ≤ zx7 then
          ck (inb (5 : Int32) (len zx1) = true) <|
          if (gA I zx1 ((5 : Int32)).toNatClampNeg) = (24 : Int32) then
            m9_isCue_182 fl len I X zx0 zx1 zx2 zx3 zx7 zx8 zx10 zx11 (-4 : Int32)
          else
            nn (m9_rankFor fl len X I zx1 zx2 zx7) fun zv8 =>
            m9_isCue_182 fl len I X zx0 zx1 zx2 zx3 zx7 zx8 zx10 zx11 zv8
        else
          m9_isCue_182 fl len I X zx0 zx1 zx2 zx3 zx7 zx8 zx10 zx11 (-5 : Int32)
      else
        m9_isCue_182 fl len I X zx0 zx1 zx2 zx3 zx7 zx8 zx10 zx11 (-1 : Int32)
    else
      m9_isCue_135 fl len I X zx0 zx1 zx2 zx3 zx7 zx8 zx10 zx11
set_option maxHeartbeats 4000000 in
set_option maxRecDepth 100000 in
theorem w9_isCue_120 {p : Program} {l : Launch} {e : Env} {s : State} {m : MethodId} {args : Array Value} {below : List Frame} {meth : Method} {c : Code} {E : EN} {G : GM} (C0 : CX p s m args meth c E cL_isCue RL 14) (hr : meth.sig.returnType = (some .boolean)) (hz : s.heap.size + 0 ≤ eB E + G.1) {rr : Int32 × Im × Xm} (fl : Nat) : ∀ (I : Im) (X : Xm) (H : Heap) (locs : List Loc) (ls : Array Slot) (zx0 : Nat) (zx1 : Nat) (zx2 : Nat) (zx3 : Nat) (zx7 : Int32) (zx8 : Int32) (zx10 : Int32) (zx11 : Int32) (zs0 : Int32) (zt0 : okA E G 8 zx0) (zt1 : okA E G 11 zx1) (zt2 : okA E G 11 zx2) (zt3 : okA E G 11 zx3), WD E G I X s.heap H locs → lv_has ls 14 [(0, .ref zx0), (1, .ref zx1), (2, .ref zx2), (3, .ref zx3), (7, .int zx7), (8, .int zx8), (10, .int zx10), (11, .int zx11)] → m9_isCue_120 fl G.2.2 I X zx0 zx1 zx2 zx3 zx7 zx8 zx10 zx11 zs0 = some rr → W p l e ({ frames := 5, cells := 0, slots := 0, locals := 116 } : Room) s m args below meth c H locs 0 0 (MQ below (QI E G rr.1 rr.2.1 rr.2.2) args s 0 0 (eA E)) (F0 m 120 ls [.int zs0]) := by
  intro I X H locs ls zx0 zx1 zx2 zx3 zx7 zx8 zx10 zx11 zs0 zt0 zt1 zt2 zt3 hw hl hf
  unfold m9_isCue_120 at hf
  have hx := C0.1; have hb := C0.2.1; have hml := C0.2.2.1; have hown := C0.2.2.2.1; have hts := C0.2.2.2.2.1
  refine lv_istore (lv' := [(12, .int zs0), (0, .ref zx0), (1, .ref zx1), (2, .ref zx2), (3, .ref zx3), (7, .int zx7), (8, .int zx8), (10, .int zx10), (11, .int zx11)]) hx hb dL_isCue_120 hl (by decide) rfl (fun ls hl => ?_)
  refine lv_iload hx hb dL_isCue_122 (lv_at hl 5 rfl) ?_
  refine lv_if_lt (tgt := 135) hx hb dL_isCue_124 (by decide) (fun zc1 => ?_) (fun zc1 => ?_)
  · have hf := ite_t hf zc1
    exact w9_isCue_135 C0 hr hz fl I X _ _ _ zx0 zx1 zx2 zx3 zx7 zx8 zx10 zx11 zt0 zt1 zt2 zt3 hw (lv_sub hl [1, 2, 3, 4, 5, 6, 7, 8] rfl) hf
  · have hf := ite_f hf zc1
    refine lv_iload hx hb dL_isCue_127 (lv_at hl 5 rfl) ?_
    refine lv_sipush (v := (999 : Int32)) hx hb dL_isCue_129 (by decide) ?_
    refine lv_icmp_le (tgt := 140) hx hb dL_isCue_132 (by decide) (fun zc2 => ?_) (fun zc2 => ?_)
    · have hf := ite_t hf zc2
      refine lv_iload hx hb dL_isCue_140 (lv_at hl 0 rfl) ?_
      refine lv_if_eq (tgt := 149) hx hb dL_isCue_142 (by decide) (fun zc3 => ?_) (fun zc3 => ?_)
      · have hf := ite_t hf zc3
        refine lv_iload hx hb dL_isCue_149 (lv_at hl 5 rfl) ?_
        refine lv_aload_n hx hb dL_isCue_151 rfl (lv_at hl 2 rfl) ?_
        refine lv_iconst (v := (4 : Int32)) hx hb dL_isCue_152 (by decide) ?_
        obtain ⟨zhb4, hf⟩ := ck_some hf
        refine x_iald C0 hw zt1 zhb4 dL_isCue_153 ?_
        refine lv_icmp_ge (tgt := 162) hx hb dL_isCue_154 (by decide) (fun zc5 => ?_) (fun zc5 => ?_)
        · have hf := ite_t hf zc5
          refine lv_aload_n hx hb dL_isCue_162 rfl (lv_at hl 2 rfl) ?_
          refine lv_iconst (v := (5 : Int32)) hx hb dL_isCue_163 (by decide) ?_
          obtain ⟨zhb6, hf⟩ := ck_some hf
          refine x_iald C0 hw zt1 zhb6 dL_isCue_164 ?_
          refine lv_bipush (v := (24 : Int32)) hx hb dL_isCue_165 (by decide) ?_
          refine lv_icmp_ne (tgt := 175) hx hb dL_isCue_167 (by decide) (fun zc7 => ?_) (fun zc7 => ?_)
          · have hf := ite_f hf zc7
            refine lv_aload_n hx hb dL_isCue_175 rfl (lv_at hl 2 rfl) ?_
            refine lv_aload_n hx hb dL_isCue_176 rfl (lv_at hl 3 rfl) ?_
            refine lv_iload hx hb dL_isCue_177 (lv_at hl 5 rfl) ?_
            obtain ⟨zv8, ze9, hf⟩ := nn_some hf
            refine x_ci (r := zv8) (I1 := I) (X1 := X) (x_runS (As := [.ref zx1, .ref zx2, .int zx7]) (rest := []) C0 (c9_rankFor l E G fl X I zx1 zx2 zx7 zt1 zt2 ze9) hw wd87 wd453 wd454 wd422 ⟨rfl, rfl⟩ hy9_rankFor ⟨Nat.le_of_ble_eq_true rfl, Nat.le_of_ble_eq_true rfl⟩ rfl hl.1 (Nat.le_of_ble_eq_true rfl) ⟨Nat.zero_le _, Nat.zero_le _⟩ dL_isCue_179) hw (fun H locs hw => ?_)
            exact w9_isCue_182 C0 hr hz fl I X _ _ _ zx0 zx1 zx2 zx3 zx7 zx8 zx10 zx11 zv8 zt0 zt1 zt2 zt3 hw (lv_sub hl [1, 2, 3, 4, 5, 6, 7, 8] rfl) hf
          · have hf := ite_t hf zc7
            refine lv_bipush (v := (-4 : Int32)) hx hb dL_isCue_170 (by decide) ?_
            refine lv_goto (tgt := 182) hx hb dL_isCue_172 (by decide) ?_
            exact w9_isCue_182 C0 hr hz fl I X _ _ _ zx0 zx1 zx2 zx3 zx7 zx8 zx10 zx11 (-4 : Int32) zt0 zt1 zt2 zt3 hw (lv_sub hl [1, 2, 3, 4, 5, 6, 7, 8] rfl) hf
        · have hf := ite_f hf zc5
          refine lv_bipush (v := (-5 : Int32)) hx hb dL_isCue_157 (by decide) ?_
          refine lv_goto (tgt := 182) hx hb dL_isCue_159 (by decide) ?_
          exact w9_isCue_182 C0 hr hz fl I X _ _ _ zx0 zx1 zx2 zx3 zx7 zx8 zx10 zx11 (-5 : Int32) zt0 zt1 zt2 zt3 hw (lv_sub hl [1, 2, 3, 4, 5, 6, 7, 8] rfl) hf
      · have hf := ite_f hf zc3
        refine lv_iconst (v := (-1 : Int32)) hx hb dL_isCue_145 (by decide) ?_
        refine lv_goto (tgt := 182) hx hb dL_isCue_146 (by decide) ?_
        exact w9_isCue_182 C0 hr hz fl I X _ _ _ zx0 zx1 zx2 zx3 zx7 zx8 zx10 zx11 (-1 : Int32) zt0 zt1 zt2 zt3 hw (lv_sub hl [1, 2, 3, 4, 5, 6, 7, 8] rfl) hf
    · have hf := ite_f hf zc2
      exact w9_isCue_135 C0 hr hz fl I X _ _ _ zx0 zx1 zx2 zx3 zx7 zx8 zx10 zx11 zt0 zt1 zt2 zt3 hw (lv_sub hl [1, 2, 3, 4, 5, 6, 7, 8] rfl) hf
noncomputable def m9_isCue_119 (fl : Nat) (len : Nat → Nat) (I : Im) (X : Xm) (zx0 : Nat) (zx1 : Nat) (zx2 : Nat) (zx3 : Nat) (zx7 : Int32) (zx8 : Int32) (zx10 : Int32) (zx11 : Int32) : Option (Int32 × Im × Xm) :=
  m9_isCue_120 fl len I X zx0 zx1 zx2 zx3 zx7 zx8 zx10 zx11 (0 : Int32)
set_option maxHeartbeats 4000000 in
set_option maxRecDepth 100000 in
theorem w9_isCue_119 {p : Program} {l : Launch} {e : Env} {s : State} {m : MethodId} {args : Array Value} {below : List Frame} {meth : Method} {c : Code} {E : EN} {G : GM} (C0 : CX p s m args meth c E cL_isCue RL 14) (hr : meth.sig.returnType = (some .boolean)) (hz : s.heap.size + 0 ≤ eB E + G.1) {rr : Int32 × Im × Xm} (fl : Nat) : ∀ (I : Im) (X : Xm) (H : Heap) (locs : List Loc) (ls : Array Slot) (zx0 : Nat) (zx1 : Nat) (zx2 : Nat) (zx3 : Nat) (zx7 : Int32) (zx8 : Int32) (zx10 : Int32) (zx11 : Int32) (zt0 : okA E G 8 zx0) (zt1 : okA E G 11 zx1) (zt2 : okA E G 11 zx2) (zt3 : okA E G 11 zx3), WD E G I X s.heap H locs → lv_has ls 14 [(0, .ref zx0), (1, .ref zx1), (2, .ref zx2), (3, .ref zx3), (7, .int zx7), (8, .int zx8), (10, .int zx10), (11, .int zx11)] → m9_isCue_119 fl G.2.2 I X zx0 zx1 zx2 zx3 zx7 zx8 zx10 zx11 = some rr → W p l e ({ frames := 5, cells := 0, slots := 0, locals := 116 } : Room) s m args below meth c H locs 0 0 (MQ below (QI E G rr.1 rr.2.1 rr.2.2) args s 0 0 (eA E)) (F0 m 119 ls []) := by
  intro I X H locs ls zx0 zx1 zx2 zx3 zx7 zx8 zx10 zx11 zt0 zt1 zt2 zt3 hw hl hf
  unfold m9_isCue_119 at hf
  have hx := C0.1; have hb := C0.2.1; have hml := C0.2.2.1; have hown := C0.2.2.2.1; have hts := C0.2.2.2.2.1
  refine lv_iconst (v := (0 : Int32)) hx hb dL_isCue_119 (by decide) ?_
  exact w9_isCue_120 C0 hr hz fl I X _ _ _ zx0 zx1 zx2 zx3 zx7 zx8 zx10 zx11 (0 : Int32) zt0 zt1 zt2 zt3 hw (lv_sub hl [0, 1, 2, 3, 4, 5, 6, 7] rfl) hf
noncomputable def m9_isCue_94 (fl : Nat) (len : Nat → Nat) (I : Im) (X : Xm) (zx0 : Nat) (zx1 : Nat) (zx2 : Nat) (zx3 : Nat) (zx4 : Nat) (zx7 : Int32) (zx8 : Int32) (zx10 : Int32) (zs0 : Int32) : Option (Int32 × Im × Xm) :=
  if zx10 = 0 then
    ck (inb (((4 : Int32) * zx8) + (3 : Int32)) (len zx4) = true) <|
    if zs0 < (gA I zx4 ((((4 : Int32) * zx8) + (3 : Int32))).toNatClampNeg) then
      m9_isCue_119 fl len I X zx0 zx1 zx2 zx3 zx7 zx8 zx10 zs0
    else
      m9_isCue_120 fl len I X zx0 zx1 zx2 zx3 zx7 zx8 zx10 zs0 (1 : Int32)
  else
    m9_isCue_119 fl len I X zx0 zx1 zx2 zx3 zx7 zx8 zx10 zs0
set_option maxHeartbeats 4000000 in
set_option maxRecDepth 100000 in
theorem w9_isCue_94 {p : Program} {l : Launch} {e : Env} {s : State} {m : MethodId} {args : Array Value} {below : List Frame} {meth : Method} {c : Code} {E : EN} {G : GM} (C0 : CX p s m args meth c E cL_isCue RL 14) (hr : meth.sig.returnType = (some .boolean)) (hz : s.heap.size + 0 ≤ eB E + G.1) {rr : Int32 × Im × Xm} (fl : Nat) : ∀ (I : Im) (X : Xm) (H : Heap) (locs : List Loc) (ls : Array Slot) (zx0 : Nat) (zx1 : Nat) (zx2 : Nat) (zx3 : Nat) (zx4 : Nat) (zx7 : Int32) (zx8 : Int32) (zx10 : Int32) (zs0 : Int32) (zt0 : okA E G 8 zx0) (zt1 : okA E G 11 zx1) (zt2 : okA E G 11 zx2) (zt3 : okA E G 11 zx3) (zt4 : okA E G 11 zx4), WD E G I X s.heap H locs → lv_has ls 14 [(0, .ref zx0), (1, .ref zx1), (2, .ref zx2), (3, .ref zx3), (4, .ref zx4), (7, .int zx7), (8, .int zx8), (10, .int zx10)] → m9_isCue_94 fl G.2.2 I X zx0 zx1 zx2 zx3 zx4 zx7 zx8 zx10 zs0 = some rr → W p l e ({ frames := 5, cells := 0, slots := 0, locals := 116 } : Room) s m args below meth c H locs 0 0 (MQ below (QI E G rr.1 rr.2.1 rr.2.2) args s 0 0 (eA E)) (F0 m 94 ls [.int zs0]) := by
  intro I X H locs ls zx0 zx1 zx2 zx3 zx4 zx7 zx8 zx10 zs0 zt0 zt1 zt2 zt3 zt4 hw hl hf
  unfold m9_isCue_94 at hf
  have hx := C0.1; have hb := C0.2.1; have hml := C0.2.2.1; have hown := C0.2.2.2.1; have hts := C0.2.2.2.2.1
  refine lv_istore (lv' := [(11, .int zs0), (0, .ref zx0), (1, .ref zx1), (2, .ref zx2), (3, .ref zx3), (4, .ref zx4), (7, .int zx7), (8, .int zx8), (10, .int zx10)]) hx hb dL_isCue_94 hl (by decide) rfl (fun ls hl => ?_)
  refine lv_iload hx hb dL_isCue_96 (lv_at hl 8 rfl) ?_
  refine lv_if_ne (tgt := 119) hx hb dL_isCue_98 (by decide) (fun zc1 => ?_) (fun zc1 => ?_)
  · have hf := ite_f hf zc1
    exact w9_isCue_119 C0 hr hz fl I X _ _ _ zx0 zx1 zx2 zx3 zx7 zx8 zx10 zs0 zt0 zt1 zt2 zt3 hw (lv_sub hl [1, 2, 3, 4, 6, 7, 8, 0] rfl) hf
  · have hf := ite_t hf zc1
    refine lv_iload hx hb dL_isCue_101 (lv_at hl 0 rfl) ?_
    refine lv_aload hx hb dL_isCue_103 (lv_at hl 5 rfl) ?_
    refine lv_iconst (v := (4 : Int32)) hx hb dL_isCue_105 (by decide) ?_
    refine lv_iload hx hb dL_isCue_106 (lv_at hl 7 rfl) ?_
    refine lv_imul hx hb dL_isCue_108 ?_
    refine lv_iconst (v := (3 : Int32)) hx hb dL_isCue_109 (by decide) ?_
    refine lv_iadd hx hb dL_isCue_110 ?_
    obtain ⟨zhb2, hf⟩ := ck_some hf
    refine x_iald C0 hw zt4 zhb2 dL_isCue_111 ?_
    refine lv_icmp_lt (tgt := 119) hx hb dL_isCue_112 (by decide) (fun zc3 => ?_) (fun zc3 => ?_)
    · have hf := ite_t hf zc3
      exact w9_isCue_119 C0 hr hz fl I X _ _ _ zx0 zx1 zx2 zx3 zx7 zx8 zx10 zs0 zt0 zt1 zt2 zt3 hw (lv_sub hl [1, 2, 3, 4, 6, 7, 8, 0] rfl) hf
    · have hf := ite_f hf zc3
      refine lv_iconst (v := (1 : Int32)) hx hb dL_isCue_115 (by decide) ?_
      refine lv_goto (tgt := 120) hx hb dL_isCue_116 (by decide) ?_
      exact w9_isCue_120 C0 hr hz fl I X _ _ _ zx0 zx1 zx2 zx3 zx7 zx8 zx10 zs0 (1 : Int32) zt0 zt1 zt2 zt3 hw (lv_sub hl [1, 2, 3, 4, 6, 7, 8, 0] rfl) hf
noncomputable def m9_isCue_59 (fl : Nat) (len : Nat → Nat) (I : Im) (X : Xm) (zx0 : Nat) (zx1 : Nat) (zx2 : Nat) (zx3 : Nat) (zx4 : Nat) (zx7 : Int32) (zx8 : Int32) (zx9 : Int32) (zs0 : Int32) : Option (Int32 × Im × Xm) :=
  if zs0 = 0 then
    m9_isCue_94 fl len I X zx0 zx1 zx2 zx3 zx4 zx7 zx8 zs0 (zx9 - zx9 / (3 : Int32) * (3 : Int32))
  else
    if zs0 = (1 : Int32) then
      m9_isCue_94 fl len I X zx0 zx1 zx2 zx3 zx4 zx7 zx8 zs0 ((1 : Int32) + (zx9 - zx9 / (99 : Int32) * (99 : Int32)))
    else
      m9_isCue_94 fl len I X zx0 zx1 zx2 zx3 zx4 zx7 zx8 zs0 (zx9 - zx9 / (101 : Int32) * (101 : Int32))
set_option maxHeartbeats 4000000 in
set_option maxRecDepth 100000 in
theorem w9_isCue_59 {p : Program} {l : Launch} {e : Env} {s : State} {m : MethodId} {args : Array Value} {below : List Frame} {meth : Method} {c : Code} {E : EN} {G : GM} (C0 : CX p s m args meth c E cL_isCue RL 14) (hr : meth.sig.returnType = (some .boolean)) (hz : s.heap.size + 0 ≤ eB E + G.1) {rr : Int32 × Im × Xm} (fl : Nat) : ∀ (I : Im) (X : Xm) (H : Heap) (locs : List Loc) (ls : Array Slot) (zx0 : Nat) (zx1 : Nat) (zx2 : Nat) (zx3 : Nat) (zx4 : Nat) (zx7 : Int32) (zx8 : Int32) (zx9 : Int32) (zs0 : Int32) (zt0 : okA E G 8 zx0) (zt1 : okA E G 11 zx1) (zt2 : okA E G 11 zx2) (zt3 : okA E G 11 zx3) (zt4 : okA E G 11 zx4), WD E G I X s.heap H locs → lv_has ls 14 [(0, .ref zx0), (1, .ref zx1), (2, .ref zx2), (3, .ref zx3), (4, .ref zx4), (7, .int zx7), (8, .int zx8), (9, .int zx9)] → m9_isCue_59 fl G.2.2 I X zx0 zx1 zx2 zx3 zx4 zx7 zx8 zx9 zs0 = some rr → W p l e ({ frames := 5, cells := 0, slots := 0, locals := 116 } : Room) s m args below meth c H locs 0 0 (MQ below (QI E G rr.1 rr.2.1 rr.2.2) args s 0 0 (eA E)) (F0 m 59 ls [.int zs0]) := by
  intro I X H locs ls zx0 zx1 zx2 zx3 zx4 zx7 zx8 zx9 zs0 zt0 zt1 zt2 zt3 zt4 hw hl hf
  unfold m9_isCue_59 at hf
  have hx := C0.1; have hb := C0.2.1; have hml := C0.2.2.1; have hown := C0.2.2.2.1; have hts := C0.2.2.2.2.1
  refine lv_istore (lv' := [(10, .int zs0), (0, .ref zx0), (1, .ref zx1), (2, .ref zx2), (3, .ref zx3), (4, .ref zx4), (7, .int zx7), (8, .int zx8), (9, .int zx9)]) hx hb dL_isCue_59 hl (by decide) rfl (fun ls hl => ?_)
  refine lv_iload hx hb dL_isCue_61 (lv_at hl 0 rfl) ?_
  refine lv_if_ne (tgt := 73) hx hb dL_isCue_63 (by decide) (fun zc1 => ?_) (fun zc1 => ?_)
  · have hf := ite_f hf zc1
    refine lv_iload hx hb dL_isCue_73 (lv_at hl 0 rfl) ?_
    refine lv_iconst (v := (1 : Int32)) hx hb dL_isCue_75 (by decide) ?_
    refine lv_icmp_ne (tgt := 89) hx hb dL_isCue_76 (by decide) (fun zc2 => ?_) (fun zc2 => ?_)
    · have hf := ite_f hf zc2
      refine lv_iload hx hb dL_isCue_89 (lv_at hl 8 rfl) ?_
      refine lv_bipush (v := (101 : Int32)) hx hb dL_isCue_91 (by decide) ?_
      refine lv_irem hx hb dL_isCue_93 (by decide) ?_
      exact w9_isCue_94 C0 hr hz fl I X _ _ _ zx0 zx1 zx2 zx3 zx4 zx7 zx8 zs0 (zx9 - zx9 / (101 : Int32) * (101 : Int32)) zt0 zt1 zt2 zt3 zt4 hw (lv_sub hl [1, 2, 3, 4, 5, 6, 7, 0] rfl) hf
    · have hf := ite_t hf zc2
      refine lv_iconst (v := (1 : Int32)) hx hb dL_isCue_79 (by decide) ?_
      refine lv_iload hx hb dL_isCue_80 (lv_at hl 8 rfl) ?_
      refine lv_bipush (v := (99 : Int32)) hx hb dL_isCue_82 (by decide) ?_
      refine lv_irem hx hb dL_isCue_84 (by decide) ?_
      refine lv_iadd hx hb dL_isCue_85 ?_
      refine lv_goto (tgt := 94) hx hb dL_isCue_86 (by decide) ?_
      exact w9_isCue_94 C0 hr hz fl I X _ _ _ zx0 zx1 zx2 zx3 zx4 zx7 zx8 zs0 ((1 : Int32) + (zx9 - zx9 / (99 : Int32) * (99 : Int32))) zt0 zt1 zt2 zt3 zt4 hw (lv_sub hl [1, 2, 3, 4, 5, 6, 7, 0] rfl) hf
  · have hf := ite_t hf zc1
    refine lv_iload hx hb dL_isCue_66 (lv_at hl 8 rfl) ?_
    refine lv_iconst (v := (3 : Int32)) hx hb dL_isCue_68 (by decide) ?_
    refine lv_irem hx hb dL_isCue_69 (by decide) ?_
    refine lv_goto (tgt := 94) hx hb dL_isCue_70 (by decide) ?_
    exact w9_isCue_94 C0 hr hz fl I X _ _ _ zx0 zx1 zx2 zx3 zx4 zx7 zx8 zs0 (zx9 - zx9 / (3 : Int32) * (3 : Int32)) zt0 zt1 zt2 zt3 zt4 hw (lv_sub hl [1, 2, 3, 4, 5, 6, 7, 0] rfl) hf
noncomputable def m9_isCue (fl : Nat) (len : Nat → Nat) (X : Xm) (I : Im) (zx0 : Nat) (zx1 : Nat) (zx2 : Nat) (zx3 : Nat) (zx4 : Nat) (zx5 : Int32) (zx6 : Int32) : Option (Int32 × Im × Xm) :=
  ck (inb (4 : Int32) (len zx1) = true) <|
  lt ((((gA I zx1 ((4 : Int32)).toNatClampNeg) + (zx6 - zx6 / (30 : Int32) * (30 : Int32))) - (2 : Int32))) fun zv2 =>
  lt (((zx6 / (30 : Int32)) - (zx6 / (30 : Int32)) / (4 : Int32) * (4 : Int32))) fun zv3 =>
  lt ((zx6 / (120 : Int32))) fun zv4 =>
  if (12 : Int32) ≤ zx5 then
    ck (inb (5 : Int32) (len zx1) = true) <|
    if (gA I zx1 ((5 : Int32)).toNatClampNeg) = 0 then
      m9_isCue_251 fl len I X zx0 zx1 zx2 zx3 zx5 zv2 (0 : Int32)
    else
      ck (¬ (gA I zx1 ((5 : Int32)).toNatClampNeg) = 0) <|
      m9_isCue_251 fl len I X zx0 zx1 zx2 zx3 zx5 zv2 (zv4 - zv4 / (gA I zx1 ((5 : Int32)).toNatClampNeg) * (gA I zx1 ((5 : Int32)).toNatClampNeg))
  else
    if (7 : Int32) ≤ zx5 then
      if (10 : Int32) ≤ zx5 then
        m9_isCue_59 fl len I X zx0 zx1 zx2 zx3 zx4 zv2 zv3 zv4 (2 : Int32)
      else
        m9_isCue_59 fl len I X zx0 zx1 zx2 zx3 zx4 zv2 zv3 zv4 (1 : Int32)
    else
      m9_isCue_59 fl len I X zx0 zx1 zx2 zx3 zx4 zv2 zv3 zv4 (0 : Int32)
theorem hy9_isCue : yL_isCue.cls = RL ∧ yL_isCue.cls ≠ "java/lang/invoke/MethodHandle" ∧ yL_isCue.cls ≠ "java/lang/invoke/VarHandle" ∧ (parseMethodDescriptor yL_isCue.desc).map (fun d => d.parameters.length) = some 7 := ⟨rfl, by decide +kernel, by decide +kernel, by decide +kernel⟩
set_option maxHeartbeats 4000000 in
set_option maxRecDepth 100000 in
theorem c9_isCue (l : Launch) (E : EN) (G : GM) (fl : Nat) (X : Xm) (I : Im) (zx0 : Nat) (zx1 : Nat) (zx2 : Nat) (zx3 : Nat) (zx4 : Nat) (zx5 : Int32) (zx6 : Int32) (zt0 : okA E G 8 zx0) (zt1 : okA E G 11 zx1) (zt2 : okA E G 11 zx2) (zt3 : okA E G 11 zx3) (zt4 : okA E G 11 zx4) {rr : Int32 × Im × Xm} (hf : m9_isCue fl G.2.2 X I zx0 zx1 zx2 zx3 zx4 zx5 zx6 = some rr) : MT l yL_isCue cL_isCue 14 (some .boolean) ({ frames := 5, cells := 0, slots := 0, locals := 116 } : Room) E G I X [.ref zx0, .ref zx1, .ref zx2, .ref zx3, .ref zx4, .int zx5, .int zx6] (QI E G rr.1 rr.2.1 rr.2.2) 0 0 := by
  refine Met.ofW (cc := cL_isCue) (maxL := 14) (ret := (some .boolean)) (by decide +kernel) rfl ?_
  intro p e s m args below meth c s₁ B hml hv
  obtain ⟨rfl, hw0, hSE⟩ := hv
  have C0 : CX p s m ([.ref zx0, .ref zx1, .ref zx2, .ref zx3, .ref zx4, .int zx5, .int zx6] : List Value).toArray meth c E cL_isCue RL 14 := ⟨B.exec, B.bytes, hml, findClass_of_methodNamed B.named, fun w hw => atoms_spec (ws := WS yL_isCue cL_isCue 14 (some .boolean)) B.pre w (List.mem_cons_of_mem _ hw), B.notSynchronized, hSE⟩
  have hz : s.heap.size + 0 ≤ eB E + G.1 := Nat.le_of_eq hw0.2.1
  have hw : WD E G I X s.heap s.heap [] := ⟨hw0, va_S.rf⟩
  have hr := B.returns
  have hx := C0.1; have hb := C0.2.1; have hml := C0.2.2.1; have hown := C0.2.2.2.1; have hts := C0.2.2.2.2.1
  have hl := lv_entry ([.ref zx0, .ref zx1, .ref zx2, .ref zx3, .ref zx4, .int zx5, .int zx6]) (n := 14) (Nat.le_of_ble_eq_true rfl)
  rw [lg_entry_eq]
  generalize (lg_sl ([.ref zx0, .ref zx1, .ref zx2, .ref zx3, .ref zx4, .int zx5, .int zx6]) ++ List.replicate (14 - (lg_sl ([.ref zx0, .ref zx1, .ref zx2, .ref zx3, .ref zx4, .int zx5, .int zx6])).length) Slot.unset).toArray = ls at hl ⊢
  have hl : lv_has ls 14 [(0, .ref zx0), (1, .ref zx1), (2, .ref zx2), (3, .ref zx3), (4, .ref zx4), (5, .int zx5), (6, .int zx6)] := hl
  unfold m9_isCue at hf
  refine lv_aload_n hx hb dL_isCue_0 rfl (lv_at hl 1 rfl) ?_
  refine lv_iconst (v := (4 : Int32)) hx hb dL_isCue_1 (by decide) ?_
  obtain ⟨zhb1, hf⟩ := ck_some hf
  refine x_iald C0 hw zt1 zhb1 dL_isCue_2 ?_
  refine lv_iload hx hb dL_isCue_3 (lv_at hl 6 rfl) ?_
  refine lv_bipush (v := (30 : Int32)) hx hb dL_isCue_5 (by decide) ?_
  refine lv_irem hx hb dL_isCue_7 (by decide) ?_
  refine lv_iadd hx hb dL_isCue_8 ?_
  refine lv_iconst (v := (2 : Int32)) hx hb dL_isCue_9 (by decide) ?_
  refine lv_isub hx hb dL_isCue_10 ?_
  refine lv_topi (fun zv2 ezv2 => ?_)
  have hf := lt_at hf ezv2
  refine lv_istore (lv' := [(7, .int zv2), (0, .ref zx0), (1, .ref zx1), (2, .ref zx2), (3, .ref zx3), (4, .ref zx4), (5, .int zx5), (6, .int zx6)]) hx hb dL_isCue_11 hl (by decide) rfl (fun ls hl => ?_)
  refine lv_iload hx hb dL_isCue_13 (lv_at hl 7 rfl) ?_
  refine lv_bipush (v := (30 : Int32)) hx hb dL_isCue_15 (by decide) ?_
  refine lv_idiv hx hb dL_isCue_17 (by decide) ?_
  refine lv_iconst (v := (4 : Int32)) hx hb dL_isCue_18 (by decide) ?_
  refine lv_irem hx hb dL_isCue_19 (by decide) ?_
  refine lv_topi (fun zv3 ezv3 => ?_)
  have hf := lt_at hf ezv3
  refine lv_istore (lv' := [(8, .int zv3), (7, .int zv2), (0, .ref zx0), (1, .ref zx1), (2, .ref zx2), (3, .ref zx3), (4, .ref zx4), (5, .int zx5), (6, .int zx6)]) hx hb dL_isCue_20 hl (by decide) rfl (fun ls hl => ?_)
  refine lv_iload hx hb dL_isCue_22 (lv_at hl 8 rfl) ?_
  refine lv_bipush (v := (120 : Int32)) hx hb dL_isCue_24 (by decide) ?_
  refine lv_idiv hx hb dL_isCue_26 (by decide) ?_
  refine lv_topi (fun zv4 ezv4 => ?_)
  have hf := lt_at hf ezv4
  refine lv_istore (lv' := [(9, .int zv4), (8, .int zv3), (7, .int zv2), (0, .ref zx0), (1, .ref zx1), (2, .ref zx2), (3, .ref zx3), (4, .ref zx4), (5, .int zx5), (6, .int zx6)]) hx hb dL_isCue_27 hl (by decide) rfl (fun ls hl => ?_)
  refine lv_iload hx hb dL_isCue_29 (lv_at hl 8 rfl) ?_
  refine lv_bipush (v := (12 : Int32)) hx hb dL_isCue_31 (by decide) ?_
  refine lv_icmp_ge (tgt := 235) hx hb dL_isCue_33 (by decide) (fun zc5 => ?_) (fun zc5 => ?_)
  · have hf := ite_t hf zc5
    refine lv_aload_n hx hb dL_isCue_235 rfl (lv_at hl 4 rfl) ?_
    refine lv_iconst (v := (5 : Int32)) hx hb dL_isCue_236 (by decide) ?_
    obtain ⟨zhb6, hf⟩ := ck_some hf
    refine x_iald C0 hw zt1 zhb6 dL_isCue_237 ?_
    refine lv_if_ne (tgt := 245) hx hb dL_isCue_238 (by decide) (fun zc7 => ?_) (fun zc7 => ?_)
    · have hf := ite_f hf zc7
      refine lv_iload hx hb dL_isCue_245 (lv_at hl 0 rfl) ?_
      refine lv_aload_n hx hb dL_isCue_247 rfl (lv_at hl 4 rfl) ?_
      refine lv_iconst (v := (5 : Int32)) hx hb dL_isCue_248 (by decide) ?_
      refine x_iald C0 hw zt1 zhb6 dL_isCue_249 ?_
      obtain ⟨zhd8, hf⟩ := ck_some hf
      refine lv_irem hx hb dL_isCue_250 zhd8 ?_
      exact w9_isCue_251 C0 hr hz fl I X _ _ _ zx0 zx1 zx2 zx3 zx5 zv2 (zv4 - zv4 / (gA I zx1 ((5 : Int32)).toNatClampNeg) * (gA I zx1 ((5 : Int32)).toNatClampNeg)) zt0 zt1 zt2 zt3 hw (lv_sub hl [3, 4, 5, 6, 8, 2] rfl) hf
    · have hf := ite_t hf zc7
      refine lv_iconst (v := (0 : Int32)) hx hb dL_isCue_241 (by decide) ?_
      refine lv_goto (tgt := 251) hx hb dL_isCue_242 (by decide) ?_
      exact w9_isCue_251 C0 hr hz fl I X _ _ _ zx0 zx1 zx2 zx3 zx5 zv2 (0 : Int32) zt0 zt1 zt2 zt3 hw (lv_sub hl [3, 4, 5, 6, 8, 2] rfl) hf
  · have hf := ite_f hf zc5
    refine lv_iload hx hb dL_isCue_36 (lv_at hl 8 rfl) ?_
    refine lv_bipush (v := (7 : Int32)) hx hb dL_isCue_38 (by decide) ?_
    refine lv_icmp_ge (tgt := 47) hx hb dL_isCue_40 (by decide) (fun zc9 => ?_) (fun zc9 => ?_)
    · have hf := ite_t hf zc9
      refine lv_iload hx hb dL_isCue_47 (lv_at hl 8 rfl) ?_
      refine lv_bipush (v := (10 : Int32)) hx hb dL_isCue_49 (by decide) ?_
      refine lv_icmp_ge (tgt := 58) hx hb dL_isCue_51 (by decide) (fun zc10 => ?_) (fun zc10 => ?_)
      · have hf := ite_t hf zc10
        refine lv_iconst (v := (2 : Int32)) hx hb dL_isCue_58 (by decide) ?_
        exact w9_isCue_59 C0 hr hz fl I X _ _ _ zx0 zx1 zx2 zx3 zx4 zv2 zv3 zv4 (2 : Int32) zt0 zt1 zt2 zt3 zt4 hw (lv_sub hl [3, 4, 5, 6, 7, 2, 1, 0] rfl) hf
      · have hf := ite_f hf zc10
        refine lv_iconst (v := (1 : Int32)) hx hb dL_isCue_54 (by decide) ?_
        refine lv_goto (tgt := 59) hx hb dL_isCue_55 (by decide) ?_
        exact w9_isCue_59 C0 hr hz fl I X _ _ _ zx0 zx1 zx2 zx3 zx4 zv2 zv3 zv4 (1 : Int32) zt0 zt1 zt2 zt3 zt4 hw (lv_sub hl [3, 4, 5, 6, 7, 2, 1, 0] rfl) hf
    · have hf := ite_f hf zc9
      refine lv_iconst (v := (0 : Int32)) hx hb dL_isCue_43 (by decide) ?_
      refine lv_goto (tgt := 59) hx hb dL_isCue_44 (by decide) ?_
      exact w9_isCue_59 C0 hr hz fl I X _ _ _ zx0 zx1 zx2 zx3 zx4 zv2 zv3 zv4 (0 : Int32) zt0 zt1 zt2 zt3 zt4 hw (lv_sub hl [3, 4, 5, 6, 7, 2, 1, 0] rfl) hf
noncomputable def m9_isSet_259 (fl : Nat) (len : Nat → Nat) (I : Im) (X : Xm) (zs0 : Int32) : Option (Int32 × Im × Xm) :=
  ck (isbl zs0 = true) <|
  some (zs0, I, X)
set_option maxHeartbeats 4000000 in
set_option maxRecDepth 100000 in
theorem w9_isSet_259 {p : Program} {l : Launch} {e : Env} {s : State} {m : MethodId} {args : Array Value} {below : List Frame} {meth : Method} {c : Code} {E : EN} {G : GM} (C0 : CX p s m args meth c E cL_isSet RL 12) (hr : meth.sig.returnType = (some .boolean)) (hz : s.heap.size + 0 ≤ eB E + G.1) {rr : Int32 × Im × Xm} (fl : Nat) : ∀ (I : Im) (X : Xm) (H : Heap) (locs : List Loc) (ls : Array Slot) (zs0 : Int32) , WD E G I X s.heap H locs → lv_has ls 12 [] → m9_isSet_259 fl G.2.2 I X zs0 = some rr → W p l e ({ frames := 5, cells := 0, slots := 0, locals := 113 } : Room) s m args below meth c H locs 0 0 (MQ below (QI E G rr.1 rr.2.1 rr.2.2) args s 0 0 (eA E)) (F0 m 259 ls [.int zs0]) := by
  intro I X H locs ls zs0 hw hl hf
  unfold m9_isSet_259 at hf
  have hx := C0.1; have hb := C0.2.1; have hml := C0.2.2.1; have hown := C0.2.2.2.1; have hts := C0.2.2.2.2.1
  obtain ⟨zhn1, hf⟩ := ck_some hf
  obtain rfl := Option.some.inj hf
  exact x_zret C0 hr (isbl_nar zhn1) hw dL_isSet_259
noncomputable def m9_isSet_212 (fl : Nat) (len : Nat → Nat) (I : Im) (X : Xm) (zs0 : Int32) : Option (Int32 × Im × Xm) :=
  ck (isbl zs0 = true) <|
  some (zs0, I, X)
set_option maxHeartbeats 4000000 in
set_option maxRecDepth 100000 in
theorem w9_isSet_212 {p : Program} {l : Launch} {e : Env} {s : State} {m : MethodId} {args : Array Value} {below : List Frame} {meth : Method} {c : Code} {E : EN} {G : GM} (C0 : CX p s m args meth c E cL_isSet RL 12) (hr : meth.sig.returnType = (some .boolean)) (hz : s.heap.size + 0 ≤ eB E + G.1) {rr : Int32 × Im × Xm} (fl : Nat) : ∀ (I : Im) (X : Xm) (H : Heap) (locs : List Loc) (ls : Array Slot) (zs0 : Int32) , WD E G I X s.heap H locs → lv_has ls 12 [] → m9_isSet_212 fl G.2.2 I X zs0 = some rr → W p l e ({ frames := 5, cells := 0, slots := 0, locals := 113 } : Room) s m args below meth c H locs 0 0 (MQ below (QI E G rr.1 rr.2.1 rr.2.2) args s 0 0 (eA E)) (F0 m 212 ls [.int zs0]) := by
  intro I X H locs ls zs0 hw hl hf
  unfold m9_isSet_212 at hf
  have hx := C0.1; have hb := C0.2.1; have hml := C0.2.2.1; have hown := C0.2.2.2.1; have hts := C0.2.2.2.2.1
  obtain ⟨zhn1, hf⟩ := ck_some hf
  obtain rfl := Option.some.inj hf
  exact x_zret C0 hr (isbl_nar zhn1) hw dL_isSet_212
noncomputable def m9_isSet_204 (fl : Nat) (len : Nat → Nat) (I : Im) (X : Xm) (zs0 : Int32) (zs1 : Int32) : Option (Int32 × Im × Xm) :=
  if zs0 = zs1 then
    m9_isSet_212 fl len I X (1 : Int32)
  else
    m9_isSet_212 fl len I X (0 : Int32)
set_option maxHeartbeats 4000000 in
set_option maxRecDepth 100000 in
theorem w9_isSet_204 {p : Program} {l : Launch} {e : Env} {s : State} {m : MethodId} {args : Array Value} {below : List Frame} {meth : Method} {c : Code} {E : EN} {G : GM} (C0 : CX p s m args meth c E cL_isSet RL 12) (hr : meth.sig.returnType = (some .boolean)) (hz : s.heap.size + 0 ≤ eB E + G.1) {rr : Int32 × Im × Xm} (fl : Nat) : ∀ (I : Im) (X : Xm) (H : Heap) (locs : List Loc) (ls : Array Slot) (zs0 : Int32) (zs1 : Int32) , WD E G I X s.heap H locs → lv_has ls 12 [] → m9_isSet_204 fl G.2.2 I X zs0 zs1 = some rr → W p l e ({ frames := 5, cells := 0, slots := 0, locals := 113 } : Room) s m args below meth c H locs 0 0 (MQ below (QI E G rr.1 rr.2.1 rr.2.2) args s 0 0 (eA E)) (F0 m 204 ls [.int zs1, .int zs0]) := by
  intro I X H locs ls zs0 zs1 hw hl hf
  unfold m9_isSet_204 at hf
  have hx := C0.1; have hb := C0.2.1; have hml := C0.2.2.1; have hown := C0.2.2.2.1; have hts := C0.2.2.2.2.1
  refine lv_icmp_ne (tgt := 211) hx hb dL_isSet_204 (by decide) (fun zc1 => ?_) (fun zc1 => ?_)
  · have hf := ite_f hf zc1
    refine lv_iconst (v := (0 : Int32)) hx hb dL_isSet_211 (by decide) ?_
    exact w9_isSet_212 C0 hr hz fl I X _ _ _ (0 : Int32) hw (lv_sub hl [] rfl) hf
  · have hf := ite_t hf zc1
    refine lv_iconst (v := (1 : Int32)) hx hb dL_isSet_207 (by decide) ?_
    refine lv_goto (tgt := 212) hx hb dL_isSet_208 (by decide) ?_
    exact w9_isSet_212 C0 hr hz fl I X _ _ _ (1 : Int32) hw (lv_sub hl [] rfl) hf
noncomputable def m9_isSet_180 (fl : Nat) (len : Nat → Nat) (I : Im) (X : Xm) (zx0 : Nat) (zx7 : Int32) (zx9 : Int32) (zx10 : Int32) (zx11 : Int32) : Option (Int32 × Im × Xm) :=
  nn (m8_sound fl len X I zx0 zx7 zx10 zx11) fun ⟨zv1, zI2, zX3⟩ =>
  if (6 : Int32) ≤ zx9 then
    m9_isSet_204 fl len zI2 zX3 zv1 (-4 : Int32)
  else
    m9_isSet_204 fl len zI2 zX3 zv1 zx9
set_option maxHeartbeats 4000000 in
set_option maxRecDepth 100000 in
theorem w9_isSet_180 {p : Program} {l : Launch} {e : Env} {s : State} {m : MethodId} {args : Array Value} {below : List Frame} {meth : Method} {c : Code} {E : EN} {G : GM} (C0 : CX p s m args meth c E cL_isSet RL 12) (hr : meth.sig.returnType = (some .boolean)) (hz : s.heap.size + 0 ≤ eB E + G.1) {rr : Int32 × Im × Xm} (fl : Nat) : ∀ (I : Im) (X : Xm) (H : Heap) (locs : List Loc) (ls : Array Slot) (zx0 : Nat) (zx7 : Int32) (zx9 : Int32) (zx10 : Int32) (zx11 : Int32) (zt0 : okA E G 8 zx0), WD E G I X s.heap H locs → lv_has ls 12 [(0, .ref zx0), (7, .int zx7), (9, .int zx9), (10, .int zx10), (11, .int zx11)] → m9_isSet_180 fl G.2.2 I X zx0 zx7 zx9 zx10 zx11 = some rr → W p l e ({ frames := 5, cells := 0, slots := 0, locals := 113 } : Room) s m args below meth c H locs 0 0 (MQ below (QI E G rr.1 rr.2.1 rr.2.2) args s 0 0 (eA E)) (F0 m 180 ls []) := by
  intro I X H locs ls zx0 zx7 zx9 zx10 zx11 zt0 hw hl hf
  unfold m9_isSet_180 at hf
  have hx := C0.1; have hb := C0.2.1; have hml := C0.2.2.1; have hown := C0.2.2.2.1; have hts := C0.2.2.2.2.1
  refine lv_aload_n hx hb dL_isSet_180 rfl (lv_at hl 0 rfl) ?_
  refine lv_iload hx hb dL_isSet_181 (lv_at hl 1 rfl) ?_
  refine lv_iload hx hb dL_isSet_183 (lv_at hl 3 rfl) ?_
  refine lv_iload hx hb dL_isSet_185 (lv_at hl 4 rfl) ?_
  obtain ⟨⟨zv1, zI2, zX3⟩, ze4, hf⟩ := nn_some hf
  refine x_ci (r := zv1) (I1 := zI2) (X1 := zX3) (x_runV (As := [.int zx7, .int zx10, .int zx11]) (rest := []) C0 (c8_sound l E G fl X I zx0 zx7 zx10 zx11 zt0 ze4) hw 8 zt0 (by decide) rfl wd61 wd471 wd472 wd473 wd107 ⟨rfl, rfl⟩ hy8_sound ⟨Nat.le_of_ble_eq_true rfl, Nat.le_of_ble_eq_true rfl⟩ rfl hl.1 (Nat.le_of_ble_eq_true rfl) ⟨Nat.zero_le _, Nat.zero_le _⟩ dL_isSet_187) hw (fun H locs hw => ?_)
  refine lv_iload hx hb dL_isSet_190 (lv_at hl 2 rfl) ?_
  refine lv_bipush (v := (6 : Int32)) hx hb dL_isSet_192 (by decide) ?_
  refine lv_icmp_ge (tgt := 202) hx hb dL_isSet_194 (by decide) (fun zc5 => ?_) (fun zc5 => ?_)
  · have hf := ite_t hf zc5
    refine lv_bipush (v := (-4 : Int32)) hx hb dL_isSet_202 (by decide) ?_
    exact w9_isSet_204 C0 hr hz fl zI2 zX3 _ _ _ zv1 (-4 : Int32) hw (lv_sub hl [] rfl) hf
  · have hf := ite_f hf zc5
    refine lv_iload hx hb dL_isSet_197 (lv_at hl 2 rfl) ?_
    refine lv_goto (tgt := 204) hx hb dL_isSet_199 (by decide) ?_
    exact w9_isSet_204 C0 hr hz fl zI2 zX3 _ _ _ zv1 zx9 hw (lv_sub hl [] rfl) hf
noncomputable def m9_isSet_105 (fl : Nat) (len : Nat → Nat) (I : Im) (X : Xm) (zs0 : Int32) : Option (Int32 × Im × Xm) :=
  ck (isbl zs0 = true) <|
  some (zs0, I, X)
set_option maxHeartbeats 4000000 in
set_option maxRecDepth 100000 in
theorem w9_isSet_105 {p : Program} {l : Launch} {e : Env} {s : State} {m : MethodId} {args : Array Value} {below : List Frame} {meth : Method} {c : Code} {E : EN} {G : GM} (C0 : CX p s m args meth c E cL_isSet RL 12) (hr : meth.sig.returnType = (some .boolean)) (hz : s.heap.size + 0 ≤ eB E + G.1) {rr : Int32 × Im × Xm} (fl : Nat) : ∀ (I : Im) (X : Xm) (H : Heap) (locs : List Loc) (ls : Array Slot) (zs0 : Int32) , WD E G I X s.heap H locs → lv_has ls 12 [] → m9_isSet_105 fl G.2.2 I X zs0 = some rr → W p l e ({ frames := 5, cells := 0, slots := 0, locals := 113 } : Room) s m args below meth c H locs 0 0 (MQ below (QI E G rr.1 rr.2.1 rr.2.2) args s 0 0 (eA E)) (F0 m 105 ls [.int zs0]) := by
  intro I X H locs ls zs0 hw hl hf
  unfold m9_isSet_105 at hf
  have hx := C0.1; have hb := C0.2.1; have hml := C0.2.2.1; have hown := C0.2.2.2.1; have hts := C0.2.2.2.2.1
  obtain ⟨zhn1, hf⟩ := ck_some hf
  obtain rfl := Option.some.inj hf
  exact x_zret C0 hr (isbl_nar zhn1) hw dL_isSet_105
noncomputable def m9_isSet_73 (fl : Nat) (len : Nat → Nat) (I : Im) (X : Xm) (zx0 : Nat) (zx1 : Nat) (zx7 : Int32) (zs0 : Int32) : Option (Int32 × Im × Xm) :=
  ck (inb zx7 (len zx1) = true) <|
  lt ((gA I zx1 (zx7).toNatClampNeg)) fun zv2 =>
  lt (pA I zx1 (zx7).toNatClampNeg zs0) fun zI3 =>
  nn (m8_set fl len X zI3 zx0 zx7 zs0) fun ⟨zv4, zI5, zX6⟩ =>
  if zv4 = zv2 then
    m9_isSet_105 fl len zI5 zX6 (1 : Int32)
  else
    m9_isSet_105 fl len zI5 zX6 (0 : Int32)
set_option maxHeartbeats 4000000 in
set_option maxRecDepth 100000 in
theorem w9_isSet_73 {p : Program} {l : Launch} {e : Env} {s : State} {m : MethodId} {args : Array Value} {below : List Frame} {meth : Method} {c : Code} {E : EN} {G : GM} (C0 : CX p s m args meth c E cL_isSet RL 12) (hr : meth.sig.returnType = (some .boolean)) (hz : s.heap.size + 0 ≤ eB E + G.1) {rr : Int32 × Im × Xm} (fl : Nat) : ∀ (I : Im) (X : Xm) (H : Heap) (locs : List Loc) (ls : Array Slot) (zx0 : Nat) (zx1 : Nat) (zx7 : Int32) (zs0 : Int32) (zt0 : okA E G 8 zx0) (zt1 : okA E G 11 zx1), WD E G I X s.heap H locs → lv_has ls 12 [(0, .ref zx0), (1, .ref zx1), (7, .int zx7)] → m9_isSet_73 fl G.2.2 I X zx0 zx1 zx7 zs0 = some rr → W p l e ({ frames := 5, cells := 0, slots := 0, locals := 113 } : Room) s m args below meth c H locs 0 0 (MQ below (QI E G rr.1 rr.2.1 rr.2.2) args s 0 0 (eA E)) (F0 m 73 ls [.int zs0]) := by
  intro I X H locs ls zx0 zx1 zx7 zs0 zt0 zt1 hw hl hf
  unfold m9_isSet_73 at hf
  have hx := C0.1; have hb := C0.2.1; have hml := C0.2.2.1; have hown := C0.2.2.2.1; have hts := C0.2.2.2.2.1
  refine lv_istore (lv' := [(9, .int zs0), (0, .ref zx0), (1, .ref zx1), (7, .int zx7)]) hx hb dL_isSet_73 hl (by decide) rfl (fun ls hl => ?_)
  refine lv_aload_n hx hb dL_isSet_75 rfl (lv_at hl 2 rfl) ?_
  refine lv_iload hx hb dL_isSet_76 (lv_at hl 3 rfl) ?_
  obtain ⟨zhb1, hf⟩ := ck_some hf
  refine x_iald C0 hw zt1 zhb1 dL_isSet_78 ?_
  refine lv_topi (fun zv2 ezv2 => ?_)
  have hf := lt_at hf ezv2
  refine lv_istore (lv' := [(10, .int zv2), (9, .int zs0), (0, .ref zx0), (1, .ref zx1), (7, .int zx7)]) hx hb dL_isSet_79 hl (by decide) rfl (fun ls hl => ?_)
  refine lv_aload_n hx hb dL_isSet_81 rfl (lv_at hl 3 rfl) ?_
  refine lv_iload hx hb dL_isSet_82 (lv_at hl 4 rfl) ?_
  refine lv_iload hx hb dL_isSet_84 (lv_at hl 1 rfl) ?_
  obtain ⟨zI3, ezI3⟩ : ∃ y : Im, y = pA I zx1 (zx7).toNatClampNeg zs0 := ⟨_, rfl⟩
  have hf := lt_at hf ezI3
  refine x_iast C0 hz hw zt1 zhb1 dL_isSet_86 ezI3 (fun H locs hw => ?_)
  refine lv_aload_n hx hb dL_isSet_87 rfl (lv_at hl 2 rfl) ?_
  refine lv_iload hx hb dL_isSet_88 (lv_at hl 4 rfl) ?_
  refine lv_iload hx hb dL_isSet_90 (lv_at hl 1 rfl) ?_
  obtain ⟨⟨zv4, zI5, zX6⟩, ze7, hf⟩ := nn_some hf
  refine x_ci (r := zv4) (I1 := zI5) (X1 := zX6) (x_runV (As := [.int zx7, .int zs0]) (rest := []) C0 (c8_set l E G fl X zI3 zx0 zx7 zs0 zt0 ze7) hw 8 zt0 (by decide) rfl wd60 wd468 wd469 wd470 wd107 ⟨rfl, rfl⟩ hy8_set ⟨Nat.le_of_ble_eq_true rfl, Nat.le_of_ble_eq_true rfl⟩ rfl hl.1 (Nat.le_of_ble_eq_true rfl) ⟨Nat.zero_le _, Nat.zero_le _⟩ dL_isSet_92) hw (fun H locs hw => ?_)
  refine lv_iload hx hb dL_isSet_95 (lv_at hl 0 rfl) ?_
  refine lv_icmp_ne (tgt := 104) hx hb dL_isSet_97 (by decide) (fun zc8 => ?_) (fun zc8 => ?_)
  · have hf := ite_f hf zc8
    refine lv_iconst (v := (0 : Int32)) hx hb dL_isSet_104 (by decide) ?_
    exact w9_isSet_105 C0 hr hz fl zI5 zX6 _ _ _ (0 : Int32) hw (lv_sub hl [] rfl) hf
  · have hf := ite_t hf zc8
    refine lv_iconst (v := (1 : Int32)) hx hb dL_isSet_100 (by decide) ?_
    refine lv_goto (tgt := 105) hx hb dL_isSet_101 (by decide) ?_
    exact w9_isSet_105 C0 hr hz fl zI5 zX6 _ _ _ (1 : Int32) hw (lv_sub hl [] rfl) hf
noncomputable def m9_isSet (fl : Nat) (len : Nat → Nat) (X : Xm) (I : Im) (zx0 : Nat) (zx1 : Nat) (zx2 : Nat) (zx3 : Nat) (zx4 : Nat) (zx5 : Int32) (zx6 : Int32) : Option (Int32 × Im × Xm) :=
  lt ((zx6 - zx6 / (4 : Int32) * (4 : Int32))) fun zv1 =>
  lt ((zx6 / (4 : Int32))) fun zv2 =>
  if zx5 = 0 then
    if zv1 = 0 then
      m9_isSet_73 fl len I X zx0 zx1 zv1 ((1 : Int32) + (zv2 - zv2 / (20 : Int32) * (20 : Int32)))
    else
      if zv1 = (1 : Int32) then
        m9_isSet_73 fl len I X zx0 zx1 zv1 ((1 : Int32) + (zv2 - zv2 / (9 : Int32) * (9 : Int32)))
      else
        if zv1 = (2 : Int32) then
          m9_isSet_73 fl len I X zx0 zx1 zv1 ((1 : Int32) + (zv2 - zv2 / (100 : Int32) * (100 : Int32)))
        else
          m9_isSet_73 fl len I X zx0 zx1 zv1 ((10 : Int32) + (zv2 - zv2 / (391 : Int32) * (391 : Int32)))
  else
    if (4 : Int32) ≤ zx5 then
      ck (inb (((2 : Int32) * zv1) + (1 : Int32)) (len zx4) = true) <|
      lt ((gA I zx4 ((((2 : Int32) * zv1) + (1 : Int32))).toNatClampNeg)) fun zv6 =>
      lt (pA I zx4 ((((2 : Int32) * zv1) + (1 : Int32))).toNatClampNeg (zv2 - zv2 / (101 : Int32) * (101 : Int32))) fun zI7 =>
      nn (m8_goal fl len X zI7 zx0 zv1 (zv2 - zv2 / (101 : Int32) * (101 : Int32))) fun ⟨zv8, zI9, zX10⟩ =>
      if zv8 = zv6 then
        m9_isSet_259 fl len zI9 zX10 (1 : Int32)
      else
        m9_isSet_259 fl len zI9 zX10 (0 : Int32)
    else
      ck (inb (((4 : Int32) * zv1) + (3 : Int32)) (len zx2) = true) <|
      lt ((gA I zx2 ((((4 : Int32) * zv1) + (3 : Int32))).toNatClampNeg)) fun zv14 =>
      lt (((1 : Int32) + (zv2 - zv2 / (9 : Int32) * (9 : Int32)))) fun zv15 =>
      lt (((1 : Int32) + ((zv2 / (9 : Int32)) - (zv2 / (9 : Int32)) / (99 : Int32) * (99 : Int32)))) fun zv16 =>
      if (6 : Int32) ≤ zv14 then
        m9_isSet_180 fl len I X zx0 zv1 zv14 zv15 zv16
      else
        ck (inb (((6 : Int32) * zv1) + zv14) (len zx3) = true) <|
        lt (pA I zx3 ((((6 : Int32) * zv1) + zv14)).toNatClampNeg (zv15 + ((64 : Int32) * zv16))) fun zI19 =>
        lt (pA zI19 zx2 ((((4 : Int32) * zv1) + (3 : Int32))).toNatClampNeg ((gA zI19 zx2 ((((4 : Int32) * zv1) + (3 : Int32))).toNatClampNeg) + (1 : Int32))) fun zI20 =>
        m9_isSet_180 fl len zI20 X zx0 zv1 zv14 zv15 zv16
theorem hy9_isSet : yL_isSet.cls = RL ∧ yL_isSet.cls ≠ "java/lang/invoke/MethodHandle" ∧ yL_isSet.cls ≠ "java/lang/invoke/VarHandle" ∧ (parseMethodDescriptor yL_isSet.desc).map (fun d => d.parameters.length) = some 7 := ⟨rfl, by decide +kernel, by decide +kernel, by decide +kernel⟩
set_option maxHeartbeats 4000000 in
set_option maxRecDepth 100000 in
theorem c9_isSet (l : Launch) (E : EN) (G : GM) (fl : Nat) (X : Xm) (I : Im) (zx0 : Nat) (zx1 : Nat) (zx2 : Nat) (zx3 : Nat) (zx4 : Nat) (zx5 : Int32) (zx6 : Int32) (zt0 : okA E G 8 zx0) (zt1 : okA E G 11 zx1) (zt2 : okA E G 11 zx2) (zt3 : okA E G 11 zx3) (zt4 : okA E G 11 zx4) {rr : Int32 × Im × Xm} (hf : m9_isSet fl G.2.2 X I zx0 zx1 zx2 zx3 zx4 zx5 zx6 = some rr) : MT l yL_isSet cL_isSet 12 (some .boolean) ({ frames := 5, cells := 0, slots := 0, locals := 113 } : Room) E G I X [.ref zx0, .ref zx1, .ref zx2, .ref zx3, .ref zx4, .int zx5, .int zx6] (QI E G rr.1 rr.2.1 rr.2.2) 0 0 := by
  refine Met.ofW (cc := cL_isSet) (maxL := 12) (ret := (some .boolean)) (by decide +kernel) rfl ?_
  intro p e s m args below meth c s₁ B hml hv
  obtain ⟨rfl, hw0, hSE⟩ := hv
  have C0 : CX p s m ([.ref zx0, .ref zx1, .ref zx2, .ref zx3, .ref zx4, .int zx5, .int zx6] : List Value).toArray meth c E cL_isSet RL 12 := ⟨B.exec, B.bytes, hml, findClass_of_methodNamed B.named, fun w hw => atoms_spec (ws := WS yL_isSet cL_isSet 12 (some .boolean)) B.pre w (List.mem_cons_of_mem _ hw), B.notSynchronized, hSE⟩
  have hz : s.heap.size + 0 ≤ eB E + G.1 := Nat.le_of_eq hw0.2.1
  have hw : WD E G I X s.heap s.heap [] := ⟨hw0, va_S.rf⟩
  have hr := B.returns
  have hx := C0.1; have hb := C0.2.1; have hml := C0.2.2.1; have hown := C0.2.2.2.1; have hts := C0.2.2.2.2.1
  have hl := lv_entry ([.ref zx0, .ref zx1, .ref zx2, .ref zx3, .ref zx4, .int zx5, .int zx6]) (n := 12) (Nat.le_of_ble_eq_true rfl)
  rw [lg_entry_eq]
  generalize (lg_sl ([.ref zx0, .ref zx1, .ref zx2, .ref zx3, .ref zx4, .int zx5, .int zx6]) ++ List.replicate (12 - (lg_sl ([.ref zx0, .ref zx1, .ref zx2, .ref zx3, .ref zx4, .int zx5, .int zx6])).length) Slot.unset).toArray = ls at hl ⊢
  have hl : lv_has ls 12 [(0, .ref zx0), (1, .ref zx1), (2, .ref zx2), (3, .ref zx3), (4, .ref zx4), (5, .int zx5), (6, .int zx6)] := hl
  unfold m9_isSet at hf
  refine lv_iload hx hb dL_isSet_0 (lv_at hl 6 rfl) ?_
  refine lv_iconst (v := (4 : Int32)) hx hb dL_isSet_2 (by decide) ?_
  refine lv_irem hx hb dL_isSet_3 (by decide) ?_
  refine lv_topi (fun zv1 ezv1 => ?_)
  have hf := lt_at hf ezv1
  refine lv_istore (lv' := [(7, .int zv1), (0, .ref zx0), (1, .ref zx1), (2, .ref zx2), (3, .ref zx3), (4, .ref zx4), (5, .int zx5), (6, .int zx6)]) hx hb dL_isSet_4 hl (by decide) rfl (fun ls hl => ?_)
  refine lv_iload hx hb dL_isSet_6 (lv_at hl 7 rfl) ?_
  refine lv_iconst (v := (4 : Int32)) hx hb dL_isSet_8 (by decide) ?_
  refine lv_idiv hx hb dL_isSet_9 (by decide) ?_
  refine lv_topi (fun zv2 ezv2 => ?_)
  have hf := lt_at hf ezv2
  refine lv_istore (lv' := [(8, .int zv2), (7, .int zv1), (0, .ref zx0), (1, .ref zx1), (2, .ref zx2), (3, .ref zx3), (4, .ref zx4), (5, .int zx5), (6, .int zx6)]) hx hb dL_isSet_10 hl (by decide) rfl (fun ls hl => ?_)
  refine lv_iload hx hb dL_isSet_12 (lv_at hl 7 rfl) ?_
  refine lv_if_ne (tgt := 106) hx hb dL_isSet_14 (by decide) (fun zc3 => ?_) (fun zc3 => ?_)
  · have hf := ite_f hf zc3
    refine lv_iload hx hb dL_isSet_106 (lv_at hl 7 rfl) ?_
    refine lv_iconst (v := (4 : Int32)) hx hb dL_isSet_108 (by decide) ?_
    refine lv_icmp_ge (tgt := 213) hx hb dL_isSet_109 (by decide) (fun zc4 => ?_) (fun zc4 => ?_)
    · have hf := ite_t hf zc4
      refine lv_aload hx hb dL_isSet_213 (lv_at hl 6 rfl) ?_
      refine lv_iconst (v := (2 : Int32)) hx hb dL_isSet_215 (by decide) ?_
      refine lv_iload hx hb dL_isSet_216 (lv_at hl 1 rfl) ?_
      refine lv_imul hx hb dL_isSet_218 ?_
      refine lv_iconst (v := (1 : Int32)) hx hb dL_isSet_219 (by decide) ?_
      refine lv_iadd hx hb dL_isSet_220 ?_
      obtain ⟨zhb5, hf⟩ := ck_some hf
      refine x_iald C0 hw zt4 zhb5 dL_isSet_221 ?_
      refine lv_topi (fun zv6 ezv6 => ?_)
      have hf := lt_at hf ezv6
      refine lv_istore (lv' := [(9, .int zv6), (8, .int zv2), (7, .int zv1), (0, .ref zx0), (1, .ref zx1), (2, .ref zx2), (3, .ref zx3), (4, .ref zx4), (5, .int zx5), (6, .int zx6)]) hx hb dL_isSet_222 hl (by decide) rfl (fun ls hl => ?_)
      refine lv_aload hx hb dL_isSet_224 (lv_at hl 7 rfl) ?_
      refine lv_iconst (v := (2 : Int32)) hx hb dL_isSet_226 (by decide) ?_
      refine lv_iload hx hb dL_isSet_227 (lv_at hl 2 rfl) ?_
      refine lv_imul hx hb dL_isSet_229 ?_
      refine lv_iconst (v := (1 : Int32)) hx hb dL_isSet_230 (by decide) ?_
      refine lv_iadd hx hb dL_isSet_231 ?_
      refine lv_iload hx hb dL_isSet_232 (lv_at hl 1 rfl) ?_
      refine lv_bipush (v := (101 : Int32)) hx hb dL_isSet_234 (by decide) ?_
      refine lv_irem hx hb dL_isSet_236 (by decide) ?_
      obtain ⟨zI7, ezI7⟩ : ∃ y : Im, y = pA I zx4 ((((2 : Int32) * zv1) + (1 : Int32))).toNatClampNeg (zv2 - zv2 / (101 : Int32) * (101 : Int32)) := ⟨_, rfl⟩
      have hf := lt_at hf ezI7
      refine x_iast C0 hz hw zt4 zhb5 dL_isSet_237 ezI7 (fun H locs hw => ?_)
      refine lv_aload_n hx hb dL_isSet_238 rfl (lv_at hl 3 rfl) ?_
      refine lv_iload hx hb dL_isSet_239 (lv_at hl 2 rfl) ?_
      refine lv_iload hx hb dL_isSet_241 (lv_at hl 1 rfl) ?_
      refine lv_bipush (v := (101 : Int32)) hx hb dL_isSet_243 (by decide) ?_
      refine lv_irem hx hb dL_isSet_245 (by decide) ?_
      obtain ⟨⟨zv8, zI9, zX10⟩, ze11, hf⟩ := nn_some hf
      refine x_ci (r := zv8) (I1 := zI9) (X1 := zX10) (x_runV (As := [.int zv1, .int (zv2 - zv2 / (101 : Int32) * (101 : Int32))]) (rest := []) C0 (c8_goal l E G fl X zI7 zx0 zv1 (zv2 - zv2 / (101 : Int32) * (101 : Int32)) zt0 ze11) hw 8 zt0 (by decide) rfl wd65 wd474 wd475 wd476 wd107 ⟨rfl, rfl⟩ hy8_goal ⟨Nat.le_of_ble_eq_true rfl, Nat.le_of_ble_eq_true rfl⟩ rfl hl.1 (Nat.le_of_ble_eq_true rfl) ⟨Nat.zero_le _, Nat.zero_le _⟩ dL_isSet_246) hw (fun H locs hw => ?_)
      refine lv_iload hx hb dL_isSet_249 (lv_at hl 0 rfl) ?_
      refine lv_icmp_ne (tgt := 258) hx hb dL_isSet_251 (by decide) (fun zc12 => ?_) (fun zc12 => ?_)
      · have hf := ite_f hf zc12
        refine lv_iconst (v := (0 : Int32)) hx hb dL_isSet_258 (by decide) ?_
        exact w9_isSet_259 C0 hr hz fl zI9 zX10 _ _ _ (0 : Int32) hw (lv_sub hl [] rfl) hf
      · have hf := ite_t hf zc12
        refine lv_iconst (v := (1 : Int32)) hx hb dL_isSet_254 (by decide) ?_
        refine lv_goto (tgt := 259) hx hb dL_isSet_255 (by decide) ?_
        exact w9_isSet_259 C0 hr hz fl zI9 zX10 _ _ _ (1 : Int32) hw (lv_sub hl [] rfl) hf
    · have hf := ite_f hf zc4
      refine lv_aload_n hx hb dL_isSet_112 rfl (lv_at hl 4 rfl) ?_
      refine lv_iconst (v := (4 : Int32)) hx hb dL_isSet_113 (by decide) ?_
      refine lv_iload hx hb dL_isSet_114 (lv_at hl 1 rfl) ?_
      refine lv_imul hx hb dL_isSet_116 ?_
      refine lv_iconst (v := (3 : Int32)) hx hb dL_isSet_117 (by decide) ?_
      refine lv_iadd hx hb dL_isSet_118 ?_
      obtain ⟨zhb13, hf⟩ := ck_some hf
      refine x_iald C0 hw zt2 zhb13 dL_isSet_119 ?_
      refine lv_topi (fun zv14 ezv14 => ?_)
      have hf := lt_at hf ezv14
      refine lv_istore (lv' := [(9, .int zv14), (8, .int zv2), (7, .int zv1), (0, .ref zx0), (1, .ref zx1), (2, .ref zx2), (3, .ref zx3), (4, .ref zx4), (5, .int zx5), (6, .int zx6)]) hx hb dL_isSet_120 hl (by decide) rfl (fun ls hl => ?_)
      refine lv_iconst (v := (1 : Int32)) hx hb dL_isSet_122 (by decide) ?_
      refine lv_iload hx hb dL_isSet_123 (lv_at hl 1 rfl) ?_
      refine lv_bipush (v := (9 : Int32)) hx hb dL_isSet_125 (by decide) ?_
      refine lv_irem hx hb dL_isSet_127 (by decide) ?_
      refine lv_iadd hx hb dL_isSet_128 ?_
      refine lv_topi (fun zv15 ezv15 => ?_)
      have hf := lt_at hf ezv15
      refine lv_istore (lv' := [(10, .int zv15), (9, .int zv14), (8, .int zv2), (7, .int zv1), (0, .ref zx0), (1, .ref zx1), (2, .ref zx2), (3, .ref zx3), (4, .ref zx4), (5, .int zx5), (6, .int zx6)]) hx hb dL_isSet_129 hl (by decide) rfl (fun ls hl => ?_)
      refine lv_iconst (v := (1 : Int32)) hx hb dL_isSet_131 (by decide) ?_
      refine lv_iload hx hb dL_isSet_132 (lv_at hl 2 rfl) ?_
      refine lv_bipush (v := (9 : Int32)) hx hb dL_isSet_134 (by decide) ?_
      refine lv_idiv hx hb dL_isSet_136 (by decide) ?_
      refine lv_bipush (v := (99 : Int32)) hx hb dL_isSet_137 (by decide) ?_
      refine lv_irem hx hb dL_isSet_139 (by decide) ?_
      refine lv_iadd hx hb dL_isSet_140 ?_
      refine lv_topi (fun zv16 ezv16 => ?_)
      have hf := lt_at hf ezv16
      refine lv_istore (lv' := [(11, .int zv16), (10, .int zv15), (9, .int zv14), (8, .int zv2), (7, .int zv1), (0, .ref zx0), (1, .ref zx1), (2, .ref zx2), (3, .ref zx3), (4, .ref zx4), (5, .int zx5), (6, .int zx6)]) hx hb dL_isSet_141 hl (by decide) rfl (fun ls hl => ?_)
      refine lv_iload hx hb dL_isSet_143 (lv_at hl 2 rfl) ?_
      refine lv_bipush (v := (6 : Int32)) hx hb dL_isSet_145 (by decide) ?_
      refine lv_icmp_ge (tgt := 180) hx hb dL_isSet_147 (by decide) (fun zc17 => ?_) (fun zc17 => ?_)
      · have hf := ite_t hf zc17
        exact w9_isSet_180 C0 hr hz fl I X _ _ _ zx0 zv1 zv14 zv15 zv16 zt0 hw (lv_sub hl [5, 4, 2, 1, 0] rfl) hf
      · have hf := ite_f hf zc17
        refine lv_aload_n hx hb dL_isSet_150 rfl (lv_at hl 8 rfl) ?_
        refine lv_bipush (v := (6 : Int32)) hx hb dL_isSet_151 (by decide) ?_
        refine lv_iload hx hb dL_isSet_153 (lv_at hl 4 rfl) ?_
        refine lv_imul hx hb dL_isSet_155 ?_
        refine lv_iload hx hb dL_isSet_156 (lv_at hl 2 rfl) ?_
        refine lv_iadd hx hb dL_isSet_158 ?_
        refine lv_iload hx hb dL_isSet_159 (lv_at hl 1 rfl) ?_
        refine lv_bipush (v := (64 : Int32)) hx hb dL_isSet_161 (by decide) ?_
        refine lv_iload hx hb dL_isSet_163 (lv_at hl 0 rfl) ?_
        refine lv_imul hx hb dL_isSet_165 ?_
        refine lv_iadd hx hb dL_isSet_166 ?_
        obtain ⟨zhb18, hf⟩ := ck_some hf
        obtain ⟨zI19, ezI19⟩ : ∃ y : Im, y = pA I zx3 ((((6 : Int32) * zv1) + zv14)).toNatClampNeg (zv15 + ((64 : Int32) * zv16)) := ⟨_, rfl⟩
        have hf := lt_at hf ezI19
        refine x_iast C0 hz hw zt3 zhb18 dL_isSet_167 ezI19 (fun H locs hw => ?_)
        refine lv_aload_n hx hb dL_isSet_168 rfl (lv_at hl 7 rfl) ?_
        refine lv_iconst (v := (4 : Int32)) hx hb dL_isSet_169 (by decide) ?_
        refine lv_iload hx hb dL_isSet_170 (lv_at hl 4 rfl) ?_
        refine lv_imul hx hb dL_isSet_172 ?_
        refine lv_iconst (v := (3 : Int32)) hx hb dL_isSet_173 (by decide) ?_
        refine lv_iadd hx hb dL_isSet_174 ?_
        refine lv_dup2_11 hx hb dL_isSet_175 rfl rfl ?_
        refine x_iald C0 hw zt2 zhb13 dL_isSet_176 ?_
        refine lv_iconst (v := (1 : Int32)) hx hb dL_isSet_177 (by decide) ?_
        refine lv_iadd hx hb dL_isSet_178 ?_
        obtain ⟨zI20, ezI20⟩ : ∃ y : Im, y = pA zI19 zx2 ((((4 : Int32) * zv1) + (3 : Int32))).toNatClampNeg ((gA zI19 zx2 ((((4 : Int32) * zv1) + (3 : Int32))).toNatClampNeg) + (1 : Int32)) := ⟨_, rfl⟩
        have hf := lt_at hf ezI20
        refine x_iast C0 hz hw zt2 zhb13 dL_isSet_179 ezI20 (fun H locs hw => ?_)
        exact w9_isSet_180 C0 hr hz fl zI20 X _ _ _ zx0 zv1 zv14 zv15 zv16 zt0 hw (lv_sub hl [5, 4, 2, 1, 0] rfl) hf
  · have hf := ite_t hf zc3
    refine lv_iload hx hb dL_isSet_17 (lv_at hl 1 rfl) ?_
    refine lv_if_ne (tgt := 32) hx hb dL_isSet_19 (by decide) (fun zc21 => ?_) (fun zc21 => ?_)
    · have hf := ite_f hf zc21
      refine lv_iload hx hb dL_isSet_32 (lv_at hl 1 rfl) ?_
      refine lv_iconst (v := (1 : Int32)) hx hb dL_isSet_34 (by decide) ?_
      refine lv_icmp_ne (tgt := 48) hx hb dL_isSet_35 (by decide) (fun zc22 => ?_) (fun zc22 => ?_)
      · have hf := ite_f hf zc22
        refine lv_iload hx hb dL_isSet_48 (lv_at hl 1 rfl) ?_
        refine lv_iconst (v := (2 : Int32)) hx hb dL_isSet_50 (by decide) ?_
        refine lv_icmp_ne (tgt := 64) hx hb dL_isSet_51 (by decide) (fun zc23 => ?_) (fun zc23 => ?_)
        · have hf := ite_f hf zc23
          refine lv_bipush (v := (10 : Int32)) hx hb dL_isSet_64 (by decide) ?_
          refine lv_iload hx hb dL_isSet_66 (lv_at hl 0 rfl) ?_
          refine lv_sipush (v := (391 : Int32)) hx hb dL_isSet_68 (by decide) ?_
          refine lv_irem hx hb dL_isSet_71 (by decide) ?_
          refine lv_iadd hx hb dL_isSet_72 ?_
          exact w9_isSet_73 C0 hr hz fl I X _ _ _ zx0 zx1 zv1 ((10 : Int32) + (zv2 - zv2 / (391 : Int32) * (391 : Int32))) zt0 zt1 hw (lv_sub hl [2, 3, 1] rfl) hf
        · have hf := ite_t hf zc23
          refine lv_iconst (v := (1 : Int32)) hx hb dL_isSet_54 (by decide) ?_
          refine lv_iload hx hb dL_isSet_55 (lv_at hl 0 rfl) ?_
          refine lv_bipush (v := (100 : Int32)) hx hb dL_isSet_57 (by decide) ?_
          refine lv_irem hx hb dL_isSet_59 (by decide) ?_
          refine lv_iadd hx hb dL_isSet_60 ?_
          refine lv_goto (tgt := 73) hx hb dL_isSet_61 (by decide) ?_
          exact w9_isSet_73 C0 hr hz fl I X _ _ _ zx0 zx1 zv1 ((1 : Int32) + (zv2 - zv2 / (100 : Int32) * (100 : Int32))) zt0 zt1 hw (lv_sub hl [2, 3, 1] rfl) hf
      · have hf := ite_t hf zc22
        refine lv_iconst (v := (1 : Int32)) hx hb dL_isSet_38 (by decide) ?_
        refine lv_iload hx hb dL_isSet_39 (lv_at hl 0 rfl) ?_
        refine lv_bipush (v := (9 : Int32)) hx hb dL_isSet_41 (by decide) ?_
        refine lv_irem hx hb dL_isSet_43 (by decide) ?_
        refine lv_iadd hx hb dL_isSet_44 ?_
        refine lv_goto (tgt := 73) hx hb dL_isSet_45 (by decide) ?_
        exact w9_isSet_73 C0 hr hz fl I X _ _ _ zx0 zx1 zv1 ((1 : Int32) + (zv2 - zv2 / (9 : Int32) * (9 : Int32))) zt0 zt1 hw (lv_sub hl [2, 3, 1] rfl) hf
    · have hf := ite_t hf zc21
      refine lv_iconst (v := (1 : Int32)) hx hb dL_isSet_22 (by decide) ?_
      refine lv_iload hx hb dL_isSet_23 (lv_at hl 0 rfl) ?_
      refine lv_bipush (v := (20 : Int32)) hx hb dL_isSet_25 (by decide) ?_
      refine lv_irem hx hb dL_isSet_27 (by decide) ?_
      refine lv_iadd hx hb dL_isSet_28 ?_
      refine lv_goto (tgt := 73) hx hb dL_isSet_29 (by decide) ?_
      exact w9_isSet_73 C0 hr hz fl I X _ _ _ zx0 zx1 zv1 ((1 : Int32) + (zv2 - zv2 / (20 : Int32) * (20 : Int32))) zt0 zt1 hw (lv_sub hl [2, 3, 1] rfl) hf
