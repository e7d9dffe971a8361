noncomputable def m9_cue_81 (fl : Nat) (len : Nat → Nat) (X : Xm) (I : Im) (zx0 : Nat) (zx1 : Int32) (zx2 : Int32) (zx3 : Int32) (zx4 : Int32) : Option (Int32 × Im) :=
  nn (gR X 144 zx0) fun zv1 =>
  ck (inb (4 : Int32) (len zv1) = true) <|
  if (gA I zv1 ((4 : Int32)).toNatClampNeg) ≤ zx1 then
    ck (inb (5 : Int32) (len zv1) = true) <|
    if (gA I zv1 ((5 : Int32)).toNatClampNeg) = (24 : Int32) then
      some ((-4 : Int32), I)
    else
      nn (m9_changes fl len X I zx0) fun zI6 =>
      nn (m9_opens fl len X zI6 zx0 zx1) fun ⟨zv8, zI9⟩ =>
      nn (m9_lay fl len X zI9 zx0 zv8 (0 : Int32) zx1) fun zI11 =>
      nn (m9_lay fl len X zI11 zx0 zv8 (1 : Int32) zx2) fun zI13 =>
      nn (m9_lay fl len X zI13 zx0 zv8 (2 : Int32) zx3) fun zI15 =>
      nn (m9_lay fl len X zI15 zx0 zv8 (3 : Int32) zx4) fun zI17 =>
      nn (m9_lay fl len X zI17 zx0 zv8 (4 : Int32) (0 : Int32)) fun zI19 =>
      some (zv8, zI19)
  else
    some ((-5 : Int32), I)
set_option maxHeartbeats 4000000 in
set_option maxRecDepth 100000 in
theorem w9_cue_81 {p : Program} {l : Launch} {e : Env} {s : State} {m : MethodId} {args : Array Value} {below : List Frame} {meth : Method} {c : Code} {E : EN} {G : GM} {X : Xm} (C0 : CX p s m args meth c E cX9_cue RX9 6) (hr : meth.sig.returnType = (some .int)) (hz : s.heap.size + 0 ≤ eB E + G.1) {rr : Int32 × Im} (fl : Nat) : ∀ (I : Im) (H : Heap) (locs : List Loc) (ls : Array Slot) (zx0 : Nat) (zx1 : Int32) (zx2 : Int32) (zx3 : Int32) (zx4 : Int32) (zt0 : okA E G 9 zx0), WD E G I X s.heap H locs → lv_has ls 6 [(0, .ref zx0), (1, .int zx1), (2, .int zx2), (3, .int zx3), (4, .int zx4)] → m9_cue_81 fl G.2.2 X I zx0 zx1 zx2 zx3 zx4 = some rr → W p l e ({ frames := 3, cells := 0, slots := 0, locals := 64 } : Room) s m args below meth c H locs 0 0 (MQ below (QI E G rr.1 rr.2 X) args s 0 0 (eA E)) (F0 m 81 ls []) := by
  intro I H locs ls zx0 zx1 zx2 zx3 zx4 zt0 hw hl hf
  unfold m9_cue_81 at hf
  have hx := C0.1; have hb := C0.2.1; have hml := C0.2.2.1; have hown := C0.2.2.2.1; have hts := C0.2.2.2.2.1
  refine lv_iload_n hx hb dX9_cue_81 rfl (lv_at hl 1 rfl) ?_
  refine lv_aload_n hx hb dX9_cue_82 rfl (lv_at hl 0 rfl) ?_
  obtain ⟨zv1, ezv1, hf⟩ := nn_some hf
  have tzv1 : okA E G 11 zv1 := wt_r hw ezv1
  refine xg_9_0 C0 hw zt0 wd601 ezv1 dX9_cue_83 ?_
  refine lv_iconst (v := (4 : Int32)) hx hb dX9_cue_86 (by decide) ?_
  obtain ⟨zhb2, hf⟩ := ck_some hf
  refine x_iald C0 hw tzv1 zhb2 dX9_cue_87 ?_
  refine lv_icmp_ge (tgt := 94) hx hb dX9_cue_88 (by decide) (fun zc3 => ?_) (fun zc3 => ?_)
  · have hf := ite_t hf zc3
    refine lv_aload_n hx hb dX9_cue_94 rfl (lv_at hl 0 rfl) ?_
    refine xg_9_0 C0 hw zt0 wd601 ezv1 dX9_cue_95 ?_
    refine lv_iconst (v := (5 : Int32)) hx hb dX9_cue_98 (by decide) ?_
    obtain ⟨zhb4, hf⟩ := ck_some hf
    refine x_iald C0 hw tzv1 zhb4 dX9_cue_99 ?_
    refine lv_bipush (v := (24 : Int32)) hx hb dX9_cue_100 (by decide) ?_
    refine lv_icmp_ne (tgt := 108) hx hb dX9_cue_102 (by decide) (fun zc5 => ?_) (fun zc5 => ?_)
    · have hf := ite_f hf zc5
      refine lv_aload_n hx hb dX9_cue_108 rfl (lv_at hl 0 rfl) ?_
      obtain ⟨zI6, ze7, hf⟩ := nn_some hf
      refine x_cv (I1 := zI6) (X1 := X) (x_runV (As := []) (rest := []) C0 (c9_changes l E G fl X I zx0 zt0 ze7) hw 9 zt0 (by decide) rfl wd114 wd662 wd663 wd664 wd612 ⟨rfl, rfl⟩ hy9_changes ⟨Nat.le_of_ble_eq_true rfl, Nat.le_of_ble_eq_true rfl⟩ rfl hl.1 (Nat.le_of_ble_eq_true rfl) ⟨Nat.zero_le _, Nat.zero_le _⟩ dX9_cue_109) hw (fun H locs hw => ?_)
      refine lv_aload_n hx hb dX9_cue_112 rfl (lv_at hl 0 rfl) ?_
      refine lv_iload_n hx hb dX9_cue_113 rfl (lv_at hl 1 rfl) ?_
      obtain ⟨⟨zv8, zI9⟩, ze10, hf⟩ := nn_some hf
      refine x_ci (r := zv8) (I1 := zI9) (X1 := X) (x_runV (As := [.int zx1]) (rest := []) C0 (c9_opens l E G fl X zI6 zx0 zx1 zt0 ze10) hw 9 zt0 (by decide) rfl wd140 wd668 wd669 wd670 wd612 ⟨rfl, rfl⟩ hy9_opens ⟨Nat.le_of_ble_eq_true rfl, Nat.le_of_ble_eq_true rfl⟩ rfl hl.1 (Nat.le_of_ble_eq_true rfl) ⟨Nat.zero_le _, Nat.zero_le _⟩ dX9_cue_114) hw (fun H locs hw => ?_)
      refine lv_istore (lv' := [(5, .int zv8), (0, .ref zx0), (1, .int zx1), (2, .int zx2), (3, .int zx3), (4, .int zx4)]) hx hb dX9_cue_117 hl (by decide) rfl (fun ls hl => ?_)
      refine lv_aload_n hx hb dX9_cue_119 rfl (lv_at hl 1 rfl) ?_
      refine lv_iload hx hb dX9_cue_120 (lv_at hl 0 rfl) ?_
      refine lv_iconst (v := (0 : Int32)) hx hb dX9_cue_122 (by decide) ?_
      refine lv_iload_n hx hb dX9_cue_123 rfl (lv_at hl 2 rfl) ?_
      obtain ⟨zI11, ze12, hf⟩ := nn_some hf
      refine x_cv (I1 := zI11) (X1 := X) (x_runV (As := [.int zv8, .int (0 : Int32), .int zx1]) (rest := []) C0 (c9_lay l E G fl X zI9 zx0 zv8 (0 : Int32) zx1 zt0 ze12) hw 9 zt0 (by decide) rfl wd118 wd640 wd641 wd642 wd612 ⟨rfl, rfl⟩ hy9_lay ⟨Nat.le_of_ble_eq_true rfl, Nat.le_of_ble_eq_true rfl⟩ rfl hl.1 (Nat.le_of_ble_eq_true rfl) ⟨Nat.zero_le _, Nat.zero_le _⟩ dX9_cue_124) hw (fun H locs hw => ?_)
      refine lv_aload_n hx hb dX9_cue_127 rfl (lv_at hl 1 rfl) ?_
      refine lv_iload hx hb dX9_cue_128 (lv_at hl 0 rfl) ?_
      refine lv_iconst (v := (1 : Int32)) hx hb dX9_cue_130 (by decide) ?_
      refine lv_iload_n hx hb dX9_cue_131 rfl (lv_at hl 3 rfl) ?_
      obtain ⟨zI13, ze14, hf⟩ := nn_some hf
      refine x_cv (I1 := zI13) (X1 := X) (x_runV (As := [.int zv8, .int (1 : Int32), .int zx2]) (rest := []) C0 (c9_lay l E G fl X zI11 zx0 zv8 (1 : Int32) zx2 zt0 ze14) hw 9 zt0 (by decide) rfl wd118 wd640 wd641 wd642 wd612 ⟨rfl, rfl⟩ hy9_lay ⟨Nat.le_of_ble_eq_true rfl, Nat.le_of_ble_eq_true rfl⟩ rfl hl.1 (Nat.le_of_ble_eq_true rfl) ⟨Nat.zero_le _, Nat.zero_le _⟩ dX9_cue_132) hw (fun H locs hw => ?_)
      refine lv_aload_n hx hb dX9_cue_135 rfl (lv_at hl 1 rfl) ?_
      refine lv_iload hx hb dX9_cue_136 (lv_at hl 0 rfl) ?_
      refine lv_iconst (v := (2 : Int32)) hx hb dX9_cue_138 (by decide) ?_
      refine lv_iload_n hx hb dX9_cue_139 rfl (lv_at hl 4 rfl) ?_
      obtain ⟨zI15, ze16, hf⟩ := nn_some hf
      refine x_cv (I1 := zI15) (X1 := X) (x_runV (As := [.int zv8, .int (2 : Int32), .int zx3]) (rest := []) C0 (c9_lay l E G fl X zI13 zx0 zv8 (2 : Int32) zx3 zt0 ze16) hw 9 zt0 (by decide) rfl wd118 wd640 wd641 wd642 wd612 ⟨rfl, rfl⟩ hy9_lay ⟨Nat.le_of_ble_eq_true rfl, Nat.le_of_ble_eq_true rfl⟩ rfl hl.1 (Nat.le_of_ble_eq_true rfl) ⟨Nat.zero_le _, Nat.zero_le _⟩ dX9_cue_140) hw (fun H locs hw => ?_)
      refine lv_aload_n hx hb dX9_cue_143 rfl (lv_at hl 1 rfl) ?_
      refine lv_iload hx hb dX9_cue_144 (lv_at hl 0 rfl) ?_
      refine lv_iconst (v := (3 : Int32)) hx hb dX9_cue_146 (by decide) ?_
      refine lv_iload hx hb dX9_cue_147 (lv_at hl 5 rfl) ?_
      obtain ⟨zI17, ze18, hf⟩ := nn_some hf
      refine x_cv (I1 := zI17) (X1 := X) (x_runV (As := [.int zv8, .int (3 : Int32), .int zx4]) (rest := []) C0 (c9_lay l E G fl X zI15 zx0 zv8 (3 : Int32) zx4 zt0 ze18) hw 9 zt0 (by decide) rfl wd118 wd640 wd641 wd642 wd612 ⟨rfl, rfl⟩ hy9_lay ⟨Nat.le_of_ble_eq_true rfl, Nat.le_of_ble_eq_true rfl⟩ rfl hl.1 (Nat.le_of_ble_eq_true rfl) ⟨Nat.zero_le _, Nat.zero_le _⟩ dX9_cue_149) hw (fun H locs hw => ?_)
      refine lv_aload_n hx hb dX9_cue_152 rfl (lv_at hl 1 rfl) ?_
      refine lv_iload hx hb dX9_cue_153 (lv_at hl 0 rfl) ?_
      refine lv_iconst (v := (4 : Int32)) hx hb dX9_cue_155 (by decide) ?_
      refine lv_iconst (v := (0 : Int32)) hx hb dX9_cue_156 (by decide) ?_
      obtain ⟨zI19, ze20, hf⟩ := nn_some hf
      refine x_cv (I1 := zI19) (X1 := X) (x_runV (As := [.int zv8, .int (4 : Int32), .int (0 : Int32)]) (rest := []) C0 (c9_lay l E G fl X zI17 zx0 zv8 (4 : Int32) (0 : Int32) zt0 ze20) hw 9 zt0 (by decide) rfl wd118 wd640 wd641 wd642 wd612 ⟨rfl, rfl⟩ hy9_lay ⟨Nat.le_of_ble_eq_true rfl, Nat.le_of_ble_eq_true rfl⟩ rfl hl.1 (Nat.le_of_ble_eq_true rfl) ⟨Nat.zero_le _, Nat.zero_le _⟩ dX9_cue_157) hw (fun H locs hw => ?_)
      refine lv_iload hx hb dX9_cue_160 (lv_at hl 0 rfl) ?_
      obtain rfl := Option.some.inj hf
      exact x_iret C0 hr hw dX9_cue_162
    · have hf := ite_t hf zc5
      refine lv_bipush (v := (-4 : Int32)) hx hb dX9_cue_105 (by decide) ?_
      obtain rfl := Option.some.inj hf
      exact x_iret C0 hr hw dX9_cue_107
  · have hf := ite_f hf zc3
    refine lv_bipush (v := (-5 : Int32)) hx hb dX9_cue_91 (by decide) ?_
    obtain rfl := Option.some.inj hf
    exact x_iret C0 hr hw dX9_cue_93
noncomputable def m9_cue_78 (fl : Nat) (len : Nat → Nat) (X : Xm) (I : Im) : Option (Int32 × Im) :=
  some ((-2 : Int32), I)
set_option maxHeartbeats 4000000 in
set_option maxRecDepth 100000 in
theorem w9_cue_78 {p : Program} {l : Launch} {e : Env} {s : State} {m : MethodId} {args : Array Value} {below : List Frame} {meth : Method} {c : Code} {E : EN} {G : GM} {X : Xm} (C0 : CX p s m args meth c E cX9_cue RX9 6) (hr : meth.sig.returnType = (some .int)) (hz : s.heap.size + 0 ≤ eB E + G.1) {rr : Int32 × Im} (fl : Nat) : ∀ (I : Im) (H : Heap) (locs : List Loc) (ls : Array Slot) , WD E G I X s.heap H locs → lv_has ls 6 [] → m9_cue_78 fl G.2.2 X I = some rr → W p l e ({ frames := 3, cells := 0, slots := 0, locals := 64 } : Room) s m args below meth c H locs 0 0 (MQ below (QI E G rr.1 rr.2 X) args s 0 0 (eA E)) (F0 m 78 ls []) := by
  intro I H locs ls hw hl hf
  unfold m9_cue_78 at hf
  have hx := C0.1; have hb := C0.2.1; have hml := C0.2.2.1; have hown := C0.2.2.2.1; have hts := C0.2.2.2.2.1
  refine lv_bipush (v := (-2 : Int32)) hx hb dX9_cue_78 (by decide) ?_
  obtain rfl := Option.some.inj hf
  exact x_iret C0 hr hw dX9_cue_80
noncomputable def m9_cue_62 (fl : Nat) (len : Nat → Nat) (X : Xm) (I : Im) (zx0 : Nat) (zx1 : Int32) (zx2 : Int32) (zx3 : Int32) (zx4 : Int32) : Option (Int32 × Im) :=
  if zx2 = (2 : Int32) then
    nn (m9_in fl len X I zx4 (0 : Int32) (100 : Int32)) fun zv2 =>
    if zv2 = 0 then
      m9_cue_78 fl len X I
    else
      m9_cue_81 fl len X I zx0 zx1 zx2 zx3 zx4
  else
    m9_cue_81 fl len X I zx0 zx1 zx2 zx3 zx4
set_option maxHeartbeats 4000000 in
set_option maxRecDepth 100000 in
theorem w9_cue_62 {p : Program} {l : Launch} {e : Env} {s : State} {m : MethodId} {args : Array Value} {below : List Frame} {meth : Method} {c : Code} {E : EN} {G : GM} {X : Xm} (C0 : CX p s m args meth c E cX9_cue RX9 6) (hr : meth.sig.returnType = (some .int)) (hz : s.heap.size + 0 ≤ eB E + G.1) {rr : Int32 × Im} (fl : Nat) : ∀ (I : Im) (H : Heap) (locs : List Loc) (ls : Array Slot) (zx0 : Nat) (zx1 : Int32) (zx2 : Int32) (zx3 : Int32) (zx4 : Int32) (zt0 : okA E G 9 zx0), WD E G I X s.heap H locs → lv_has ls 6 [(0, .ref zx0), (1, .int zx1), (2, .int zx2), (3, .int zx3), (4, .int zx4)] → m9_cue_62 fl G.2.2 X I zx0 zx1 zx2 zx3 zx4 = some rr → W p l e ({ frames := 3, cells := 0, slots := 0, locals := 64 } : Room) s m args below meth c H locs 0 0 (MQ below (QI E G rr.1 rr.2 X) args s 0 0 (eA E)) (F0 m 62 ls []) := by
  intro I H locs ls zx0 zx1 zx2 zx3 zx4 zt0 hw hl hf
  unfold m9_cue_62 at hf
  have hx := C0.1; have hb := C0.2.1; have hml := C0.2.2.1; have hown := C0.2.2.2.1; have hts := C0.2.2.2.2.1
  refine lv_iload_n hx hb dX9_cue_62 rfl (lv_at hl 2 rfl) ?_
  refine lv_iconst (v := (2 : Int32)) hx hb dX9_cue_63 (by decide) ?_
  refine lv_icmp_ne (tgt := 81) hx hb dX9_cue_64 (by decide) (fun zc1 => ?_) (fun zc1 => ?_)
  · have hf := ite_f hf zc1
    exact w9_cue_81 C0 hr hz fl I _ _ _ zx0 zx1 zx2 zx3 zx4 zt0 hw (lv_sub hl [0, 1, 2, 3, 4] rfl) hf
  · have hf := ite_t hf zc1
    refine lv_iload hx hb dX9_cue_67 (lv_at hl 4 rfl) ?_
    refine lv_iconst (v := (0 : Int32)) hx hb dX9_cue_69 (by decide) ?_
    refine lv_bipush (v := (100 : Int32)) hx hb dX9_cue_70 (by decide) ?_
    obtain ⟨zv2, ze3, hf⟩ := nn_some hf
    refine x_ci (r := zv2) (I1 := I) (X1 := X) (x_runS (As := [.int zx4, .int (0 : Int32), .int (100 : Int32)]) (rest := []) C0 (c9_in l E G fl X I zx4 (0 : Int32) (100 : Int32) ze3) hw wd113 wd610 wd611 wd612 ⟨rfl, rfl⟩ hy9_in ⟨Nat.le_of_ble_eq_true rfl, Nat.le_of_ble_eq_true rfl⟩ rfl hl.1 (Nat.le_of_ble_eq_true rfl) ⟨Nat.zero_le _, Nat.zero_le _⟩ dX9_cue_72) hw (fun H locs hw => ?_)
    refine lv_if_ne (tgt := 81) hx hb dX9_cue_75 (by decide) (fun zc4 => ?_) (fun zc4 => ?_)
    · have hf := ite_f hf zc4
      exact w9_cue_81 C0 hr hz fl I _ _ _ zx0 zx1 zx2 zx3 zx4 zt0 hw (lv_sub hl [0, 1, 2, 3, 4] rfl) hf
    · have hf := ite_t hf zc4
      exact w9_cue_78 C0 hr hz fl I _ _ _ hw (lv_sub hl [] rfl) hf
noncomputable def m9_cue_46 (fl : Nat) (len : Nat → Nat) (X : Xm) (I : Im) (zx0 : Nat) (zx1 : Int32) (zx2 : Int32) (zx3 : Int32) (zx4 : Int32) : Option (Int32 × Im) :=
  if zx2 = (1 : Int32) then
    nn (m9_in fl len X I zx4 (1 : Int32) (99 : Int32)) fun zv2 =>
    if zv2 = 0 then
      m9_cue_78 fl len X I
    else
      m9_cue_62 fl len X I zx0 zx1 zx2 zx3 zx4
  else
    m9_cue_62 fl len X I zx0 zx1 zx2 zx3 zx4
set_option maxHeartbeats 4000000 in
set_option maxRecDepth 100000 in
theorem w9_cue_46 {p : Program} {l : Launch} {e : Env} {s : State} {m : MethodId} {args : Array Value} {below : List Frame} {meth : Method} {c : Code} {E : EN} {G : GM} {X : Xm} (C0 : CX p s m args meth c E cX9_cue RX9 6) (hr : meth.sig.returnType = (some .int)) (hz : s.heap.size + 0 ≤ eB E + G.1) {rr : Int32 × Im} (fl : Nat) : ∀ (I : Im) (H : Heap) (locs : List Loc) (ls : Array Slot) (zx0 : Nat) (zx1 : Int32) (zx2 : Int32) (zx3 : Int32) (zx4 : Int32) (zt0 : okA E G 9 zx0), WD E G I X s.heap H locs → lv_has ls 6 [(0, .ref zx0), (1, .int zx1), (2, .int zx2), (3, .int zx3), (4, .int zx4)] → m9_cue_46 fl G.2.2 X I zx0 zx1 zx2 zx3 zx4 = some rr → W p l e ({ frames := 3, cells := 0, slots := 0, locals := 64 } : Room) s m args below meth c H locs 0 0 (MQ below (QI E G rr.1 rr.2 X) args s 0 0 (eA E)) (F0 m 46 ls []) := by
  intro I H locs ls zx0 zx1 zx2 zx3 zx4 zt0 hw hl hf
  unfold m9_cue_46 at hf
  have hx := C0.1; have hb := C0.2.1; have hml := C0.2.2.1; have hown := C0.2.2.2.1; have hts := C0.2.2.2.2.1
  refine lv_iload_n hx hb dX9_cue_46 rfl (lv_at hl 2 rfl) ?_
  refine lv_iconst (v := (1 : Int32)) hx hb dX9_cue_47 (by decide) ?_
  refine lv_icmp_ne (tgt := 62) hx hb dX9_cue_48 (by decide) (fun zc1 => ?_) (fun zc1 => ?_)
  · have hf := ite_f hf zc1
    exact w9_cue_62 C0 hr hz fl I _ _ _ zx0 zx1 zx2 zx3 zx4 zt0 hw (lv_sub hl [0, 1, 2, 3, 4] rfl) hf
  · have hf := ite_t hf zc1
    refine lv_iload hx hb dX9_cue_51 (lv_at hl 4 rfl) ?_
    refine lv_iconst (v := (1 : Int32)) hx hb dX9_cue_53 (by decide) ?_
    refine lv_bipush (v := (99 : Int32)) hx hb dX9_cue_54 (by decide) ?_
    obtain ⟨zv2, ze3, hf⟩ := nn_some hf
    refine x_ci (r := zv2) (I1 := I) (X1 := X) (x_runS (As := [.int zx4, .int (1 : Int32), .int (99 : Int32)]) (rest := []) C0 (c9_in l E G fl X I zx4 (1 : Int32) (99 : Int32) ze3) hw wd113 wd610 wd611 wd612 ⟨rfl, rfl⟩ hy9_in ⟨Nat.le_of_ble_eq_true rfl, Nat.le_of_ble_eq_true rfl⟩ rfl hl.1 (Nat.le_of_ble_eq_true rfl) ⟨Nat.zero_le _, Nat.zero_le _⟩ dX9_cue_56) hw (fun H locs hw => ?_)
    refine lv_if_eq (tgt := 78) hx hb dX9_cue_59 (by decide) (fun zc4 => ?_) (fun zc4 => ?_)
    · have hf := ite_t hf zc4
      exact w9_cue_78 C0 hr hz fl I _ _ _ hw (lv_sub hl [] rfl) hf
    · have hf := ite_f hf zc4
      exact w9_cue_62 C0 hr hz fl I _ _ _ zx0 zx1 zx2 zx3 zx4 zt0 hw (lv_sub hl [0, 1, 2, 3, 4] rfl) hf
noncomputable def m9_cue_44 (fl : Nat) (len : Nat → Nat) (X : Xm) (I : Im) : Option (Int32 × Im) :=
  some ((-1 : Int32), I)
set_option maxHeartbeats 4000000 in
set_option maxRecDepth 100000 in
theorem w9_cue_44 {p : Program} {l : Launch} {e : Env} {s : State} {m : MethodId} {args : Array Value} {below : List Frame} {meth : Method} {c : Code} {E : EN} {G : GM} {X : Xm} (C0 : CX p s m args meth c E cX9_cue RX9 6) (hr : meth.sig.returnType = (some .int)) (hz : s.heap.size + 0 ≤ eB E + G.1) {rr : Int32 × Im} (fl : Nat) : ∀ (I : Im) (H : Heap) (locs : List Loc) (ls : Array Slot) , WD E G I X s.heap H locs → lv_has ls 6 [] → m9_cue_44 fl G.2.2 X I = some rr → W p l e ({ frames := 3, cells := 0, slots := 0, locals := 64 } : Room) s m args below meth c H locs 0 0 (MQ below (QI E G rr.1 rr.2 X) args s 0 0 (eA E)) (F0 m 44 ls []) := by
  intro I H locs ls hw hl hf
  unfold m9_cue_44 at hf
  have hx := C0.1; have hb := C0.2.1; have hml := C0.2.2.1; have hown := C0.2.2.2.1; have hts := C0.2.2.2.2.1
  refine lv_iconst (v := (-1 : Int32)) hx hb dX9_cue_44 (by decide) ?_
  obtain rfl := Option.some.inj hf
  exact x_iret C0 hr hw dX9_cue_45
noncomputable def m9_cue_20 (fl : Nat) (len : Nat → Nat) (X : Xm) (I : Im) : Option (Int32 × Im) :=
  some ((-2 : Int32), I)
set_option maxHeartbeats 4000000 in
set_option maxRecDepth 100000 in
theorem w9_cue_20 {p : Program} {l : Launch} {e : Env} {s : State} {m : MethodId} {args : Array Value} {below : List Frame} {meth : Method} {c : Code} {E : EN} {G : GM} {X : Xm} (C0 : CX p s m args meth c E cX9_cue RX9 6) (hr : meth.sig.returnType = (some .int)) (hz : s.heap.size + 0 ≤ eB E + G.1) {rr : Int32 × Im} (fl : Nat) : ∀ (I : Im) (H : Heap) (locs : List Loc) (ls : Array Slot) , WD E G I X s.heap H locs → lv_has ls 6 [] → m9_cue_20 fl G.2.2 X I = some rr → W p l e ({ frames := 3, cells := 0, slots := 0, locals := 64 } : Room) s m args below meth c H locs 0 0 (MQ below (QI E G rr.1 rr.2 X) args s 0 0 (eA E)) (F0 m 20 ls []) := by
  intro I H locs ls hw hl hf
  unfold m9_cue_20 at hf
  have hx := C0.1; have hb := C0.2.1; have hml := C0.2.2.1; have hown := C0.2.2.2.1; have hts := C0.2.2.2.2.1
  refine lv_bipush (v := (-2 : Int32)) hx hb dX9_cue_20 (by decide) ?_
  obtain rfl := Option.some.inj hf
  exact x_iret C0 hr hw dX9_cue_22
noncomputable def m9_cue (fl : Nat) (len : Nat → Nat) (X : Xm) (I : Im) (zx0 : Nat) (zx1 : Int32) (zx2 : Int32) (zx3 : Int32) (zx4 : Int32) : Option (Int32 × Im) :=
  nn (m9_in fl len X I zx1 (0 : Int32) (999 : Int32)) fun zv1 =>
  if zv1 = 0 then
    m9_cue_20 fl len X I
  else
    nn (m9_in fl len X I zx2 (0 : Int32) (2 : Int32)) fun zv4 =>
    if zv4 = 0 then
      m9_cue_20 fl len X I
    else
      nn (m9_isReel fl len X I zx3) fun zv7 =>
      if zv7 = 0 then
        m9_cue_44 fl len X I
      else
        if zx2 = 0 then
          nn (m9_isSound fl len X I zx0 zx3 zx4) fun zv11 =>
          if zv11 = 0 then
            m9_cue_44 fl len X I
          else
            m9_cue_46 fl len X I zx0 zx1 zx2 zx3 zx4
        else
          m9_cue_46 fl len X I zx0 zx1 zx2 zx3 zx4
theorem hy9_cue : yX9_cue.cls = RX9 ∧ yX9_cue.cls ≠ "java/lang/invoke/MethodHandle" ∧ yX9_cue.cls ≠ "java/lang/invoke/VarHandle" ∧ (parseMethodDescriptor yX9_cue.desc).map (fun d => d.parameters.length) = some 4 := ⟨rfl, by decide +kernel, by decide +kernel, by decide +kernel⟩
set_option maxHeartbeats 4000000 in
set_option maxRecDepth 100000 in
theorem c9_cue (l : Launch) (E : EN) (G : GM) (fl : Nat) (X : Xm) (I : Im) (zx0 : Nat) (zx1 : Int32) (zx2 : Int32) (zx3 : Int32) (zx4 : Int32) (zt0 : okA E G 9 zx0) {rr : Int32 × Im} (hf : m9_cue fl G.2.2 X I zx0 zx1 zx2 zx3 zx4 = some rr) : MT l yX9_cue cX9_cue 6 (some .int) ({ frames := 3, cells := 0, slots := 0, locals := 64 } : Room) E G I X [.ref zx0, .int zx1, .int zx2, .int zx3, .int zx4] (QI E G rr.1 rr.2 X) 0 0 := by
  refine Met.ofW (cc := cX9_cue) (maxL := 6) (ret := (some .int)) (by decide +kernel) rfl ?_
  intro p e s m args below meth c s₁ B hml hv
  obtain ⟨rfl, hw0, hSE⟩ := hv
  have C0 : CX p s m ([.ref zx0, .int zx1, .int zx2, .int zx3, .int zx4] : List Value).toArray meth c E cX9_cue RX9 6 := ⟨B.exec, B.bytes, hml, findClass_of_methodNamed B.named, fun w hw => atoms_spec (ws := WS yX9_cue cX9_cue 6 (some .int)) B.pre w (List.mem_cons_of_mem _ hw), B.notSynchronized, hSE⟩
  have hz : s.heap.size + 0 ≤ eB E + G.1 := Nat.le_of_eq hw0.2.1
  have hw : WD E G I X s.heap s.heap [] := ⟨hw0, va_S.rf⟩
  have hr := B.returns
  have hx := C0.1; have hb := C0.2.1; have hml := C0.2.2.1; have hown := C0.2.2.2.1; have hts := C0.2.2.2.2.1
  have hl := lv_entry ([.ref zx0, .int zx1, .int zx2, .int zx3, .int zx4]) (n := 6) (Nat.le_of_ble_eq_true rfl)
  rw [lg_entry_eq]
  generalize (lg_sl ([.ref zx0, .int zx1, .int zx2, .int zx3, .int zx4]) ++ List.replicate (6 - (lg_sl ([.ref zx0, .int zx1, .int zx2, .int zx3, .int zx4])).length) Slot.unset).toArray = ls at hl ⊢
  have hl : lv_has ls 6 [(0, .ref zx0), (1, .int zx1), (2, .int zx2), (3, .int zx3), (4, .int zx4)] := hl
  unfold m9_cue at hf
  refine lv_iload_n hx hb dX9_cue_0 rfl (lv_at hl 1 rfl) ?_
  refine lv_iconst (v := (0 : Int32)) hx hb dX9_cue_1 (by decide) ?_
  refine lv_sipush (v := (999 : Int32)) hx hb dX9_cue_2 (by decide) ?_
  obtain ⟨zv1, ze2, hf⟩ := nn_some hf
  refine x_ci (r := zv1) (I1 := I) (X1 := X) (x_runS (As := [.int zx1, .int (0 : Int32), .int (999 : Int32)]) (rest := []) C0 (c9_in l E G fl X I zx1 (0 : Int32) (999 : Int32) ze2) hw wd113 wd610 wd611 wd612 ⟨rfl, rfl⟩ hy9_in ⟨Nat.le_of_ble_eq_true rfl, Nat.le_of_ble_eq_true rfl⟩ rfl hl.1 (Nat.le_of_ble_eq_true rfl) ⟨Nat.zero_le _, Nat.zero_le _⟩ dX9_cue_5) hw (fun H locs hw => ?_)
  refine lv_if_eq (tgt := 20) hx hb dX9_cue_8 (by decide) (fun zc3 => ?_) (fun zc3 => ?_)
  · have hf := ite_t hf zc3
    exact w9_cue_20 C0 hr hz fl I _ _ _ hw (lv_sub hl [] rfl) hf
  · have hf := ite_f hf zc3
    refine lv_iload_n hx hb dX9_cue_11 rfl (lv_at hl 2 rfl) ?_
    refine lv_iconst (v := (0 : Int32)) hx hb dX9_cue_12 (by decide) ?_
    refine lv_iconst (v := (2 : Int32)) hx hb dX9_cue_13 (by decide) ?_
    obtain ⟨zv4, ze5, hf⟩ := nn_some hf
    refine x_ci (r := zv4) (I1 := I) (X1 := X) (x_runS (As := [.int zx2, .int (0 : Int32), .int (2 : Int32)]) (rest := []) C0 (c9_in l E G fl X I zx2 (0 : Int32) (2 : Int32) ze5) hw wd113 wd610 wd611 wd612 ⟨rfl, rfl⟩ hy9_in ⟨Nat.le_of_ble_eq_true rfl, Nat.le_of_ble_eq_true rfl⟩ rfl hl.1 (Nat.le_of_ble_eq_true rfl) ⟨Nat.zero_le _, Nat.zero_le _⟩ dX9_cue_14) hw (fun H locs hw => ?_)
    refine lv_if_ne (tgt := 23) hx hb dX9_cue_17 (by decide) (fun zc6 => ?_) (fun zc6 => ?_)
    · have hf := ite_f hf zc6
      refine lv_iload_n hx hb dX9_cue_23 rfl (lv_at hl 3 rfl) ?_
      obtain ⟨zv7, ze8, hf⟩ := nn_some hf
      refine x_ci (r := zv7) (I1 := I) (X1 := X) (x_runS (As := [.int zx3]) (rest := []) C0 (c9_isReel l E G fl X I zx3 ze8) hw wd123 wd613 wd614 wd612 ⟨rfl, rfl⟩ hy9_isReel ⟨Nat.le_of_ble_eq_true rfl, Nat.le_of_ble_eq_true rfl⟩ rfl hl.1 (Nat.le_of_ble_eq_true rfl) ⟨Nat.zero_le _, Nat.zero_le _⟩ dX9_cue_24) hw (fun H locs hw => ?_)
      refine lv_if_eq (tgt := 44) hx hb dX9_cue_27 (by decide) (fun zc9 => ?_) (fun zc9 => ?_)
      · have hf := ite_t hf zc9
        exact w9_cue_44 C0 hr hz fl I _ _ _ hw (lv_sub hl [] rfl) hf
      · have hf := ite_f hf zc9
        refine lv_iload_n hx hb dX9_cue_30 rfl (lv_at hl 2 rfl) ?_
        refine lv_if_ne (tgt := 46) hx hb dX9_cue_31 (by decide) (fun zc10 => ?_) (fun zc10 => ?_)
        · have hf := ite_f hf zc10
          exact w9_cue_46 C0 hr hz fl I _ _ _ zx0 zx1 zx2 zx3 zx4 zt0 hw (lv_sub hl [0, 1, 2, 3, 4] rfl) hf
        · have hf := ite_t hf zc10
          refine lv_aload_n hx hb dX9_cue_34 rfl (lv_at hl 0 rfl) ?_
          refine lv_iload_n hx hb dX9_cue_35 rfl (lv_at hl 3 rfl) ?_
          refine lv_iload hx hb dX9_cue_36 (lv_at hl 4 rfl) ?_
          obtain ⟨zv11, ze12, hf⟩ := nn_some hf
          refine x_ci (r := zv11) (I1 := I) (X1 := X) (x_runV (As := [.int zx3, .int zx4]) (rest := []) C0 (c9_isSound l E G fl X I zx0 zx3 zx4 zt0 ze12) hw 9 zt0 (by decide) rfl wd124 wd665 wd666 wd667 wd612 ⟨rfl, rfl⟩ hy9_isSound ⟨Nat.le_of_ble_eq_true rfl, Nat.le_of_ble_eq_true rfl⟩ rfl hl.1 (Nat.le_of_ble_eq_true rfl) ⟨Nat.zero_le _, Nat.zero_le _⟩ dX9_cue_38) hw (fun H locs hw => ?_)
          refine lv_if_ne (tgt := 46) hx hb dX9_cue_41 (by decide) (fun zc13 => ?_) (fun zc13 => ?_)
          · have hf := ite_f hf zc13
            exact w9_cue_46 C0 hr hz fl I _ _ _ zx0 zx1 zx2 zx3 zx4 zt0 hw (lv_sub hl [0, 1, 2, 3, 4] rfl) hf
          · have hf := ite_t hf zc13
            exact w9_cue_44 C0 hr hz fl I _ _ _ hw (lv_sub hl [] rfl) hf
    · have hf := ite_t hf zc6
      exact w9_cue_20 C0 hr hz fl I _ _ _ hw (lv_sub hl [] rfl) hf
noncomputable def m9_takeOut (fl : Nat) (len : Nat → Nat) (X : Xm) (I : Im) (zx0 : Nat) (zx1 : Int32) : Option (Int32 × Im) :=
  nn (m9_isCue fl len X I zx0 zx1) fun zv1 =>
  if zv1 = 0 then
    some ((-1 : Int32), I)
  else
    nn (m9_of fl len X I zx0 zx1 (4 : Int32)) fun zv4 =>
    if zv4 = 0 then
      nn (m9_changes fl len X I zx0) fun zI7 =>
      nn (m9_closes fl len X zI7 zx0 zx1) fun zI9 =>
      nn (gR X 144 zx0) fun zv11 =>
      ck (inb (5 : Int32) (len zv11) = true) <|
      some ((gA zI9 zv11 ((5 : Int32)).toNatClampNeg), zI9)
    else
      some ((-5 : Int32), I)
theorem hy9_takeOut : yX9_takeOut.cls = RX9 ∧ yX9_takeOut.cls ≠ "java/lang/invoke/MethodHandle" ∧ yX9_takeOut.cls ≠ "java/lang/invoke/VarHandle" ∧ (parseMethodDescriptor yX9_takeOut.desc).map (fun d => d.parameters.length) = some 1 := ⟨rfl, by decide +kernel, by decide +kernel, by decide +kernel⟩
set_option maxHeartbeats 4000000 in
set_option maxRecDepth 100000 in
theorem c9_takeOut (l : Launch) (E : EN) (G : GM) (fl : Nat) (X : Xm) (I : Im) (zx0 : Nat) (zx1 : Int32) (zt0 : okA E G 9 zx0) {rr : Int32 × Im} (hf : m9_takeOut fl G.2.2 X I zx0 zx1 = some rr) : MT l yX9_takeOut cX9_takeOut 2 (some .int) ({ frames := 2, cells := 0, slots := 0, locals := 43 } : Room) E G I X [.ref zx0, .int zx1] (QI E G rr.1 rr.2 X) 0 0 := by
  refine Met.ofW (cc := cX9_takeOut) (maxL := 2) (ret := (some .int)) (by decide +kernel) rfl ?_
  intro p e s m args below meth c s₁ B hml hv
  obtain ⟨rfl, hw0, hSE⟩ := hv
  have C0 : CX p s m ([.ref zx0, .int zx1] : List Value).toArray meth c E cX9_takeOut RX9 2 := ⟨B.exec, B.bytes, hml, findClass_of_methodNamed B.named, fun w hw => atoms_spec (ws := WS yX9_takeOut cX9_takeOut 2 (some .int)) B.pre w (List.mem_cons_of_mem _ hw), B.notSynchronized, hSE⟩
  have hz : s.heap.size + 0 ≤ eB E + G.1 := Nat.le_of_eq hw0.2.1
  have hw : WD E G I X s.heap s.heap [] := ⟨hw0, va_S.rf⟩
  have hr := B.returns
  have hx := C0.1; have hb := C0.2.1; have hml := C0.2.2.1; have hown := C0.2.2.2.1; have hts := C0.2.2.2.2.1
  have hl := lv_entry ([.ref zx0, .int zx1]) (n := 2) (Nat.le_of_ble_eq_true rfl)
  rw [lg_entry_eq]
  generalize (lg_sl ([.ref zx0, .int zx1]) ++ List.replicate (2 - (lg_sl ([.ref zx0, .int zx1])).length) Slot.unset).toArray = ls at hl ⊢
  have hl : lv_has ls 2 [(0, .ref zx0), (1, .int zx1)] := hl
  unfold m9_takeOut at hf
  refine lv_aload_n hx hb dX9_takeOut_0 rfl (lv_at hl 0 rfl) ?_
  refine lv_iload_n hx hb dX9_takeOut_1 rfl (lv_at hl 1 rfl) ?_
  obtain ⟨zv1, ze2, hf⟩ := nn_some hf
  refine x_ci (r := zv1) (I1 := I) (X1 := X) (x_runV (As := [.int zx1]) (rest := []) C0 (c9_isCue l E G fl X I zx0 zx1 zt0 ze2) hw 9 zt0 (by decide) rfl wd122 wd671 wd672 wd673 wd612 ⟨rfl, rfl⟩ hy9_isCue ⟨Nat.le_of_ble_eq_true rfl, Nat.le_of_ble_eq_true rfl⟩ rfl hl.1 (Nat.le_of_ble_eq_true rfl) ⟨Nat.zero_le _, Nat.zero_le _⟩ dX9_takeOut_2) hw (fun H locs hw => ?_)
  refine lv_if_ne (tgt := 10) hx hb dX9_takeOut_5 (by decide) (fun zc3 => ?_) (fun zc3 => ?_)
  · have hf := ite_f hf zc3
    refine lv_aload_n hx hb dX9_takeOut_10 rfl (lv_at hl 0 rfl) ?_
    refine lv_iload_n hx hb dX9_takeOut_11 rfl (lv_at hl 1 rfl) ?_
    refine lv_iconst (v := (4 : Int32)) hx hb dX9_takeOut_12 (by decide) ?_
    obtain ⟨zv4, ze5, hf⟩ := nn_some hf
    refine x_ci (r := zv4) (I1 := I) (X1 := X) (x_runV (As := [.int zx1, .int (4 : Int32)]) (rest := []) C0 (c9_of l E G fl X I zx0 zx1 (4 : Int32) zt0 ze5) hw 9 zt0 (by decide) rfl wd117 wd623 wd624 wd625 wd612 ⟨rfl, rfl⟩ hy9_of ⟨Nat.le_of_ble_eq_true rfl, Nat.le_of_ble_eq_true rfl⟩ rfl hl.1 (Nat.le_of_ble_eq_true rfl) ⟨Nat.zero_le _, Nat.zero_le _⟩ dX9_takeOut_13) hw (fun H locs hw => ?_)
    refine lv_if_eq (tgt := 22) hx hb dX9_takeOut_16 (by decide) (fun zc6 => ?_) (fun zc6 => ?_)
    · have hf := ite_t hf zc6
      refine lv_aload_n hx hb dX9_takeOut_22 rfl (lv_at hl 0 rfl) ?_
      obtain ⟨zI7, ze8, hf⟩ := nn_some hf
      refine x_cv (I1 := zI7) (X1 := X) (x_runV (As := []) (rest := []) C0 (c9_changes l E G fl X I zx0 zt0 ze8) hw 9 zt0 (by decide) rfl wd114 wd662 wd663 wd664 wd612 ⟨rfl, rfl⟩ hy9_changes ⟨Nat.le_of_ble_eq_true rfl, Nat.le_of_ble_eq_true rfl⟩ rfl hl.1 (Nat.le_of_ble_eq_true rfl) ⟨Nat.zero_le _, Nat.zero_le _⟩ dX9_takeOut_23) hw (fun H locs hw => ?_)
      refine lv_aload_n hx hb dX9_takeOut_26 rfl (lv_at hl 0 rfl) ?_
      refine lv_iload_n hx hb dX9_takeOut_27 rfl (lv_at hl 1 rfl) ?_
      obtain ⟨zI9, ze10, hf⟩ := nn_some hf
      refine x_cv (I1 := zI9) (X1 := X) (x_runV (As := [.int zx1]) (rest := []) C0 (c9_closes l E G fl X zI7 zx0 zx1 zt0 ze10) hw 9 zt0 (by decide) rfl wd141 wd674 wd675 wd676 wd612 ⟨rfl, rfl⟩ hy9_closes ⟨Nat.le_of_ble_eq_true rfl, Nat.le_of_ble_eq_true rfl⟩ rfl hl.1 (Nat.le_of_ble_eq_true rfl) ⟨Nat.zero_le _, Nat.zero_le _⟩ dX9_takeOut_28) hw (fun H locs hw => ?_)
      refine lv_aload_n hx hb dX9_takeOut_31 rfl (lv_at hl 0 rfl) ?_
      obtain ⟨zv11, ezv11, hf⟩ := nn_some hf
      have tzv11 : okA E G 11 zv11 := wt_r hw ezv11
      refine xg_9_0 C0 hw zt0 wd601 ezv11 dX9_takeOut_32 ?_
      refine lv_iconst (v := (5 : Int32)) hx hb dX9_takeOut_35 (by decide) ?_
      obtain ⟨zhb12, hf⟩ := ck_some hf
      refine x_iald C0 hw tzv11 zhb12 dX9_takeOut_36 ?_
      obtain rfl := Option.some.inj hf
      exact x_iret C0 hr hw dX9_takeOut_37
    · have hf := ite_f hf zc6
      refine lv_bipush (v := (-5 : Int32)) hx hb dX9_takeOut_19 (by decide) ?_
      obtain rfl := Option.some.inj hf
      exact x_iret C0 hr hw dX9_takeOut_21
  · have hf := ite_t hf zc3
    refine lv_iconst (v := (-1 : Int32)) hx hb dX9_takeOut_8 (by decide) ?_
    obtain rfl := Option.some.inj hf
    exact x_iret C0 hr hw dX9_takeOut_9
noncomputable def m9_whyNotMoved_49 (fl : Nat) (len : Nat → Nat) (X : Xm) (I : Im) (zs0 : Int32) : Option (Int32) :=
  some (zs0)
set_option maxHeartbeats 4000000 in
set_option maxRecDepth 100000 in
theorem w9_whyNotMoved_49 {p : Program} {l : Launch} {e : Env} {s : State} {m : MethodId} {args : Array Value} {below : List Frame} {meth : Method} {c : Code} {E : EN} {G : GM} {X : Xm} {I : Im} (C0 : CX p s m args meth c E cX9_whyNotMoved RX9 3) (hr : meth.sig.returnType = (some .int)) (hz : s.heap.size + 0 ≤ eB E + G.1) {rr : Int32} (fl : Nat) : ∀ (H : Heap) (locs : List Loc) (ls : Array Slot) (zs0 : Int32) , WD E G I X s.heap H locs → lv_has ls 3 [] → m9_whyNotMoved_49 fl G.2.2 X I zs0 = some rr → W p l e ({ frames := 2, cells := 0, slots := 0, locals := 43 } : Room) s m args below meth c H locs 0 0 (MQ below (QI E G rr I X) args s 0 0 (eA E)) (F0 m 49 ls [.int zs0]) := by
  intro H locs ls zs0 hw hl hf
  unfold m9_whyNotMoved_49 at hf
  have hx := C0.1; have hb := C0.2.1; have hml := C0.2.2.1; have hown := C0.2.2.2.1; have hts := C0.2.2.2.2.1
  obtain rfl := Option.some.inj hf
  exact x_iret C0 hr hw dX9_whyNotMoved_49
noncomputable def m9_whyNotMoved_43 (fl : Nat) (len : Nat → Nat) (X : Xm) (I : Im) : Option (Int32) :=
  m9_whyNotMoved_49 fl len X I (-5 : Int32)
set_option maxHeartbeats 4000000 in
set_option maxRecDepth 100000 in
theorem w9_whyNotMoved_43 {p : Program} {l : Launch} {e : Env} {s : State} {m : MethodId} {args : Array Value} {below : List Frame} {meth : Method} {c : Code} {E : EN} {G : GM} {X : Xm} {I : Im} (C0 : CX p s m args meth c E cX9_whyNotMoved RX9 3) (hr : meth.sig.returnType = (some .int)) (hz : s.heap.size + 0 ≤ eB E + G.1) {rr : Int32} (fl : Nat) : ∀ (H : Heap) (locs : List Loc) (ls : Array Slot) , WD E G I X s.heap H locs → lv_has ls 3 [] → m9_whyNotMoved_43 fl G.2.2 X I = some rr → W p l e ({ frames := 2, cells := 0, slots := 0, locals := 43 } : Room) s m args below meth c H locs 0 0 (MQ below (QI E G rr I X) args s 0 0 (eA E)) (F0 m 43 ls []) := by
  intro H locs ls hw hl hf
  unfold m9_whyNotMoved_43 at hf
  have hx := C0.1; have hb := C0.2.1; have hml := C0.2.2.1; have hown := C0.2.2.2.1; have hts := C0.2.2.2.2.1
  refine lv_bipush (v := (-5 : Int32)) hx hb dX9_whyNotMoved_43 (by decide) ?_
  refine lv_goto (tgt := 49) hx hb dX9_whyNotMoved_45 (by decide) ?_
  exact w9_whyNotMoved_49 C0 hr hz fl _ _ _ (-5 : Int32) hw (lv_sub hl [] rfl) hf
noncomputable def m9_whyNotMoved (fl : Nat) (len : Nat → Nat) (X : Xm) (I : Im) (zx0 : Nat) (zx1 : Int32) (zx2 : Int32) : Option (Int32) :=
  nn (m9_isCue fl len X I zx0 zx1) fun zv1 =>
  if zv1 = 0 then
    some ((-1 : Int32))
  else
    nn (m9_in fl len X I zx2 (0 : Int32) (999 : Int32)) fun zv4 =>
    if zv4 = 0 then
      some ((-2 : Int32))
    else
      nn (m9_of fl len X I zx0 zx1 (4 : Int32)) fun zv7 =>
      if zv7 = 0 then
        nn (gR X 144 zx0) fun zv10 =>
        ck (inb (4 : Int32) (len zv10) = true) <|
        if (gA I zv10 ((4 : Int32)).toNatClampNeg) ≤ zx2 then
          m9_whyNotMoved_49 fl len X I (0 : Int32)
        else
          m9_whyNotMoved_43 fl len X I 
      else
        m9_whyNotMoved_43 fl len X I 
theorem hy9_whyNotMoved : yX9_whyNotMoved.cls = RX9 ∧ yX9_whyNotMoved.cls ≠ "java/lang/invoke/MethodHandle" ∧ yX9_whyNotMoved.cls ≠ "java/lang/invoke/VarHandle" ∧ (parseMethodDescriptor yX9_whyNotMoved.desc).map (fun d => d.parameters.length) = some 2 := ⟨rfl, by decide +kernel, by decide +kernel, by decide +kernel⟩
set_option maxHeartbeats 4000000 in
set_option maxRecDepth 100000 in
theorem c9_whyNotMoved (l : Launch) (E : EN) (G : GM) (fl : Nat) (X : Xm) (I : Im) (zx0 : Nat) (zx1 : Int32) (zx2 : Int32) (zt0 : okA E G 9 zx0) {rr : Int32} (hf : m9_whyNotMoved fl G.2.2 X I zx0 zx1 zx2 = some rr) : MT l yX9_whyNotMoved cX9_whyNotMoved 3 (some .int) ({ frames := 2, cells := 0, slots := 0, locals := 43 } : Room) E G I X [.ref zx0, .int zx1, .int zx2] (QI E G rr I X) 0 0 := by
  refine Met.ofW (cc := cX9_whyNotMoved) (maxL := 3) (ret := (some .int)) (by decide +kernel) rfl ?_
  intro p e s m args below meth c s₁ B hml hv
  obtain ⟨rfl, hw0, hSE⟩ := hv
  have C0 : CX p s m ([.ref zx0, .int zx1, .int zx2] : List Value).toArray meth c E cX9_whyNotMoved RX9 3 := ⟨B.exec, B.bytes, hml, findClass_of_methodNamed B.named, fun w hw => atoms_spec (ws := WS yX9_whyNotMoved cX9_whyNotMoved 3 (some .int)) B.pre w (List.mem_cons_of_mem _ hw), B.notSynchronized, hSE⟩
  have hz : s.heap.size + 0 ≤ eB E + G.1 := Nat.le_of_eq hw0.2.1
  have hw : WD E G I X s.heap s.heap [] := ⟨hw0, va_S.rf⟩
  have hr := B.returns
  have hx := C0.1; have hb := C0.2.1; have hml := C0.2.2.1; have hown := C0.2.2.2.1; have hts := C0.2.2.2.2.1
  have hl := lv_entry ([.ref zx0, .int zx1, .int zx2]) (n := 3) (Nat.le_of_ble_eq_true rfl)
  rw [lg_entry_eq]
  generalize (lg_sl ([.ref zx0, .int zx1, .int zx2]) ++ List.replicate (3 - (lg_sl ([.ref zx0, .int zx1, .int zx2])).length) Slot.unset).toArray = ls at hl ⊢
  have hl : lv_has ls 3 [(0, .ref zx0), (1, .int zx1), (2, .int zx2)] := hl
  unfold m9_whyNotMoved at hf
  refine lv_aload_n hx hb dX9_whyNotMoved_0 rfl (lv_at hl 0 rfl) ?_
  refine lv_iload_n hx hb dX9_whyNotMoved_1 rfl (lv_at hl 1 rfl) ?_
  obtain ⟨zv1, ze2, hf⟩ := nn_some hf
  refine x_ci (r := zv1) (I1 := I) (X1 := X) (x_runV (As := [.int zx1]) (rest := []) C0 (c9_isCue l E G fl X I zx0 zx1 zt0 ze2) hw 9 zt0 (by decide) rfl wd122 wd671 wd672 wd673 wd612 ⟨rfl, rfl⟩ hy9_isCue ⟨Nat.le_of_ble_eq_true rfl, Nat.le_of_ble_eq_true rfl⟩ rfl hl.1 (Nat.le_of_ble_eq_true rfl) ⟨Nat.zero_le _, Nat.zero_le _⟩ dX9_whyNotMoved_2) hw (fun H locs hw => ?_)
  refine lv_if_ne (tgt := 10) hx hb dX9_whyNotMoved_5 (by decide) (fun zc3 => ?_) (fun zc3 => ?_)
  · have hf := ite_f hf zc3
    refine lv_iload_n hx hb dX9_whyNotMoved_10 rfl (lv_at hl 2 rfl) ?_
    refine lv_iconst (v := (0 : Int32)) hx hb dX9_whyNotMoved_11 (by decide) ?_
    refine lv_sipush (v := (999 : Int32)) hx hb dX9_whyNotMoved_12 (by decide) ?_
    obtain ⟨zv4, ze5, hf⟩ := nn_some hf
    refine x_ci (r := zv4) (I1 := I) (X1 := X) (x_runS (As := [.int zx2, .int (0 : Int32), .int (999 : Int32)]) (rest := []) C0 (c9_in l E G fl X I zx2 (0 : Int32) (999 : Int32) ze5) hw wd113 wd610 wd611 wd612 ⟨rfl, rfl⟩ hy9_in ⟨Nat.le_of_ble_eq_true rfl, Nat.le_of_ble_eq_true rfl⟩ rfl hl.1 (Nat.le_of_ble_eq_true rfl) ⟨Nat.zero_le _, Nat.zero_le _⟩ dX9_whyNotMoved_15) hw (fun H locs hw => ?_)
    refine lv_if_ne (tgt := 24) hx hb dX9_whyNotMoved_18 (by decide) (fun zc6 => ?_) (fun zc6 => ?_)
    · have hf := ite_f hf zc6
      refine lv_aload_n hx hb dX9_whyNotMoved_24 rfl (lv_at hl 0 rfl) ?_
      refine lv_iload_n hx hb dX9_whyNotMoved_25 rfl (lv_at hl 1 rfl) ?_
      refine lv_iconst (v := (4 : Int32)) hx hb dX9_whyNotMoved_26 (by decide) ?_
      obtain ⟨zv7, ze8, hf⟩ := nn_some hf
      refine x_ci (r := zv7) (I1 := I) (X1 := X) (x_runV (As := [.int zx1, .int (4 : Int32)]) (rest := []) C0 (c9_of l E G fl X I zx0 zx1 (4 : Int32) zt0 ze8) hw 9 zt0 (by decide) rfl wd117 wd623 wd624 wd625 wd612 ⟨rfl, rfl⟩ hy9_of ⟨Nat.le_of_ble_eq_true rfl, Nat.le_of_ble_eq_true rfl⟩ rfl hl.1 (Nat.le_of_ble_eq_true rfl) ⟨Nat.zero_le _, Nat.zero_le _⟩ dX9_whyNotMoved_27) hw (fun H locs hw => ?_)
      refine lv_if_ne (tgt := 43) hx hb dX9_whyNotMoved_30 (by decide) (fun zc9 => ?_) (fun zc9 => ?_)
      · have hf := ite_f hf zc9
        exact w9_whyNotMoved_43 C0 hr hz fl _ _ _ hw (lv_sub hl [] rfl) hf
      · have hf := ite_t hf zc9
        refine lv_iload_n hx hb dX9_whyNotMoved_33 rfl (lv_at hl 2 rfl) ?_
        refine lv_aload_n hx hb dX9_whyNotMoved_34 rfl (lv_at hl 0 rfl) ?_
        obtain ⟨zv10, ezv10, hf⟩ := nn_some hf
        have tzv10 : okA E G 11 zv10 := wt_r hw ezv10
        refine xg_9_0 C0 hw zt0 wd601 ezv10 dX9_whyNotMoved_35 ?_
        refine lv_iconst (v := (4 : Int32)) hx hb dX9_whyNotMoved_38 (by decide) ?_
        obtain ⟨zhb11, hf⟩ := ck_some hf
        refine x_iald C0 hw tzv10 zhb11 dX9_whyNotMoved_39 ?_
        refine lv_icmp_ge (tgt := 48) hx hb dX9_whyNotMoved_40 (by decide) (fun zc12 => ?_) (fun zc12 => ?_)
        · have hf := ite_t hf zc12
          refine lv_iconst (v := (0 : Int32)) hx hb dX9_whyNotMoved_48 (by decide) ?_
          exact w9_whyNotMoved_49 C0 hr hz fl _ _ _ (0 : Int32) hw (lv_sub hl [] rfl) hf
        · have hf := ite_f hf zc12
          exact w9_whyNotMoved_43 C0 hr hz fl _ _ _ hw (lv_sub hl [] rfl) hf
    · have hf := ite_t hf zc6
      refine lv_bipush (v := (-2 : Int32)) hx hb dX9_whyNotMoved_21 (by decide) ?_
      obtain rfl := Option.some.inj hf
      exact x_iret C0 hr hw dX9_whyNotMoved_23
  · have hf := ite_t hf zc3
    refine lv_iconst (v := (-1 : Int32)) hx hb dX9_whyNotMoved_8 (by decide) ?_
    obtain rfl := Option.some.inj hf
    exact x_iret C0 hr hw dX9_whyNotMoved_9
noncomputable def m9_moves (fl : Nat) (len : Nat → Nat) (X : Xm) (I : Im) (zx0 : Nat) (zx1 : Int32) (zx2 : Int32) : Option (Int32 × Im) :=
  nn (m9_of fl len X I zx0 zx1 (1 : Int32)) fun zv1 =>
  nn (m9_of fl len X I zx0 zx1 (2 : Int32)) fun zv3 =>
  nn (m9_of fl len X I zx0 zx1 (3 : Int32)) fun zv5 =>
  nn (m9_closes fl len X I zx0 zx1) fun zI7 =>
  nn (m9_opens fl len X zI7 zx0 zx2) fun ⟨zv9, zI10⟩ =>
  nn (m9_lay fl len X zI10 zx0 zv9 (0 : Int32) zx2) fun zI12 =>
  nn (m9_lay fl len X zI12 zx0 zv9 (1 : Int32) zv1) fun zI14 =>
  nn (m9_lay fl len X zI14 zx0 zv9 (2 : Int32) zv3) fun zI16 =>
  nn (m9_lay fl len X zI16 zx0 zv9 (3 : Int32) zv5) fun zI18 =>
  nn (m9_lay fl len X zI18 zx0 zv9 (4 : Int32) (0 : Int32)) fun zI20 =>
  some (zv9, zI20)
theorem hy9_moves : yX9_moves.cls = RX9 ∧ yX9_moves.cls ≠ "java/lang/invoke/MethodHandle" ∧ yX9_moves.cls ≠ "java/lang/invoke/VarHandle" ∧ (parseMethodDescriptor yX9_moves.desc).map (fun d => d.parameters.length) = some 2 := ⟨rfl, by decide +kernel, by decide +kernel, by decide +kernel⟩
set_option maxHeartbeats 4000000 in
set_option maxRecDepth 100000 in
theorem c9_moves (l : Launch) (E : EN) (G : GM) (fl : Nat) (X : Xm) (I : Im) (zx0 : Nat) (zx1 : Int32) (zx2 : Int32) (zt0 : okA E G 9 zx0) {rr : Int32 × Im} (hf : m9_moves fl G.2.2 X I zx0 zx1 zx2 = some rr) : MT l yX9_moves cX9_moves 7 (some .int) ({ frames := 2, cells := 0, slots := 0, locals := 45 } : Room) E G I X [.ref zx0, .int zx1, .int zx2] (QI E G rr.1 rr.2 X) 0 0 := by
  refine Met.ofW (cc := cX9_moves) (maxL := 7) (ret := (some .int)) (by decide +kernel) rfl ?_
  intro p e s m args below meth c s₁ B hml hv
  obtain ⟨rfl, hw0, hSE⟩ := hv
  have C0 : CX p s m ([.ref zx0, .int zx1, .int zx2] : List Value).toArray meth c E cX9_moves RX9 7 := ⟨B.exec, B.bytes, hml, findClass_of_methodNamed B.named, fun w hw => atoms_spec (ws := WS yX9_moves cX9_moves 7 (some .int)) B.pre w (List.mem_cons_of_mem _ hw), B.notSynchronized, hSE⟩
  have hz : s.heap.size + 0 ≤ eB E + G.1 := Nat.le_of_eq hw0.2.1
  have hw : WD E G I X s.heap s.heap [] := ⟨hw0, va_S.rf⟩
  have hr := B.returns
  have hx := C0.1; have hb := C0.2.1; have hml := C0.2.2.1; have hown := C0.2.2.2.1; have hts := C0.2.2.2.2.1
  have hl := lv_entry ([.ref zx0, .int zx1, .int zx2]) (n := 7) (Nat.le_of_ble_eq_true rfl)
  rw [lg_entry_eq]
  generalize (lg_sl ([.ref zx0, .int zx1, .int zx2]) ++ List.replicate (7 - (lg_sl ([.ref zx0, .int zx1, .int zx2])).length) Slot.unset).toArray = ls at hl ⊢
  have hl : lv_has ls 7 [(0, .ref zx0), (1, .int zx1), (2, .int zx2)] := hl
  unfold m9_moves at hf
  refine lv_aload_n hx hb dX9_moves_0 rfl (lv_at hl 0 rfl) ?_
  refine lv_iload_n hx hb dX9_moves_1 rfl (lv_at hl 1 rfl) ?_
  refine lv_iconst (v := (1 : Int32)) hx hb dX9_moves_2 (by decide) ?_
  obtain ⟨zv1, ze2, hf⟩ := nn_some hf
  refine x_ci (r := zv1) (I1 := I) (X1 := X) (x_runV (As := [.int zx1, .int (1 : Int32)]) (rest := []) C0 (c9_of l E G fl X I zx0 zx1 (1 : Int32) zt0 ze2) hw 9 zt0 (by decide) rfl wd117 wd623 wd624 wd625 wd612 ⟨rfl, rfl⟩ hy9_of ⟨Nat.le_of_ble_eq_true rfl, Nat.le_of_ble_eq_true rfl⟩ rfl hl.1 (Nat.le_of_ble_eq_true rfl) ⟨Nat.zero_le _, Nat.zero_le _⟩ dX9_moves_3) hw (fun H locs hw => ?_)
  refine lv_istore_n (lv' := [(3, .int zv1), (0, .ref zx0), (1, .int zx1), (2, .int zx2)]) hx hb dX9_moves_6 rfl hl (by decide) rfl (fun ls hl => ?_)
  refine lv_aload_n hx hb dX9_moves_7 rfl (lv_at hl 1 rfl) ?_
  refine lv_iload_n hx hb dX9_moves_8 rfl (lv_at hl 2 rfl) ?_
  refine lv_iconst (v := (2 : Int32)) hx hb dX9_moves_9 (by decide) ?_
  obtain ⟨zv3, ze4, hf⟩ := nn_some hf
  refine x_ci (r := zv3) (I1 := I) (X1 := X) (x_runV (As := [.int zx1, .int (2 : Int32)]) (rest := []) C0 (c9_of l E G fl X I zx0 zx1 (2 : Int32) zt0 ze4) hw 9 zt0 (by decide) rfl wd117 wd623 wd624 wd625 wd612 ⟨rfl, rfl⟩ hy9_of ⟨Nat.le_of_ble_eq_true rfl, Nat.le_of_ble_eq_true rfl⟩ rfl hl.1 (Nat.le_of_ble_eq_true rfl) ⟨Nat.zero_le _, Nat.zero_le _⟩ dX9_moves_10) hw (fun H locs hw => ?_)
  refine lv_istore (lv' := [(4, .int zv3), (3, .int zv1), (0, .ref zx0), (1, .int zx1), (2, .int zx2)]) hx hb dX9_moves_13 hl (by decide) rfl (fun ls hl => ?_)
  refine lv_aload_n hx hb dX9_moves_15 rfl (lv_at hl 2 rfl) ?_
  refine lv_iload_n hx hb dX9_moves_16 rfl (lv_at hl 3 rfl) ?_
  refine lv_iconst (v := (3 : Int32)) hx hb dX9_moves_17 (by decide) ?_
  obtain ⟨zv5, ze6, hf⟩ := nn_some hf
  refine x_ci (r := zv5) (I1 := I) (X1 := X) (x_runV (As := [.int zx1, .int (3 : Int32)]) (rest := []) C0 (c9_of l E G fl X I zx0 zx1 (3 : Int32) zt0 ze6) hw 9 zt0 (by decide) rfl wd117 wd623 wd624 wd625 wd612 ⟨rfl, rfl⟩ hy9_of ⟨Nat.le_of_ble_eq_true rfl, Nat.le_of_ble_eq_true rfl⟩ rfl hl.1 (Nat.le_of_ble_eq_true rfl) ⟨Nat.zero_le _, Nat.zero_le _⟩ dX9_moves_18) hw (fun H locs hw => ?_)
  refine lv_istore (lv' := [(5, .int zv5), (4, .int zv3), (3, .int zv1), (0, .ref zx0), (1, .int zx1), (2, .int zx2)]) hx hb dX9_moves_21 hl (by decide) rfl (fun ls hl => ?_)
  refine lv_aload_n hx hb dX9_moves_23 rfl (lv_at hl 3 rfl) ?_
  refine lv_iload_n hx hb dX9_moves_24 rfl (lv_at hl 4 rfl) ?_
  obtain ⟨zI7, ze8, hf⟩ := nn_some hf
  refine x_cv (I1 := zI7) (X1 := X) (x_runV (As := [.int zx1]) (rest := []) C0 (c9_closes l E G fl X I zx0 zx1 zt0 ze8) hw 9 zt0 (by decide) rfl wd141 wd674 wd675 wd676 wd612 ⟨rfl, rfl⟩ hy9_closes ⟨Nat.le_of_ble_eq_true rfl, Nat.le_of_ble_eq_true rfl⟩ rfl hl.1 (Nat.le_of_ble_eq_true rfl) ⟨Nat.zero_le _, Nat.zero_le _⟩ dX9_moves_25) hw (fun H locs hw => ?_)
  refine lv_aload_n hx hb dX9_moves_28 rfl (lv_at hl 3 rfl) ?_
  refine lv_iload_n hx hb dX9_moves_29 rfl (lv_at hl 5 rfl) ?_
  obtain ⟨⟨zv9, zI10⟩, ze11, hf⟩ := nn_some hf
  refine x_ci (r := zv9) (I1 := zI10) (X1 := X) (x_runV (As := [.int zx2]) (rest := []) C0 (c9_opens l E G fl X zI7 zx0 zx2 zt0 ze11) hw 9 zt0 (by decide) rfl wd140 wd668 wd669 wd670 wd612 ⟨rfl, rfl⟩ hy9_opens ⟨Nat.le_of_ble_eq_true rfl, Nat.le_of_ble_eq_true rfl⟩ rfl hl.1 (Nat.le_of_ble_eq_true rfl) ⟨Nat.zero_le _, Nat.zero_le _⟩ dX9_moves_30) hw (fun H locs hw => ?_)
  refine lv_istore (lv' := [(6, .int zv9), (5, .int zv5), (4, .int zv3), (3, .int zv1), (0, .ref zx0), (1, .int zx1), (2, .int zx2)]) hx hb dX9_moves_33 hl (by decide) rfl (fun ls hl => ?_)
  refine lv_aload_n hx hb dX9_moves_35 rfl (lv_at hl 4 rfl) ?_
  refine lv_iload hx hb dX9_moves_36 (lv_at hl 0 rfl) ?_
  refine lv_iconst (v := (0 : Int32)) hx hb dX9_moves_38 (by decide) ?_
  refine lv_iload_n hx hb dX9_moves_39 rfl (lv_at hl 6 rfl) ?_
  obtain ⟨zI12, ze13, hf⟩ := nn_some hf
  refine x_cv (I1 := zI12) (X1 := X) (x_runV (As := [.int zv9, .int (0 : Int32), .int zx2]) (rest := []) C0 (c9_lay l E G fl X zI10 zx0 zv9 (0 : Int32) zx2 zt0 ze13) hw 9 zt0 (by decide) rfl wd118 wd640 wd641 wd642 wd612 ⟨rfl, rfl⟩ hy9_lay ⟨Nat.le_of_ble_eq_true rfl, Nat.le_of_ble_eq_true rfl⟩ rfl hl.1 (Nat.le_of_ble_eq_true rfl) ⟨Nat.zero_le _, Nat.zero_le _⟩ dX9_moves_40) hw (fun H locs hw => ?_)
  refine lv_aload_n hx hb dX9_moves_43 rfl (lv_at hl 4 rfl) ?_
  refine lv_iload hx hb dX9_moves_44 (lv_at hl 0 rfl) ?_
  refine lv_iconst (v := (1 : Int32)) hx hb dX9_moves_46 (by decide) ?_
  refine lv_iload_n hx hb dX9_moves_47 rfl (lv_at hl 3 rfl) ?_
  obtain ⟨zI14, ze15, hf⟩ := nn_some hf
  refine x_cv (I1 := zI14) (X1 := X) (x_runV (As := [.int zv9, .int (1 : Int32), .int zv1]) (rest := []) C0 (c9_lay l E G fl X zI12 zx0 zv9 (1 : Int32) zv1 zt0 ze15) hw 9 zt0 (by decide) rfl wd118 wd640 wd641 wd642 wd612 ⟨rfl, rfl⟩ hy9_lay ⟨Nat.le_of_ble_eq_true rfl, Nat.le_of_ble_eq_true rfl⟩ rfl hl.1 (Nat.le_of_ble_eq_true rfl) ⟨Nat.zero_le _, Nat.zero_le _⟩ dX9_moves_48) hw (fun H locs hw => ?_)
  refine lv_aload_n hx hb dX9_moves_51 rfl (lv_at hl 4 rfl) ?_
  refine lv_iload hx hb dX9_moves_52 (lv_at hl 0 rfl) ?_
  refine lv_iconst (v := (2 : Int32)) hx hb dX9_moves_54 (by decide) ?_
  refine lv_iload hx hb dX9_moves_55 (lv_at hl 2 rfl) ?_
  obtain ⟨zI16, ze17, hf⟩ := nn_some hf
  refine x_cv (I1 := zI16) (X1 := X) (x_runV (As := [.int zv9, .int (2 : Int32), .int zv3]) (rest := []) C0 (c9_lay l E G fl X zI14 zx0 zv9 (2 : Int32) zv3 zt0 ze17) hw 9 zt0 (by decide) rfl wd118 wd640 wd641 wd642 wd612 ⟨rfl, rfl⟩ hy9_lay ⟨Nat.le_of_ble_eq_true rfl, Nat.le_of_ble_eq_true rfl⟩ rfl hl.1 (Nat.le_of_ble_eq_true rfl) ⟨Nat.zero_le _, Nat.zero_le _⟩ dX9_moves_57) hw (fun H locs hw => ?_)
  refine lv_aload_n hx hb dX9_moves_60 rfl (lv_at hl 4 rfl) ?_
  refine lv_iload hx hb dX9_moves_61 (lv_at hl 0 rfl) ?_
  refine lv_iconst (v := (3 : Int32)) hx hb dX9_moves_63 (by decide) ?_
  refine lv_iload hx hb dX9_moves_64 (lv_at hl 1 rfl) ?_
  obtain ⟨zI18, ze19, hf⟩ := nn_some hf
  refine x_cv (I1 := zI18) (X1 := X) (x_runV (As := [.int zv9, .int (3 : Int32), .int zv5]) (rest := []) C0 (c9_lay l E G fl X zI16 zx0 zv9 (3 : Int32) zv5 zt0 ze19) hw 9 zt0 (by decide) rfl wd118 wd640 wd641 wd642 wd612 ⟨rfl, rfl⟩ hy9_lay ⟨Nat.le_of_ble_eq_true rfl, Nat.le_of_ble_eq_true rfl⟩ rfl hl.1 (Nat.le_of_ble_eq_true rfl) ⟨Nat.zero_le _, Nat.zero_le _⟩ dX9_moves_66) hw (fun H locs hw => ?_)
  refine lv_aload_n hx hb dX9_moves_69 rfl (lv_at hl 4 rfl) ?_
  refine lv_iload hx hb dX9_moves_70 (lv_at hl 0 rfl) ?_
  refine lv_iconst (v := (4 : Int32)) hx hb dX9_moves_72 (by decide) ?_
  refine lv_iconst (v := (0 : Int32)) hx hb dX9_moves_73 (by decide) ?_
  obtain ⟨zI20, ze21, hf⟩ := nn_some hf
  refine x_cv (I1 := zI20) (X1 := X) (x_runV (As := [.int zv9, .int (4 : Int32), .int (0 : Int32)]) (rest := []) C0 (c9_lay l E G fl X zI18 zx0 zv9 (4 : Int32) (0 : Int32) zt0 ze21) hw 9 zt0 (by decide) rfl wd118 wd640 wd641 wd642 wd612 ⟨rfl, rfl⟩ hy9_lay ⟨Nat.le_of_ble_eq_true rfl, Nat.le_of_ble_eq_true rfl⟩ rfl hl.1 (Nat.le_of_ble_eq_true rfl) ⟨Nat.zero_le _, Nat.zero_le _⟩ dX9_moves_74) hw (fun H locs hw => ?_)
  refine lv_iload hx hb dX9_moves_77 (lv_at hl 0 rfl) ?_
  obtain rfl := Option.some.inj hf
  exact x_iret C0 hr hw dX9_moves_79
noncomputable def m9_move (fl : Nat) (len : Nat → Nat) (X : Xm) (I : Im) (zx0 : Nat) (zx1 : Int32) (zx2 : Int32) : Option (Int32 × Im) :=
  nn (m9_whyNotMoved fl len X I zx0 zx1 zx2) fun zv1 =>
  if 0 ≤ zv1 then
    nn (m9_changes fl len X I zx0) fun zI4 =>
    nn (m9_moves fl len X zI4 zx0 zx1 zx2) fun ⟨zv6, zI7⟩ =>
    some (zv6, zI7)
  else
    some (zv1, I)
theorem hy9_move : yX9_move.cls = RX9 ∧ yX9_move.cls ≠ "java/lang/invoke/MethodHandle" ∧ yX9_move.cls ≠ "java/lang/invoke/VarHandle" ∧ (parseMethodDescriptor yX9_move.desc).map (fun d => d.parameters.length) = some 2 := ⟨rfl, by decide +kernel, by decide +kernel, by decide +kernel⟩
set_option maxHeartbeats 4000000 in
set_option maxRecDepth 100000 in
theorem c9_move (l : Launch) (E : EN) (G : GM) (fl : Nat) (X : Xm) (I : Im) (zx0 : Nat) (zx1 : Int32) (zx2 : Int32) (zt0 : okA E G 9 zx0) {rr : Int32 × Im} (hf : m9_move fl G.2.2 X I zx0 zx1 zx2 = some rr) : MT l yX9_move cX9_move 4 (some .int) ({ frames := 3, cells := 0, slots := 0, locals := 71 } : Room) E G I X [.ref zx0, .int zx1, .int zx2] (QI E G rr.1 rr.2 X) 0 0 := by
  refine Met.ofW (cc := cX9_move) (maxL := 4) (ret := (some .int)) (by decide +kernel) rfl ?_
  intro p e s m args below meth c s₁ B hml hv
  obtain ⟨rfl, hw0, hSE⟩ := hv
  have C0 : CX p s m ([.ref zx0, .int zx1, .int zx2] : List Value).toArray meth c E cX9_move RX9 4 := ⟨B.exec, B.bytes, hml, findClass_of_methodNamed B.named, fun w hw => atoms_spec (ws := WS yX9_move cX9_move 4 (some .int)) B.pre w (List.mem_cons_of_mem _ hw), B.notSynchronized, hSE⟩
  have hz : s.heap.size + 0 ≤ eB E + G.1 := Nat.le_of_eq hw0.2.1
  have hw : WD E G I X s.heap s.heap [] := ⟨hw0, va_S.rf⟩
  have hr := B.returns
  have hx := C0.1; have hb := C0.2.1; have hml := C0.2.2.1; have hown := C0.2.2.2.1; have hts := C0.2.2.2.2.1
  have hl := lv_entry ([.ref zx0, .int zx1, .int zx2]) (n := 4) (Nat.le_of_ble_eq_true rfl)
  rw [lg_entry_eq]
  generalize (lg_sl ([.ref zx0, .int zx1, .int zx2]) ++ List.replicate (4 - (lg_sl ([.ref zx0, .int zx1, .int zx2])).length) Slot.unset).toArray = ls at hl ⊢
  have hl : lv_has ls 4 [(0, .ref zx0), (1, .int zx1), (2, .int zx2)] := hl
  unfold m9_move at hf
  refine lv_aload_n hx hb dX9_move_0 rfl (lv_at hl 0 rfl) ?_
  refine lv_iload_n hx hb dX9_move_1 rfl (lv_at hl 1 rfl) ?_
  refine lv_iload_n hx hb dX9_move_2 rfl (lv_at hl 2 rfl) ?_
  obtain ⟨zv1, ze2, hf⟩ := nn_some hf
  refine x_ci (r := zv1) (I1 := I) (X1 := X) (x_runV (As := [.int zx1, .int zx2]) (rest := []) C0 (c9_whyNotMoved l E G fl X I zx0 zx1 zx2 zt0 ze2) hw 9 zt0 (by decide) rfl wd144 wd677 wd678 wd679 wd612 ⟨rfl, rfl⟩ hy9_whyNotMoved ⟨Nat.le_of_ble_eq_true rfl, Nat.le_of_ble_eq_true rfl⟩ rfl hl.1 (Nat.le_of_ble_eq_true rfl) ⟨Nat.zero_le _, Nat.zero_le _⟩ dX9_move_3) hw (fun H locs hw => ?_)
  refine lv_istore_n (lv' := [(3, .int zv1), (0, .ref zx0), (1, .int zx1), (2, .int zx2)]) hx hb dX9_move_6 rfl hl (by decide) rfl (fun ls hl => ?_)
  refine lv_iload_n hx hb dX9_move_7 rfl (lv_at hl 0 rfl) ?_
  refine lv_if_ge (tgt := 13) hx hb dX9_move_8 (by decide) (fun zc3 => ?_) (fun zc3 => ?_)
  · have hf := ite_t hf zc3
    refine lv_aload_n hx hb dX9_move_13 rfl (lv_at hl 1 rfl) ?_
    obtain ⟨zI4, ze5, hf⟩ := nn_some hf
    refine x_cv (I1 := zI4) (X1 := X) (x_runV (As := []) (rest := []) C0 (c9_changes l E G fl X I zx0 zt0 ze5) hw 9 zt0 (by decide) rfl wd114 wd662 wd663 wd664 wd612 ⟨rfl, rfl⟩ hy9_changes ⟨Nat.le_of_ble_eq_true rfl, Nat.le_of_ble_eq_true rfl⟩ rfl hl.1 (Nat.le_of_ble_eq_true rfl) ⟨Nat.zero_le _, Nat.zero_le _⟩ dX9_move_14) hw (fun H locs hw => ?_)
    refine lv_aload_n hx hb dX9_move_17 rfl (lv_at hl 1 rfl) ?_
    refine lv_iload_n hx hb dX9_move_18 rfl (lv_at hl 2 rfl) ?_
    refine lv_iload_n hx hb dX9_move_19 rfl (lv_at hl 3 rfl) ?_
    obtain ⟨⟨zv6, zI7⟩, ze8, hf⟩ := nn_some hf
    refine x_ci (r := zv6) (I1 := zI7) (X1 := X) (x_runV (As := [.int zx1, .int zx2]) (rest := []) C0 (c9_moves l E G fl X zI4 zx0 zx1 zx2 zt0 ze8) hw 9 zt0 (by decide) rfl wd145 wd680 wd681 wd682 wd612 ⟨rfl, rfl⟩ hy9_moves ⟨Nat.le_of_ble_eq_true rfl, Nat.le_of_ble_eq_true rfl⟩ rfl hl.1 (Nat.le_of_ble_eq_true rfl) ⟨Nat.zero_le _, Nat.zero_le _⟩ dX9_move_20) hw (fun H locs hw => ?_)
    obtain rfl := Option.some.inj hf
    exact x_iret C0 hr hw dX9_move_23
  · have hf := ite_f hf zc3
    refine lv_iload_n hx hb dX9_move_11 rfl (lv_at hl 0 rfl) ?_
    obtain rfl := Option.some.inj hf
    exact x_iret C0 hr hw dX9_move_12
noncomputable def m9_goal (fl : Nat) (len : Nat → Nat) (X : Xm) (I : Im) (zx0 : Nat) (zx1 : Int32) (zx2 : Int32) : Option (Int32 × Im) :=
  nn (m9_isReel fl len X I zx1) fun zv1 =>
  if zv1 = 0 then
    some ((-1 : Int32), I)
  else
    nn (m9_in fl len X I zx2 (0 : Int32) (100 : Int32)) fun zv4 =>
    if zv4 = 0 then
      some ((-2 : Int32), I)
    else
      nn (m9_changes fl len X I zx0) fun zI7 =>
      nn (gR X 144 zx0) fun zv9 =>
      ck (inb (((216 : Int32) + ((2 : Int32) * zx1)) + (1 : Int32)) (len zv9) = true) <|
      lt ((gA zI7 zv9 ((((216 : Int32) + ((2 : Int32) * zx1)) + (1 : Int32))).toNatClampNeg)) fun zv11 =>
      lt (pA zI7 zv9 ((((216 : Int32) + ((2 : Int32) * zx1)) + (1 : Int32))).toNatClampNeg zx2) fun zI12 =>
      some (zv11, zI12)
theorem hy9_goal : yX9_goal.cls = RX9 ∧ yX9_goal.cls ≠ "java/lang/invoke/MethodHandle" ∧ yX9_goal.cls ≠ "java/lang/invoke/VarHandle" ∧ (parseMethodDescriptor yX9_goal.desc).map (fun d => d.parameters.length) = some 2 := ⟨rfl, by decide +kernel, by decide +kernel, by decide +kernel⟩
set_option maxHeartbeats 4000000 in
set_option maxRecDepth 100000 in
theorem c9_goal (l : Launch) (E : EN) (G : GM) (fl : Nat) (X : Xm) (I : Im) (zx0 : Nat) (zx1 : Int32) (zx2 : Int32) (zt0 : okA E G 9 zx0) {rr : Int32 × Im} (hf : m9_goal fl G.2.2 X I zx0 zx1 zx2 = some rr) : MT l yX9_goal cX9_goal 4 (some .int) ({ frames := 2, cells := 0, slots := 0, locals := 42 } : Room) E G I X [.ref zx0, .int zx1, .int zx2] (QI E G rr.1 rr.2 X) 0 0 := by
  refine Met.ofW (cc := cX9_goal) (maxL := 4) (ret := (some .int)) (by decide +kernel) rfl ?_
  intro p e s m args below meth c s₁ B hml hv
  obtain ⟨rfl, hw0, hSE⟩ := hv
  have C0 : CX p s m ([.ref zx0, .int zx1, .int zx2] : List Value).toArray meth c E cX9_goal RX9 4 := ⟨B.exec, B.bytes, hml, findClass_of_methodNamed B.named, fun w hw => atoms_spec (ws := WS yX9_goal cX9_goal 4 (some .int)) B.pre w (List.mem_cons_of_mem _ hw), B.notSynchronized, hSE⟩
  have hz : s.heap.size + 0 ≤ eB E + G.1 := Nat.le_of_eq hw0.2.1
  have hw : WD E G I X s.heap s.heap [] := ⟨hw0, va_S.rf⟩
  have hr := B.returns
  have hx := C0.1; have hb := C0.2.1; have hml := C0.2.2.1; have hown := C0.2.2.2.1; have hts := C0.2.2.2.2.1
  have hl := lv_entry ([.ref zx0, .int zx1, .int zx2]) (n := 4) (Nat.le_of_ble_eq_true rfl)
  rw [lg_entry_eq]
  generalize (lg_sl ([.ref zx0, .int zx1, .int zx2]) ++ List.replicate (4 - (lg_sl ([.ref zx0, .int zx1, .int zx2])).length) Slot.unset).toArray = ls at hl ⊢
  have hl : lv_has ls 4 [(0, .ref zx0), (1, .int zx1), (2, .int zx2)] := hl
  unfold m9_goal at hf
  refine lv_iload_n hx hb dX9_goal_0 rfl (lv_at hl 1 rfl) ?_
  obtain ⟨zv1, ze2, hf⟩ := nn_some hf
  refine x_ci (r := zv1) (I1 := I) (X1 := X) (x_runS (As := [.int zx1]) (rest := []) C0 (c9_isReel l E G fl X I zx1 ze2) hw wd123 wd613 wd614 wd612 ⟨rfl, rfl⟩ hy9_isReel ⟨Nat.le_of_ble_eq_true rfl, Nat.le_of_ble_eq_true rfl⟩ rfl hl.1 (Nat.le_of_ble_eq_true rfl) ⟨Nat.zero_le _, Nat.zero_le _⟩ dX9_goal_1) hw (fun H locs hw => ?_)
  refine lv_if_ne (tgt := 9) hx hb dX9_goal_4 (by decide) (fun zc3 => ?_) (fun zc3 => ?_)
  · have hf := ite_f hf zc3
    refine lv_iload_n hx hb dX9_goal_9 rfl (lv_at hl 2 rfl) ?_
    refine lv_iconst (v := (0 : Int32)) hx hb dX9_goal_10 (by decide) ?_
    refine lv_bipush (v := (100 : Int32)) hx hb dX9_goal_11 (by decide) ?_
    obtain ⟨zv4, ze5, hf⟩ := nn_some hf
    refine x_ci (r := zv4) (I1 := I) (X1 := X) (x_runS (As := [.int zx2, .int (0 : Int32), .int (100 : Int32)]) (rest := []) C0 (c9_in l E G fl X I zx2 (0 : Int32) (100 : Int32) ze5) hw wd113 wd610 wd611 wd612 ⟨rfl, rfl⟩ hy9_in ⟨Nat.le_of_ble_eq_true rfl, Nat.le_of_ble_eq_true rfl⟩ rfl hl.1 (Nat.le_of_ble_eq_true rfl) ⟨Nat.zero_le _, Nat.zero_le _⟩ dX9_goal_13) hw (fun H locs hw => ?_)
    refine lv_if_ne (tgt := 22) hx hb dX9_goal_16 (by decide) (fun zc6 => ?_) (fun zc6 => ?_)
    · have hf := ite_f hf zc6
      refine lv_aload_n hx hb dX9_goal_22 rfl (lv_at hl 0 rfl) ?_
      obtain ⟨zI7, ze8, hf⟩ := nn_some hf
      refine x_cv (I1 := zI7) (X1 := X) (x_runV (As := []) (rest := []) C0 (c9_changes l E G fl X I zx0 zt0 ze8) hw 9 zt0 (by decide) rfl wd114 wd662 wd663 wd664 wd612 ⟨rfl, rfl⟩ hy9_changes ⟨Nat.le_of_ble_eq_true rfl, Nat.le_of_ble_eq_true rfl⟩ rfl hl.1 (Nat.le_of_ble_eq_true rfl) ⟨Nat.zero_le _, Nat.zero_le _⟩ dX9_goal_23) hw (fun H locs hw => ?_)
      refine lv_aload_n hx hb dX9_goal_26 rfl (lv_at hl 0 rfl) ?_
      obtain ⟨zv9, ezv9, hf⟩ := nn_some hf
      have tzv9 : okA E G 11 zv9 := wt_r hw ezv9
      refine xg_9_0 C0 hw zt0 wd601 ezv9 dX9_goal_27 ?_
      refine lv_sipush (v := (216 : Int32)) hx hb dX9_goal_30 (by decide) ?_
      refine lv_iconst (v := (2 : Int32)) hx hb dX9_goal_33 (by decide) ?_
      refine lv_iload_n hx hb dX9_goal_34 rfl (lv_at hl 1 rfl) ?_
      refine lv_imul hx hb dX9_goal_35 ?_
      refine lv_iadd hx hb dX9_goal_36 ?_
      refine lv_iconst (v := (1 : Int32)) hx hb dX9_goal_37 (by decide) ?_
      refine lv_iadd hx hb dX9_goal_38 ?_
      obtain ⟨zhb10, hf⟩ := ck_some hf
      refine x_iald C0 hw tzv9 zhb10 dX9_goal_39 ?_
      refine lv_topi (fun zv11 ezv11 => ?_)
      have hf := lt_at hf ezv11
      refine lv_istore_n (lv' := [(3, .int zv11), (0, .ref zx0), (1, .int zx1), (2, .int zx2)]) hx hb dX9_goal_40 rfl hl (by decide) rfl (fun ls hl => ?_)
      refine lv_aload_n hx hb dX9_goal_41 rfl (lv_at hl 1 rfl) ?_
      refine xg_9_0 C0 hw zt0 wd601 ezv9 dX9_goal_42 ?_
      refine lv_sipush (v := (216 : Int32)) hx hb dX9_goal_45 (by decide) ?_
      refine lv_iconst (v := (2 : Int32)) hx hb dX9_goal_48 (by decide) ?_
      refine lv_iload_n hx hb dX9_goal_49 rfl (lv_at hl 2 rfl) ?_
      refine lv_imul hx hb dX9_goal_50 ?_
      refine lv_iadd hx hb dX9_goal_51 ?_
      refine lv_iconst (v := (1 : Int32)) hx hb dX9_goal_52 (by decide) ?_
      refine lv_iadd hx hb dX9_goal_53 ?_
      refine lv_iload_n hx hb dX9_goal_54 rfl (lv_at hl 3 rfl) ?_
      obtain ⟨zI12, ezI12⟩ : ∃ y : Im, y = pA zI7 zv9 ((((216 : Int32) + ((2 : Int32) * zx1)) + (1 : Int32))).toNatClampNeg zx2 := ⟨_, rfl⟩
      have hf := lt_at hf ezI12
      refine x_iast C0 hz hw tzv9 zhb10 dX9_goal_55 ezI12 (fun H locs hw => ?_)
      refine lv_iload_n hx hb dX9_goal_56 rfl (lv_at hl 0 rfl) ?_
      obtain rfl := Option.some.inj hf
      exact x_iret C0 hr hw dX9_goal_57
    · have hf := ite_t hf zc6
      refine lv_bipush (v := (-2 : Int32)) hx hb dX9_goal_19 (by decide) ?_
      obtain rfl := Option.some.inj hf
      exact x_iret C0 hr hw dX9_goal_21
  · have hf := ite_t hf zc3
    refine lv_iconst (v := (-1 : Int32)) hx hb dX9_goal_7 (by decide) ?_
    obtain rfl := Option.some.inj hf
    exact x_iret C0 hr hw dX9_goal_8
noncomputable def m9_begin_121b (fl : Nat) (len : Nat → Nat) (X : Xm) (zr121 : Im → Nat → Int32 → Int32 → Nat → Option (Int32 × Im)) (I : Im) (zx0 : Nat) (zx1 : Int32) (zx2 : Int32) (p_144 : Nat) : Option (Int32 × Im) :=
  if (24 : Int32) ≤ zx2 then
    some (zx1, I)
  else
    ck (inb (((144 : Int32) + ((3 : Int32) * zx2)) + (2 : Int32)) (len p_144) = true) <|
    lt (pA I p_144 ((((144 : Int32) + ((3 : Int32) * zx2)) + (2 : Int32))).toNatClampNeg (0 : Int32)) fun zI3 =>
    lt (zx2 + 1) fun zv4 =>
    zr121 zI3 zx0 zx1 zv4 p_144
noncomputable def m9_begin_121 (fl : Nat) (len : Nat → Nat) (X : Xm) (n : Nat) : Im → Nat → Int32 → Int32 → Nat → Option (Int32 × Im) :=
  Nat.rec (fun _ _ _ _ _ => none) (fun _ r => m9_begin_121b fl len X r) n
set_option maxHeartbeats 4000000 in
set_option maxRecDepth 100000 in
theorem w9_begin_121b {p : Program} {l : Launch} {e : Env} {s : State} {m : MethodId} {args : Array Value} {below : List Frame} {meth : Method} {c : Code} {E : EN} {G : GM} {X : Xm} (C0 : CX p s m args meth c E cX9_begin RX9 3) (hr : meth.sig.returnType = (some .int)) (hz : s.heap.size + 0 ≤ eB E + G.1) {rr : Int32 × Im} (fl : Nat) (zr121 : Im → Nat → Int32 → Int32 → Nat → Option (Int32 × Im)) (zhr121 : ∀ (I : Im) (H : Heap) (locs : List Loc) (ls : Array Slot) (zx0 : Nat) (zx1 : Int32) (zx2 : Int32) (p_144 : Nat) (zt0 : okA E G 9 zx0) (ep_144 : gR X 144 zx0 = some p_144) (tp_144 : okA E G 11 p_144), WD E G I X s.heap H locs → lv_has ls 3 [(0, .ref zx0), (1, .int zx1), (2, .int zx2)] → zr121 I zx0 zx1 zx2 p_144 = some rr → W p l e ({ frames := 1, cells := 0, slots := 0, locals := 23 } : Room) s m args below meth c H locs 0 0 (MQ below (QI E G rr.1 rr.2 X) args s 0 0 (eA E)) (F0 m 121 ls [])) : ∀ (I : Im) (H : Heap) (locs : List Loc) (ls : Array Slot) (zx0 : Nat) (zx1 : Int32) (zx2 : Int32) (p_144 : Nat) (zt0 : okA E G 9 zx0) (ep_144 : gR X 144 zx0 = some p_144) (tp_144 : okA E G 11 p_144), WD E G I X s.heap H locs → lv_has ls 3 [(0, .ref zx0), (1, .int zx1), (2, .int zx2)] → m9_begin_121b fl G.2.2 X zr121 I zx0 zx1 zx2 p_144 = some rr → W p l e ({ frames := 1, cells := 0, slots := 0, locals := 23 } : Room) s m args below meth c H locs 0 0 (MQ below (QI E G rr.1 rr.2 X) args s 0 0 (eA E)) (F0 m 121 ls []) := by
  intro I H locs ls zx0 zx1 zx2 p_144 zt0 ep_144 tp_144 hw hl hf
  unfold m9_begin_121b at hf
  have hx := C0.1; have hb := C0.2.1; have hml := C0.2.2.1; have hown := C0.2.2.2.1; have hts := C0.2.2.2.2.1
  refine lv_iload_n hx hb dX9_begin_121 rfl (lv_at hl 2 rfl) ?_
  refine lv_bipush (v := (24 : Int32)) hx hb dX9_begin_122 (by decide) ?_
  refine lv_icmp_ge (tgt := 148) hx hb dX9_begin_124 (by decide) (fun zc1 => ?_) (fun zc1 => ?_)
  · have hf := ite_t hf zc1
    refine lv_iload_n hx hb dX9_begin_148 rfl (lv_at hl 1 rfl) ?_
    obtain rfl := Option.some.inj hf
    exact x_iret C0 hr hw dX9_begin_149
  · have hf := ite_f hf zc1
    refine lv_aload_n hx hb dX9_begin_127 rfl (lv_at hl 0 rfl) ?_
    refine xg_9_0 C0 hw zt0 wd601 ep_144 dX9_begin_128 ?_
    refine lv_sipush (v := (144 : Int32)) hx hb dX9_begin_131 (by decide) ?_
    refine lv_iconst (v := (3 : Int32)) hx hb dX9_begin_134 (by decide) ?_
    refine lv_iload_n hx hb dX9_begin_135 rfl (lv_at hl 2 rfl) ?_
    refine lv_imul hx hb dX9_begin_136 ?_
    refine lv_iadd hx hb dX9_begin_137 ?_
    refine lv_iconst (v := (2 : Int32)) hx hb dX9_begin_138 (by decide) ?_
    refine lv_iadd hx hb dX9_begin_139 ?_
    refine lv_iconst (v := (0 : Int32)) hx hb dX9_begin_140 (by decide) ?_
    obtain ⟨zhb2, hf⟩ := ck_some hf
    obtain ⟨zI3, ezI3⟩ : ∃ y : Im, y = pA I p_144 ((((144 : Int32) + ((3 : Int32) * zx2)) + (2 : Int32))).toNatClampNeg (0 : Int32) := ⟨_, rfl⟩
    have hf := lt_at hf ezI3
    refine x_iast C0 hz hw tp_144 zhb2 dX9_begin_141 ezI3 (fun H locs hw => ?_)
    obtain ⟨zv4, ezv4⟩ : ∃ y : Int32, y = zx2 + 1 := ⟨_, rfl⟩
    have hf := lt_at hf ezv4
    refine lv_iinc (v := zv4) (lv' := [(2, .int zv4), (0, .ref zx0), (1, .int zx1)]) hx hb dX9_begin_142 hl (k := 2) rfl (by rw [ezv4]; rfl) (by decide) rfl (fun ls hl => ?_)
    refine lv_goto (tgt := 121) hx hb dX9_begin_145 (by decide) ?_
    exact zhr121 zI3 _ _ _ zx0 zx1 zv4 p_144 zt0 ep_144 tp_144 hw (lv_sub hl [1, 2, 0] rfl) hf
theorem w9_begin_121 {p : Program} {l : Launch} {e : Env} {s : State} {m : MethodId} {args : Array Value} {below : List Frame} {meth : Method} {c : Code} {E : EN} {G : GM} {X : Xm} (C0 : CX p s m args meth c E cX9_begin RX9 3) (hr : meth.sig.returnType = (some .int)) (hz : s.heap.size + 0 ≤ eB E + G.1) {rr : Int32 × Im} (fl : Nat) : ∀ (n : Nat) (I : Im) (H : Heap) (locs : List Loc) (ls : Array Slot) (zx0 : Nat) (zx1 : Int32) (zx2 : Int32) (p_144 : Nat) (zt0 : okA E G 9 zx0) (ep_144 : gR X 144 zx0 = some p_144) (tp_144 : okA E G 11 p_144), WD E G I X s.heap H locs → lv_has ls 3 [(0, .ref zx0), (1, .int zx1), (2, .int zx2)] → m9_begin_121 fl G.2.2 X n I zx0 zx1 zx2 p_144 = some rr → W p l e ({ frames := 1, cells := 0, slots := 0, locals := 23 } : Room) s m args below meth c H locs 0 0 (MQ below (QI E G rr.1 rr.2 X) args s 0 0 (eA E)) (F0 m 121 ls []) := by
  intro n
  induction n with
  | zero => intro I H locs ls zx0 zx1 zx2 p_144 zt0 ep_144 tp_144 hw hl hf; exact absurd (show (none : Option (Int32 × Im)) = some rr from hf) (by simp)
  | succ n ih => intro I H locs ls zx0 zx1 zx2 p_144 zt0 ep_144 tp_144 hw hl hf; exact w9_begin_121b C0 hr hz fl _ ih I H locs ls zx0 zx1 zx2 p_144 zt0 ep_144 tp_144 hw hl hf
noncomputable def m9_begin_95b (fl : Nat) (len : Nat → Nat) (X : Xm) (zr95 : Im → Nat → Int32 → Int32 → Nat → Option (Int32 × Im)) (I : Im) (zx0 : Nat) (zx1 : Int32) (zx2 : Int32) (p_144 : Nat) : Option (Int32 × Im) :=
  if (8 : Int32) ≤ zx2 then
    m9_begin_121 fl len X fl I zx0 zx1 (0 : Int32) p_144
  else
    ck (inb ((216 : Int32) + zx2) (len p_144) = true) <|
    lt (pA I p_144 (((216 : Int32) + zx2)).toNatClampNeg (50 : Int32)) fun zI3 =>
    lt (zx2 + 1) fun zv4 =>
    zr95 zI3 zx0 zx1 zv4 p_144
noncomputable def m9_begin_95 (fl : Nat) (len : Nat → Nat) (X : Xm) (n : Nat) : Im → Nat → Int32 → Int32 → Nat → Option (Int32 × Im) :=
  Nat.rec (fun _ _ _ _ _ => none) (fun _ r => m9_begin_95b fl len X r) n
set_option maxHeartbeats 4000000 in
set_option maxRecDepth 100000 in
theorem w9_begin_95b {p : Program} {l : Launch} {e : Env} {s : State} {m : MethodId} {args : Array Value} {below : List Frame} {meth : Method} {c : Code} {E : EN} {G : GM} {X : Xm} (C0 : CX p s m args meth c E cX9_begin RX9 3) (hr : meth.sig.returnType = (some .int)) (hz : s.heap.size + 0 ≤ eB E + G.1) {rr : Int32 × Im} (fl : Nat) (zr95 : Im → Nat → Int32 → Int32 → Nat → Option (Int32 × Im)) (zhr95 : ∀ (I : Im) (H : Heap) (locs : List Loc) (ls : Array Slot) (zx0 : Nat) (zx1 : Int32) (zx2 : Int32) (p_144 : Nat) (zt0 : okA E G 9 zx0) (ep_144 : gR X 144 zx0 = some p_144) (tp_144 : okA E G 11 p_144), WD E G I X s.heap H locs → lv_has ls 3 [(0, .ref zx0), (1, .int zx1), (2, .int zx2)] → zr95 I zx0 zx1 zx2 p_144 = some rr → W p l e ({ frames := 1, cells := 0, slots := 0, locals := 23 } : Room) s m args below meth c H locs 0 0 (MQ below (QI E G rr.1 rr.2 X) args s 0 0 (eA E)) (F0 m 95 ls [])) : ∀ (I : Im) (H : Heap) (locs : List Loc) (ls : Array Slot) (zx0 : Nat) (zx1 : Int32) (zx2 : Int32) (p_144 : Nat) (zt0 : okA E G 9 zx0) (ep_144 : gR X 144 zx0 = some p_144) (tp_144 : okA E G 11 p_144), WD E G I X s.heap H locs → lv_has ls 3 [(0, .ref zx0), (1, .int zx1), (2, .int zx2)] → m9_begin_95b fl G.2.2 X zr95 I zx0 zx1 zx2 p_144 = some rr → W p l e ({ frames := 1, cells := 0, slots := 0, locals := 23 } : Room) s m args below meth c H locs 0 0 (MQ below (QI E G rr.1 rr.2 X) args s 0 0 (eA E)) (F0 m 95 ls []) := by
  intro I H locs ls zx0 zx1 zx2 p_144 zt0 ep_144 tp_144 hw hl hf
  unfold m9_begin_95b at hf
  have hx := C0.1; have hb := C0.2.1; have hml := C0.2.2.1; have hown := C0.2.2.2.1; have hts := C0.2.2.2.2.1
  refine lv_iload_n hx hb dX9_begin_95 rfl (lv_at hl 2 rfl) ?_
  refine lv_bipush (v := (8 : Int32)) hx hb dX9_begin_96 (by decide) ?_
  refine lv_icmp_ge (tgt := 119) hx hb dX9_begin_98 (by decide) (fun zc1 => ?_) (fun zc1 => ?_)
  · have hf := ite_t hf zc1
    refine lv_iconst (v := (0 : Int32)) hx hb dX9_begin_119 (by decide) ?_
    refine lv_istore_n (lv' := [(2, .int (0 : Int32)), (0, .ref zx0), (1, .int zx1)]) hx hb dX9_begin_120 rfl hl (by decide) rfl (fun ls hl => ?_)
    exact w9_begin_121 C0 hr hz fl fl I _ _ _ zx0 zx1 (0 : Int32) p_144 zt0 ep_144 tp_144 hw (lv_sub hl [1, 2, 0] rfl) hf
  · have hf := ite_f hf zc1
    refine lv_aload_n hx hb dX9_begin_101 rfl (lv_at hl 0 rfl) ?_
    refine xg_9_0 C0 hw zt0 wd601 ep_144 dX9_begin_102 ?_
    refine lv_sipush (v := (216 : Int32)) hx hb dX9_begin_105 (by decide) ?_
    refine lv_iload_n hx hb dX9_begin_108 rfl (lv_at hl 2 rfl) ?_
    refine lv_iadd hx hb dX9_begin_109 ?_
    refine lv_bipush (v := (50 : Int32)) hx hb dX9_begin_110 (by decide) ?_
    obtain ⟨zhb2, hf⟩ := ck_some hf
    obtain ⟨zI3, ezI3⟩ : ∃ y : Im, y = pA I p_144 (((216 : Int32) + zx2)).toNatClampNeg (50 : Int32) := ⟨_, rfl⟩
    have hf := lt_at hf ezI3
    refine x_iast C0 hz hw tp_144 zhb2 dX9_begin_112 ezI3 (fun H locs hw => ?_)
    obtain ⟨zv4, ezv4⟩ : ∃ y : Int32, y = zx2 + 1 := ⟨_, rfl⟩
    have hf := lt_at hf ezv4
    refine lv_iinc (v := zv4) (lv' := [(2, .int zv4), (0, .ref zx0), (1, .int zx1)]) hx hb dX9_begin_113 hl (k := 2) rfl (by rw [ezv4]; rfl) (by decide) rfl (fun ls hl => ?_)
    refine lv_goto (tgt := 95) hx hb dX9_begin_116 (by decide) ?_
    exact zhr95 zI3 _ _ _ zx0 zx1 zv4 p_144 zt0 ep_144 tp_144 hw (lv_sub hl [1, 2, 0] rfl) hf
theorem w9_begin_95 {p : Program} {l : Launch} {e : Env} {s : State} {m : MethodId} {args : Array Value} {below : List Frame} {meth : Method} {c : Code} {E : EN} {G : GM} {X : Xm} (C0 : CX p s m args meth c E cX9_begin RX9 3) (hr : meth.sig.returnType = (some .int)) (hz : s.heap.size + 0 ≤ eB E + G.1) {rr : Int32 × Im} (fl : Nat) : ∀ (n : Nat) (I : Im) (H : Heap) (locs : List Loc) (ls : Array Slot) (zx0 : Nat) (zx1 : Int32) (zx2 : Int32) (p_144 : Nat) (zt0 : okA E G 9 zx0) (ep_144 : gR X 144 zx0 = some p_144) (tp_144 : okA E G 11 p_144), WD E G I X s.heap H locs → lv_has ls 3 [(0, .ref zx0), (1, .int zx1), (2, .int zx2)] → m9_begin_95 fl G.2.2 X n I zx0 zx1 zx2 p_144 = some rr → W p l e ({ frames := 1, cells := 0, slots := 0, locals := 23 } : Room) s m args below meth c H locs 0 0 (MQ below (QI E G rr.1 rr.2 X) args s 0 0 (eA E)) (F0 m 95 ls []) := by
  intro n
  induction n with
  | zero => intro I H locs ls zx0 zx1 zx2 p_144 zt0 ep_144 tp_144 hw hl hf; exact absurd (show (none : Option (Int32 × Im)) = some rr from hf) (by simp)
  | succ n ih => intro I H locs ls zx0 zx1 zx2 p_144 zt0 ep_144 tp_144 hw hl hf; exact w9_begin_95b C0 hr hz fl _ ih I H locs ls zx0 zx1 zx2 p_144 zt0 ep_144 tp_144 hw hl hf
noncomputable def m9_begin_61b (fl : Nat) (len : Nat → Nat) (X : Xm) (zr61 : Im → Nat → Int32 → Int32 → Nat → Option (Int32 × Im)) (I : Im) (zx0 : Nat) (zx1 : Int32) (zx2 : Int32) (p_144 : Nat) : Option (Int32 × Im) :=
  if (4 : Int32) ≤ zx2 then
    m9_begin_95 fl len X fl I zx0 zx1 (0 : Int32) p_144
  else
    nn (m9_turn fl len X I zx0 zx2 (0 : Int32) (0 : Int32)) fun zI2 =>
    nn (m9_turn fl len X zI2 zx0 zx2 (1 : Int32) (0 : Int32)) fun zI4 =>
    nn (m9_turn fl len X zI4 zx0 zx2 (2 : Int32) (0 : Int32)) fun zI6 =>
    lt (zx2 + 1) fun zv8 =>
    zr61 zI6 zx0 zx1 zv8 p_144
noncomputable def m9_begin_61 (fl : Nat) (len : Nat → Nat) (X : Xm) (n : Nat) : Im → Nat → Int32 → Int32 → Nat → Option (Int32 × Im) :=
  Nat.rec (fun _ _ _ _ _ => none) (fun _ r => m9_begin_61b fl len X r) n
set_option maxHeartbeats 4000000 in
set_option maxRecDepth 100000 in
theorem w9_begin_61b {p : Program} {l : Launch} {e : Env} {s : State} {m : MethodId} {args : Array Value} {below : List Frame} {meth : Method} {c : Code} {E : EN} {G : GM} {X : Xm} (C0 : CX p s m args meth c E cX9_begin RX9 3) (hr : meth.sig.returnType = (some .int)) (hz : s.heap.size + 0 ≤ eB E + G.1) {rr : Int32 × Im} (fl : Nat) (zr61 : Im → Nat → Int32 → Int32 → Nat → Option (Int32 × Im)) (zhr61 : ∀ (I : Im) (H : Heap) (locs : List Loc) (ls : Array Slot) (zx0 : Nat) (zx1 : Int32) (zx2 : Int32) (p_144 : Nat) (zt0 : okA E G 9 zx0) (ep_144 : gR X 144 zx0 = some p_144) (tp_144 : okA E G 11 p_144), WD E G I X s.heap H locs → lv_has ls 3 [(0, .ref zx0), (1, .int zx1), (2, .int zx2)] → zr61 I zx0 zx1 zx2 p_144 = some rr → W p l e ({ frames := 1, cells := 0, slots := 0, locals := 23 } : Room) s m args below meth c H locs 0 0 (MQ below (QI E G rr.1 rr.2 X) args s 0 0 (eA E)) (F0 m 61 ls [])) : ∀ (I : Im) (H : Heap) (locs : List Loc) (ls : Array Slot) (zx0 : Nat) (zx1 : Int32) (zx2 : Int32) (p_144 : Nat) (zt0 : okA E G 9 zx0) (ep_144 : gR X 144 zx0 = some p_144) (tp_144 : okA E G 11 p_144), WD E G I X s.heap H locs → lv_has ls 3 [(0, .ref zx0), (1, .int zx1), (2, .int zx2)] → m9_begin_61b fl G.2.2 X zr61 I zx0 zx1 zx2 p_144 = some rr → W p l e ({ frames := 1, cells := 0, slots := 0, locals := 23 } : Room) s m args below meth c H locs 0 0 (MQ below (QI E G rr.1 rr.2 X) args s 0 0 (eA E)) (F0 m 61 ls []) := by
  intro I H locs ls zx0 zx1 zx2 p_144 zt0 ep_144 tp_144 hw hl hf
  unfold m9_begin_61b at hf
  have hx := C0.1; have hb := C0.2.1; have hml := C0.2.2.1; have hown := C0.2.2.2.1; have hts := C0.2.2.2.2.1
  refine lv_iload_n hx hb dX9_begin_61 rfl (lv_at hl 2 rfl) ?_
  refine lv_iconst (v := (4 : Int32)) hx hb dX9_begin_62 (by decide) ?_
  refine lv_icmp_ge (tgt := 93) hx hb dX9_begin_63 (by decide) (fun zc1 => ?_) (fun zc1 => ?_)
  · have hf := ite_t hf zc1
    refine lv_iconst (v := (0 : Int32)) hx hb dX9_begin_93 (by decide) ?_
    refine lv_istore_n (lv' := [(2, .int (0 : Int32)), (0, .ref zx0), (1, .int zx1)]) hx hb dX9_begin_94 rfl hl (by decide) rfl (fun ls hl => ?_)
    exact w9_begin_95 C0 hr hz fl fl I _ _ _ zx0 zx1 (0 : Int32) p_144 zt0 ep_144 tp_144 hw (lv_sub hl [1, 2, 0] rfl) hf
  · have hf := ite_f hf zc1
    refine lv_aload_n hx hb dX9_begin_66 rfl (lv_at hl 0 rfl) ?_
    refine lv_iload_n hx hb dX9_begin_67 rfl (lv_at hl 2 rfl) ?_
    refine lv_iconst (v := (0 : Int32)) hx hb dX9_begin_68 (by decide) ?_
    refine lv_iconst (v := (0 : Int32)) hx hb dX9_begin_69 (by decide) ?_
    obtain ⟨zI2, ze3, hf⟩ := nn_some hf
    refine x_cv (I1 := zI2) (X1 := X) (x_runV (As := [.int zx2, .int (0 : Int32), .int (0 : Int32)]) (rest := []) C0 (c9_turn l E G fl X I zx0 zx2 (0 : Int32) (0 : Int32) zt0 ze3) hw 9 zt0 (by decide) rfl wd120 wd620 wd621 wd622 wd612 ⟨rfl, rfl⟩ hy9_turn ⟨Nat.le_of_ble_eq_true rfl, Nat.le_of_ble_eq_true rfl⟩ rfl hl.1 (Nat.le_of_ble_eq_true rfl) ⟨Nat.zero_le _, Nat.zero_le _⟩ dX9_begin_70) hw (fun H locs hw => ?_)
    refine lv_aload_n hx hb dX9_begin_73 rfl (lv_at hl 0 rfl) ?_
    refine lv_iload_n hx hb dX9_begin_74 rfl (lv_at hl 2 rfl) ?_
    refine lv_iconst (v := (1 : Int32)) hx hb dX9_begin_75 (by decide) ?_
    refine lv_iconst (v := (0 : Int32)) hx hb dX9_begin_76 (by decide) ?_
    obtain ⟨zI4, ze5, hf⟩ := nn_some hf
    refine x_cv (I1 := zI4) (X1 := X) (x_runV (As := [.int zx2, .int (1 : Int32), .int (0 : Int32)]) (rest := []) C0 (c9_turn l E G fl X zI2 zx0 zx2 (1 : Int32) (0 : Int32) zt0 ze5) hw 9 zt0 (by decide) rfl wd120 wd620 wd621 wd622 wd612 ⟨rfl, rfl⟩ hy9_turn ⟨Nat.le_of_ble_eq_true rfl, Nat.le_of_ble_eq_true rfl⟩ rfl hl.1 (Nat.le_of_ble_eq_true rfl) ⟨Nat.zero_le _, Nat.zero_le _⟩ dX9_begin_77) hw (fun H locs hw => ?_)
    refine lv_aload_n hx hb dX9_begin_80 rfl (lv_at hl 0 rfl) ?_
    refine lv_iload_n hx hb dX9_begin_81 rfl (lv_at hl 2 rfl) ?_
    refine lv_iconst (v := (2 : Int32)) hx hb dX9_begin_82 (by decide) ?_
    refine lv_iconst (v := (0 : Int32)) hx hb dX9_begin_83 (by decide) ?_
    obtain ⟨zI6, ze7, hf⟩ := nn_some hf
    refine x_cv (I1 := zI6) (X1 := X) (x_runV (As := [.int zx2, .int (2 : Int32), .int (0 : Int32)]) (rest := []) C0 (c9_turn l E G fl X zI4 zx0 zx2 (2 : Int32) (0 : Int32) zt0 ze7) hw 9 zt0 (by decide) rfl wd120 wd620 wd621 wd622 wd612 ⟨rfl, rfl⟩ hy9_turn ⟨Nat.le_of_ble_eq_true rfl, Nat.le_of_ble_eq_true rfl⟩ rfl hl.1 (Nat.le_of_ble_eq_true rfl) ⟨Nat.zero_le _, Nat.zero_le _⟩ dX9_begin_84) hw (fun H locs hw => ?_)
    obtain ⟨zv8, ezv8⟩ : ∃ y : Int32, y = zx2 + 1 := ⟨_, rfl⟩
    have hf := lt_at hf ezv8
    refine lv_iinc (v := zv8) (lv' := [(2, .int zv8), (0, .ref zx0), (1, .int zx1)]) hx hb dX9_begin_87 hl (k := 2) rfl (by rw [ezv8]; rfl) (by decide) rfl (fun ls hl => ?_)
    refine lv_goto (tgt := 61) hx hb dX9_begin_90 (by decide) ?_
    exact zhr61 zI6 _ _ _ zx0 zx1 zv8 p_144 zt0 ep_144 tp_144 hw (lv_sub hl [1, 2, 0] rfl) hf
theorem w9_begin_61 {p : Program} {l : Launch} {e : Env} {s : State} {m : MethodId} {args : Array Value} {below : List Frame} {meth : Method} {c : Code} {E : EN} {G : GM} {X : Xm} (C0 : CX p s m args meth c E cX9_begin RX9 3) (hr : meth.sig.returnType = (some .int)) (hz : s.heap.size + 0 ≤ eB E + G.1) {rr : Int32 × Im} (fl : Nat) : ∀ (n : Nat) (I : Im) (H : Heap) (locs : List Loc) (ls : Array Slot) (zx0 : Nat) (zx1 : Int32) (zx2 : Int32) (p_144 : Nat) (zt0 : okA E G 9 zx0) (ep_144 : gR X 144 zx0 = some p_144) (tp_144 : okA E G 11 p_144), WD E G I X s.heap H locs → lv_has ls 3 [(0, .ref zx0), (1, .int zx1), (2, .int zx2)] → m9_begin_61 fl G.2.2 X n I zx0 zx1 zx2 p_144 = some rr → W p l e ({ frames := 1, cells := 0, slots := 0, locals := 23 } : Room) s m args below meth c H locs 0 0 (MQ below (QI E G rr.1 rr.2 X) args s 0 0 (eA E)) (F0 m 61 ls []) := by
  intro n
  induction n with
  | zero => intro I H locs ls zx0 zx1 zx2 p_144 zt0 ep_144 tp_144 hw hl hf; exact absurd (show (none : Option (Int32 × Im)) = some rr from hf) (by simp)
  | succ n ih => intro I H locs ls zx0 zx1 zx2 p_144 zt0 ep_144 tp_144 hw hl hf; exact w9_begin_61b C0 hr hz fl _ ih I H locs ls zx0 zx1 zx2 p_144 zt0 ep_144 tp_144 hw hl hf
noncomputable def m9_begin_36b (fl : Nat) (len : Nat → Nat) (X : Xm) (zr36 : Im → Nat → Int32 → Int32 → Nat → Option (Int32 × Im)) (I : Im) (zx0 : Nat) (zx1 : Int32) (zx2 : Int32) (p_144 : Nat) : Option (Int32 × Im) :=
  ck (inb (5 : Int32) (len p_144) = true) <|
  if (gA I p_144 ((5 : Int32)).toNatClampNeg) ≤ zx2 then
    m9_begin_61 fl len X fl I zx0 zx1 (0 : Int32) p_144
  else
    nn (m9_lay fl len X I zx0 zx2 (4 : Int32) (0 : Int32)) fun zI3 =>
    lt (zx2 + 1) fun zv5 =>
    zr36 zI3 zx0 zx1 zv5 p_144
noncomputable def m9_begin_36 (fl : Nat) (len : Nat → Nat) (X : Xm) (n : Nat) : Im → Nat → Int32 → Int32 → Nat → Option (Int32 × Im) :=
  Nat.rec (fun _ _ _ _ _ => none) (fun _ r => m9_begin_36b fl len X r) n
set_option maxHeartbeats 4000000 in
set_option maxRecDepth 100000 in
theorem w9_begin_36b {p : Program} {l : Launch} {e : Env} {s : State} {m : MethodId} {args : Array Value} {below : List Frame} {meth : Method} {c : Code} {E : EN} {G : GM} {X : Xm} (C0 : CX p s m args meth c E cX9_begin RX9 3) (hr : meth.sig.returnType = (some .int)) (hz : s.heap.size + 0 ≤ eB E + G.1) {rr : Int32 × Im} (fl : Nat) (zr36 : Im → Nat → Int32 → Int32 → Nat → Option (Int32 × Im)) (zhr36 : ∀ (I : Im) (H : Heap) (locs : List Loc) (ls : Array Slot) (zx0 : Nat) (zx1 : Int32) (zx2 : Int32) (p_144 : Nat) (zt0 : okA E G 9 zx0) (ep_144 : gR X 144 zx0 = some p_144) (tp_144 : okA E G 11 p_144), WD E G I X s.heap H locs → lv_has ls 3 [(0, .ref zx0), (1, .int zx1), (2, .int zx2)] → zr36 I zx0 zx1 zx2 p_144 = some rr → W p l e ({ frames := 1, cells := 0, slots := 0, locals := 23 } : Room) s m args below meth c H locs 0 0 (MQ below (QI E G rr.1 rr.2 X) args s 0 0 (eA E)) (F0 m 36 ls [])) : ∀ (I : Im) (H : Heap) (locs : List Loc) (ls : Array Slot) (zx0 : Nat) (zx1 : Int32) (zx2 : Int32) (p_144 : Nat) (zt0 : okA E G 9 zx0) (ep_144 : gR X 144 zx0 = some p_144) (tp_144 : okA E G 11 p_144), WD E G I X s.heap H locs → lv_has ls 3 [(0, .ref zx0), (1, .int zx1), (2, .int zx2)] → m9_begin_36b fl G.2.2 X zr36 I zx0 zx1 zx2 p_144 = some rr → W p l e ({ frames := 1, cells := 0, slots := 0, locals := 23 } : Room) s m args below meth c H locs 0 0 (MQ below (QI E G rr.1 rr.2 X) args s 0 0 (eA E)) (F0 m 36 ls []) := by
  intro I H locs ls zx0 zx1 zx2 p_144 zt0 ep_144 tp_144 hw hl hf
  unfold m9_begin_36b at hf
  have hx := C0.1; have hb := C0.2.1; have hml := C0.2.2.1; have hown := C0.2.2.2.1; have hts := C0.2.2.2.2.1
  refine lv_iload_n hx hb dX9_begin_36 rfl (lv_at hl 2 rfl) ?_
  refine lv_aload_n hx hb dX9_begin_37 rfl (lv_at hl 0 rfl) ?_
  refine xg_9_0 C0 hw zt0 wd601 ep_144 dX9_begin_38 ?_
  refine lv_iconst (v := (5 : Int32)) hx hb dX9_begin_41 (by decide) ?_
  obtain ⟨zhb1, hf⟩ := ck_some hf
  refine x_iald C0 hw tp_144 zhb1 dX9_begin_42 ?_
  refine lv_icmp_ge (tgt := 59) hx hb dX9_begin_43 (by decide) (fun zc2 => ?_) (fun zc2 => ?_)
  · have hf := ite_t hf zc2
    refine lv_iconst (v := (0 : Int32)) hx hb dX9_begin_59 (by decide) ?_
    refine lv_istore_n (lv' := [(2, .int (0 : Int32)), (0, .ref zx0), (1, .int zx1)]) hx hb dX9_begin_60 rfl hl (by decide) rfl (fun ls hl => ?_)
    exact w9_begin_61 C0 hr hz fl fl I _ _ _ zx0 zx1 (0 : Int32) p_144 zt0 ep_144 tp_144 hw (lv_sub hl [1, 2, 0] rfl) hf
  · have hf := ite_f hf zc2
    refine lv_aload_n hx hb dX9_begin_46 rfl (lv_at hl 0 rfl) ?_
    refine lv_iload_n hx hb dX9_begin_47 rfl (lv_at hl 2 rfl) ?_
    refine lv_iconst (v := (4 : Int32)) hx hb dX9_begin_48 (by decide) ?_
    refine lv_iconst (v := (0 : Int32)) hx hb dX9_begin_49 (by decide) ?_
    obtain ⟨zI3, ze4, hf⟩ := nn_some hf
    refine x_cv (I1 := zI3) (X1 := X) (x_runV (As := [.int zx2, .int (4 : Int32), .int (0 : Int32)]) (rest := []) C0 (c9_lay l E G fl X I zx0 zx2 (4 : Int32) (0 : Int32) zt0 ze4) hw 9 zt0 (by decide) rfl wd118 wd640 wd641 wd642 wd612 ⟨rfl, rfl⟩ hy9_lay ⟨Nat.le_of_ble_eq_true rfl, Nat.le_of_ble_eq_true rfl⟩ rfl hl.1 (Nat.le_of_ble_eq_true rfl) ⟨Nat.zero_le _, Nat.zero_le _⟩ dX9_begin_50) hw (fun H locs hw => ?_)
    obtain ⟨zv5, ezv5⟩ : ∃ y : Int32, y = zx2 + 1 := ⟨_, rfl⟩
    have hf := lt_at hf ezv5
    refine lv_iinc (v := zv5) (lv' := [(2, .int zv5), (0, .ref zx0), (1, .int zx1)]) hx hb dX9_begin_53 hl (k := 2) rfl (by rw [ezv5]; rfl) (by decide) rfl (fun ls hl => ?_)
    refine lv_goto (tgt := 36) hx hb dX9_begin_56 (by decide) ?_
    exact zhr36 zI3 _ _ _ zx0 zx1 zv5 p_144 zt0 ep_144 tp_144 hw (lv_sub hl [1, 2, 0] rfl) hf
theorem w9_begin_36 {p : Program} {l : Launch} {e : Env} {s : State} {m : MethodId} {args : Array Value} {below : List Frame} {meth : Method} {c : Code} {E : EN} {G : GM} {X : Xm} (C0 : CX p s m args meth c E cX9_begin RX9 3) (hr : meth.sig.returnType = (some .int)) (hz : s.heap.size + 0 ≤ eB E + G.1) {rr : Int32 × Im} (fl : Nat) : ∀ (n : Nat) (I : Im) (H : Heap) (locs : List Loc) (ls : Array Slot) (zx0 : Nat) (zx1 : Int32) (zx2 : Int32) (p_144 : Nat) (zt0 : okA E G 9 zx0) (ep_144 : gR X 144 zx0 = some p_144) (tp_144 : okA E G 11 p_144), WD E G I X s.heap H locs → lv_has ls 3 [(0, .ref zx0), (1, .int zx1), (2, .int zx2)] → m9_begin_36 fl G.2.2 X n I zx0 zx1 zx2 p_144 = some rr → W p l e ({ frames := 1, cells := 0, slots := 0, locals := 23 } : Room) s m args below meth c H locs 0 0 (MQ below (QI E G rr.1 rr.2 X) args s 0 0 (eA E)) (F0 m 36 ls []) := by
  intro n
  induction n with
  | zero => intro I H locs ls zx0 zx1 zx2 p_144 zt0 ep_144 tp_144 hw hl hf; exact absurd (show (none : Option (Int32 × Im)) = some rr from hf) (by simp)
  | succ n ih => intro I H locs ls zx0 zx1 zx2 p_144 zt0 ep_144 tp_144 hw hl hf; exact w9_begin_36b C0 hr hz fl _ ih I H locs ls zx0 zx1 zx2 p_144 zt0 ep_144 tp_144 hw hl hf
noncomputable def m9_begin (fl : Nat) (len : Nat → Nat) (X : Xm) (I : Im) (zx0 : Nat) : Option (Int32 × Im) :=
  nn (m9_changes fl len X I zx0) fun zI1 =>
  nn (gR X 144 zx0) fun zv3 =>
  ck (inb (4 : Int32) (len zv3) = true) <|
  lt ((gA zI1 zv3 ((4 : Int32)).toNatClampNeg)) fun zv5 =>
  lt (pA zI1 zv3 ((4 : Int32)).toNatClampNeg (0 : Int32)) fun zI6 =>
  ck (inb (6 : Int32) (len zv3) = true) <|
  lt (pA zI6 zv3 ((6 : Int32)).toNatClampNeg (0 : Int32)) fun zI8 =>
  ck (inb (7 : Int32) (len zv3) = true) <|
  lt (pA zI8 zv3 ((7 : Int32)).toNatClampNeg (0 : Int32)) fun zI10 =>
  m9_begin_36 fl len X fl zI10 zx0 zv5 (0 : Int32) zv3
theorem hy9_begin : yX9_begin.cls = RX9 ∧ yX9_begin.cls ≠ "java/lang/invoke/MethodHandle" ∧ yX9_begin.cls ≠ "java/lang/invoke/VarHandle" ∧ (parseMethodDescriptor yX9_begin.desc).map (fun d => d.parameters.length) = some 0 := ⟨rfl, by decide +kernel, by decide +kernel, by decide +kernel⟩
set_option maxHeartbeats 4000000 in
set_option maxRecDepth 100000 in
theorem c9_begin (l : Launch) (E : EN) (G : GM) (fl : Nat) (X : Xm) (I : Im) (zx0 : Nat) (zt0 : okA E G 9 zx0) {rr : Int32 × Im} (hf : m9_begin fl G.2.2 X I zx0 = some rr) : MT l yX9_begin cX9_begin 3 (some .int) ({ frames := 1, cells := 0, slots := 0, locals := 23 } : Room) E G I X [.ref zx0] (QI E G rr.1 rr.2 X) 0 0 := by
  refine Met.ofW (cc := cX9_begin) (maxL := 3) (ret := (some .int)) (by decide +kernel) rfl ?_
  intro p e s m args below meth c s₁ B hml hv
  obtain ⟨rfl, hw0, hSE⟩ := hv
  have C0 : CX p s m ([.ref zx0] : List Value).toArray meth c E cX9_begin RX9 3 := ⟨B.exec, B.bytes, hml, findClass_of_methodNamed B.named, fun w hw => atoms_spec (ws := WS yX9_begin cX9_begin 3 (some .int)) B.pre w (List.mem_cons_of_mem _ hw), B.notSynchronized, hSE⟩
  have hz : s.heap.size + 0 ≤ eB E + G.1 := Nat.le_of_eq hw0.2.1
  have hw : WD E G I X s.heap s.heap [] := ⟨hw0, va_S.rf⟩
  have hr := B.returns
  have hx := C0.1; have hb := C0.2.1; have hml := C0.2.2.1; have hown := C0.2.2.2.1; have hts := C0.2.2.2.2.1
  have hl := lv_entry ([.ref zx0]) (n := 3) (Nat.le_of_ble_eq_true rfl)
  rw [lg_entry_eq]
  generalize (lg_sl ([.ref zx0]) ++ List.replicate (3 - (lg_sl ([.ref zx0])).length) Slot.unset).toArray = ls at hl ⊢
  have hl : lv_has ls 3 [(0, .ref zx0)] := hl
  unfold m9_begin at hf
  refine lv_aload_n hx hb dX9_begin_0 rfl (lv_at hl 0 rfl) ?_
  obtain ⟨zI1, ze2, hf⟩ := nn_some hf
  refine x_cv (I1 := zI1) (X1 := X) (x_runV (As := []) (rest := []) C0 (c9_changes l E G fl X I zx0 zt0 ze2) hw 9 zt0 (by decide) rfl wd114 wd662 wd663 wd664 wd612 ⟨rfl, rfl⟩ hy9_changes ⟨Nat.le_of_ble_eq_true rfl, Nat.le_of_ble_eq_true rfl⟩ rfl hl.1 (Nat.le_of_ble_eq_true rfl) ⟨Nat.zero_le _, Nat.zero_le _⟩ dX9_begin_1) hw (fun H locs hw => ?_)
  refine lv_aload_n hx hb dX9_begin_4 rfl (lv_at hl 0 rfl) ?_
  obtain ⟨zv3, ezv3, hf⟩ := nn_some hf
  have tzv3 : okA E G 11 zv3 := wt_r hw ezv3
  refine xg_9_0 C0 hw zt0 wd601 ezv3 dX9_begin_5 ?_
  refine lv_iconst (v := (4 : Int32)) hx hb dX9_begin_8 (by decide) ?_
  obtain ⟨zhb4, hf⟩ := ck_some hf
  refine x_iald C0 hw tzv3 zhb4 dX9_begin_9 ?_
  refine lv_topi (fun zv5 ezv5 => ?_)
  have hf := lt_at hf ezv5
  refine lv_istore_n (lv' := [(1, .int zv5), (0, .ref zx0)]) hx hb dX9_begin_10 rfl hl (by decide) rfl (fun ls hl => ?_)
  refine lv_aload_n hx hb dX9_begin_11 rfl (lv_at hl 1 rfl) ?_
  refine xg_9_0 C0 hw zt0 wd601 ezv3 dX9_begin_12 ?_
  refine lv_iconst (v := (4 : Int32)) hx hb dX9_begin_15 (by decide) ?_
  refine lv_iconst (v := (0 : Int32)) hx hb dX9_begin_16 (by decide) ?_
  obtain ⟨zI6, ezI6⟩ : ∃ y : Im, y = pA zI1 zv3 ((4 : Int32)).toNatClampNeg (0 : Int32) := ⟨_, rfl⟩
  have hf := lt_at hf ezI6
  refine x_iast C0 hz hw tzv3 zhb4 dX9_begin_17 ezI6 (fun H locs hw => ?_)
  refine lv_aload_n hx hb dX9_begin_18 rfl (lv_at hl 1 rfl) ?_
  refine xg_9_0 C0 hw zt0 wd601 ezv3 dX9_begin_19 ?_
  refine lv_bipush (v := (6 : Int32)) hx hb dX9_begin_22 (by decide) ?_
  refine lv_iconst (v := (0 : Int32)) hx hb dX9_begin_24 (by decide) ?_
  obtain ⟨zhb7, hf⟩ := ck_some hf
  obtain ⟨zI8, ezI8⟩ : ∃ y : Im, y = pA zI6 zv3 ((6 : Int32)).toNatClampNeg (0 : Int32) := ⟨_, rfl⟩
  have hf := lt_at hf ezI8
  refine x_iast C0 hz hw tzv3 zhb7 dX9_begin_25 ezI8 (fun H locs hw => ?_)
  refine lv_aload_n hx hb dX9_begin_26 rfl (lv_at hl 1 rfl) ?_
  refine xg_9_0 C0 hw zt0 wd601 ezv3 dX9_begin_27 ?_
  refine lv_bipush (v := (7 : Int32)) hx hb dX9_begin_30 (by decide) ?_
  refine lv_iconst (v := (0 : Int32)) hx hb dX9_begin_32 (by decide) ?_
  obtain ⟨zhb9, hf⟩ := ck_some hf
  obtain ⟨zI10, ezI10⟩ : ∃ y : Im, y = pA zI8 zv3 ((7 : Int32)).toNatClampNeg (0 : Int32) := ⟨_, rfl⟩
  have hf := lt_at hf ezI10
  refine x_iast C0 hz hw tzv3 zhb9 dX9_begin_33 ezI10 (fun H locs hw => ?_)
  refine lv_iconst (v := (0 : Int32)) hx hb dX9_begin_34 (by decide) ?_
  refine lv_istore_n (lv' := [(2, .int (0 : Int32)), (1, .int zv5), (0, .ref zx0)]) hx hb dX9_begin_35 rfl hl (by decide) rfl (fun ls hl => ?_)
  exact w9_begin_36 C0 hr hz fl fl zI10 _ _ _ zx0 zv5 (0 : Int32) zv3 zt0 ezv3 tzv3 hw (lv_sub hl [2, 1, 0] rfl) hf
noncomputable def m9_pass_39b (fl : Nat) (len : Nat → Nat) (X : Xm) (zr39 : Im → Nat → Int32 → Int32 → Int32 → Nat → Option (Int32 × Im)) (I : Im) (zx0 : Nat) (zx1 : Int32) (zx2 : Int32) (zx3 : Int32) (p_144 : Nat) : Option (Int32 × Im) :=
  if zx1 ≤ zx3 then
    some (zx2, I)
  else
    nn (m9_passes fl len X I zx0) fun ⟨zv2, zI3⟩ =>
    lt ((zx2 + zv2)) fun zv5 =>
    lt (zx3 + 1) fun zv6 =>
    zr39 zI3 zx0 zx1 zv5 zv6 p_144
noncomputable def m9_pass_39 (fl : Nat) (len : Nat → Nat) (X : Xm) (n : Nat) : Im → Nat → Int32 → Int32 → Int32 → Nat → Option (Int32 × Im) :=
  Nat.rec (fun _ _ _ _ _ _ => none) (fun _ r => m9_pass_39b fl len X r) n
set_option maxHeartbeats 4000000 in
set_option maxRecDepth 100000 in
theorem w9_pass_39b {p : Program} {l : Launch} {e : Env} {s : State} {m : MethodId} {args : Array Value} {below : List Frame} {meth : Method} {c : Code} {E : EN} {G : GM} {X : Xm} (C0 : CX p s m args meth c E cX9_pass RX9 4) (hr : meth.sig.returnType = (some .int)) (hz : s.heap.size + 0 ≤ eB E + G.1) {rr : Int32 × Im} (fl : Nat) (zr39 : Im → Nat → Int32 → Int32 → Int32 → Nat → Option (Int32 × Im)) (zhr39 : ∀ (I : Im) (H : Heap) (locs : List Loc) (ls : Array Slot) (zx0 : Nat) (zx1 : Int32) (zx2 : Int32) (zx3 : Int32) (p_144 : Nat) (zt0 : okA E G 9 zx0) (ep_144 : gR X 144 zx0 = some p_144) (tp_144 : okA E G 11 p_144), WD E G I X s.heap H locs → lv_has ls 4 [(0, .ref zx0), (1, .int zx1), (2, .int zx2), (3, .int zx3)] → zr39 I zx0 zx1 zx2 zx3 p_144 = some rr → W p l e ({ frames := 4, cells := 0, slots := 0, locals := 93 } : Room) s m args below meth c H locs 0 0 (MQ below (QI E G rr.1 rr.2 X) args s 0 0 (eA E)) (F0 m 39 ls [])) : ∀ (I : Im) (H : Heap) (locs : List Loc) (ls : Array Slot) (zx0 : Nat) (zx1 : Int32) (zx2 : Int32) (zx3 : Int32) (p_144 : Nat) (zt0 : okA E G 9 zx0) (ep_144 : gR X 144 zx0 = some p_144) (tp_144 : okA E G 11 p_144), WD E G I X s.heap H locs → lv_has ls 4 [(0, .ref zx0), (1, .int zx1), (2, .int zx2), (3, .int zx3)] → m9_pass_39b fl G.2.2 X zr39 I zx0 zx1 zx2 zx3 p_144 = some rr → W p l e ({ frames := 4, cells := 0, slots := 0, locals := 93 } : Room) s m args below meth c H locs 0 0 (MQ below (QI E G rr.1 rr.2 X) args s 0 0 (eA E)) (F0 m 39 ls []) := by
  intro I H locs ls zx0 zx1 zx2 zx3 p_144 zt0 ep_144 tp_144 hw hl hf
  unfold m9_pass_39b at hf
  have hx := C0.1; have hb := C0.2.1; have hml := C0.2.2.1; have hown := C0.2.2.2.1; have hts := C0.2.2.2.2.1
  refine lv_iload_n hx hb dX9_pass_39 rfl (lv_at hl 3 rfl) ?_
  refine lv_iload_n hx hb dX9_pass_40 rfl (lv_at hl 1 rfl) ?_
  refine lv_icmp_ge (tgt := 57) hx hb dX9_pass_41 (by decide) (fun zc1 => ?_) (fun zc1 => ?_)
  · have hf := ite_t hf zc1
    refine lv_iload_n hx hb dX9_pass_57 rfl (lv_at hl 2 rfl) ?_
    obtain rfl := Option.some.inj hf
    exact x_iret C0 hr hw dX9_pass_58
  · have hf := ite_f hf zc1
    refine lv_iload_n hx hb dX9_pass_44 rfl (lv_at hl 2 rfl) ?_
    refine lv_aload_n hx hb dX9_pass_45 rfl (lv_at hl 0 rfl) ?_
    obtain ⟨⟨zv2, zI3⟩, ze4, hf⟩ := nn_some hf
    refine x_ci (r := zv2) (I1 := zI3) (X1 := X) (x_runV (As := []) (rest := [.int zx2]) C0 (c9_passes l E G fl X I zx0 zt0 ze4) hw 9 zt0 (by decide) rfl wd135 wd683 wd684 wd685 wd612 ⟨rfl, rfl⟩ hy9_passes ⟨Nat.le_of_ble_eq_true rfl, Nat.le_of_ble_eq_true rfl⟩ rfl hl.1 (Nat.le_of_ble_eq_true rfl) ⟨Nat.zero_le _, Nat.zero_le _⟩ dX9_pass_46) hw (fun H locs hw => ?_)
    refine lv_iadd hx hb dX9_pass_49 ?_
    refine lv_topi (fun zv5 ezv5 => ?_)
    have hf := lt_at hf ezv5
    refine lv_istore_n (lv' := [(2, .int zv5), (0, .ref zx0), (1, .int zx1), (3, .int zx3)]) hx hb dX9_pass_50 rfl hl (by decide) rfl (fun ls hl => ?_)
    obtain ⟨zv6, ezv6⟩ : ∃ y : Int32, y = zx3 + 1 := ⟨_, rfl⟩
    have hf := lt_at hf ezv6
    refine lv_iinc (v := zv6) (lv' := [(3, .int zv6), (2, .int zv5), (0, .ref zx0), (1, .int zx1)]) hx hb dX9_pass_51 hl (k := 3) rfl (by rw [ezv6]; rfl) (by decide) rfl (fun ls hl => ?_)
    refine lv_goto (tgt := 39) hx hb dX9_pass_54 (by decide) ?_
    exact zhr39 zI3 _ _ _ zx0 zx1 zv5 zv6 p_144 zt0 ep_144 tp_144 hw (lv_sub hl [2, 3, 1, 0] rfl) hf
theorem w9_pass_39 {p : Program} {l : Launch} {e : Env} {s : State} {m : MethodId} {args : Array Value} {below : List Frame} {meth : Method} {c : Code} {E : EN} {G : GM} {X : Xm} (C0 : CX p s m args meth c E cX9_pass RX9 4) (hr : meth.sig.returnType = (some .int)) (hz : s.heap.size + 0 ≤ eB E + G.1) {rr : Int32 × Im} (fl : Nat) : ∀ (n : Nat) (I : Im) (H : Heap) (locs : List Loc) (ls : Array Slot) (zx0 : Nat) (zx1 : Int32) (zx2 : Int32) (zx3 : Int32) (p_144 : Nat) (zt0 : okA E G 9 zx0) (ep_144 : gR X 144 zx0 = some p_144) (tp_144 : okA E G 11 p_144), WD E G I X s.heap H locs → lv_has ls 4 [(0, .ref zx0), (1, .int zx1), (2, .int zx2), (3, .int zx3)] → m9_pass_39 fl G.2.2 X n I zx0 zx1 zx2 zx3 p_144 = some rr → W p l e ({ frames := 4, cells := 0, slots := 0, locals := 93 } : Room) s m args below meth c H locs 0 0 (MQ below (QI E G rr.1 rr.2 X) args s 0 0 (eA E)) (F0 m 39 ls []) := by
  intro n
  induction n with
  | zero => intro I H locs ls zx0 zx1 zx2 zx3 p_144 zt0 ep_144 tp_144 hw hl hf; exact absurd (show (none : Option (Int32 × Im)) = some rr from hf) (by simp)
  | succ n ih => intro I H locs ls zx0 zx1 zx2 zx3 p_144 zt0 ep_144 tp_144 hw hl hf; exact w9_pass_39b C0 hr hz fl _ ih I H locs ls zx0 zx1 zx2 zx3 p_144 zt0 ep_144 tp_144 hw hl hf
noncomputable def m9_pass (fl : Nat) (len : Nat → Nat) (X : Xm) (I : Im) (zx0 : Nat) (zx1 : Int32) : Option (Int32 × Im) :=
  nn (m9_in fl len X I zx1 (1 : Int32) (200 : Int32)) fun zv1 =>
  if zv1 = 0 then
    some ((-2 : Int32), I)
  else
    nn (gR X 144 zx0) fun zv4 =>
    ck (inb (4 : Int32) (len zv4) = true) <|
    if ((gA I zv4 ((4 : Int32)).toNatClampNeg) + zx1) ≤ (1200 : Int32) then
      nn (m9_changes fl len X I zx0) fun zI7 =>
      m9_pass_39 fl len X fl zI7 zx0 zx1 (0 : Int32) (0 : Int32) zv4
    else
      some ((-5 : Int32), I)
theorem hy9_pass : yX9_pass.cls = RX9 ∧ yX9_pass.cls ≠ "java/lang/invoke/MethodHandle" ∧ yX9_pass.cls ≠ "java/lang/invoke/VarHandle" ∧ (parseMethodDescriptor yX9_pass.desc).map (fun d => d.parameters.length) = some 1 := ⟨rfl, by decide +kernel, by decide +kernel, by decide +kernel⟩
set_option maxHeartbeats 4000000 in
set_option maxRecDepth 100000 in
theorem c9_pass (l : Launch) (E : EN) (G : GM) (fl : Nat) (X : Xm) (I : Im) (zx0 : Nat) (zx1 : Int32) (zt0 : okA E G 9 zx0) {rr : Int32 × Im} (hf : m9_pass fl G.2.2 X I zx0 zx1 = some rr) : MT l yX9_pass cX9_pass 4 (some .int) ({ frames := 4, cells := 0, slots := 0, locals := 93 } : Room) E G I X [.ref zx0, .int zx1] (QI E G rr.1 rr.2 X) 0 0 := by
  refine Met.ofW (cc := cX9_pass) (maxL := 4) (ret := (some .int)) (by decide +kernel) rfl ?_
  intro p e s m args below meth c s₁ B hml hv
  obtain ⟨rfl, hw0, hSE⟩ := hv
  have C0 : CX p s m ([.ref zx0, .int zx1] : List Value).toArray meth c E cX9_pass RX9 4 := ⟨B.exec, B.bytes, hml, findClass_of_methodNamed B.named, fun w hw => atoms_spec (ws := WS yX9_pass cX9_pass 4 (some .int)) B.pre w (List.mem_cons_of_mem _ hw), B.notSynchronized, hSE⟩
  have hz : s.heap.size + 0 ≤ eB E + G.1 := Nat.le_of_eq hw0.2.1
  have hw : WD E G I X s.heap s.heap [] := ⟨hw0, va_S.rf⟩
  have hr := B.returns
  have hx := C0.1; have hb := C0.2.1; have hml := C0.2.2.1; have hown := C0.2.2.2.1; have hts := C0.2.2.2.2.1
  have hl := lv_entry ([.ref zx0, .int zx1]) (n := 4) (Nat.le_of_ble_eq_true rfl)
  rw [lg_entry_eq]
  generalize (lg_sl ([.ref zx0, .int zx1]) ++ List.replicate (4 - (lg_sl ([.ref zx0, .int zx1])).length) Slot.unset).toArray = ls at hl ⊢
  have hl : lv_has ls 4 [(0, .ref zx0), (1, .int zx1)] := hl
  unfold m9_pass at hf
  refine lv_iload_n hx hb dX9_pass_0 rfl (lv_at hl 1 rfl) ?_
  refine lv_iconst (v := (1 : Int32)) hx hb dX9_pass_1 (by decide) ?_
  refine lv_sipush (v := (200 : Int32)) hx hb dX9_pass_2 (by decide) ?_
  obtain ⟨zv1, ze2, hf⟩ := nn_some hf
  refine x_ci (r := zv1) (I1 := I) (X1 := X) (x_runS (As := [.int zx1, .int (1 : Int32), .int (200 : Int32)]) (rest := []) C0 (c9_in l E G fl X I zx1 (1 : Int32) (200 : Int32) ze2) hw wd113 wd610 wd611 wd612 ⟨rfl, rfl⟩ hy9_in ⟨Nat.le_of_ble_eq_true rfl, Nat.le_of_ble_eq_true rfl⟩ rfl hl.1 (Nat.le_of_ble_eq_true rfl) ⟨Nat.zero_le _, Nat.zero_le _⟩ dX9_pass_5) hw (fun H locs hw => ?_)
  refine lv_if_ne (tgt := 14) hx hb dX9_pass_8 (by decide) (fun zc3 => ?_) (fun zc3 => ?_)
  · have hf := ite_f hf zc3
    refine lv_aload_n hx hb dX9_pass_14 rfl (lv_at hl 0 rfl) ?_
    obtain ⟨zv4, ezv4, hf⟩ := nn_some hf
    have tzv4 : okA E G 11 zv4 := wt_r hw ezv4
    refine xg_9_0 C0 hw zt0 wd601 ezv4 dX9_pass_15 ?_
    refine lv_iconst (v := (4 : Int32)) hx hb dX9_pass_18 (by decide) ?_
    obtain ⟨zhb5, hf⟩ := ck_some hf
    refine x_iald C0 hw tzv4 zhb5 dX9_pass_19 ?_
    refine lv_iload_n hx hb dX9_pass_20 rfl (lv_at hl 1 rfl) ?_
    refine lv_iadd hx hb dX9_pass_21 ?_
    refine lv_sipush (v := (1200 : Int32)) hx hb dX9_pass_22 (by decide) ?_
    refine lv_icmp_le (tgt := 31) hx hb dX9_pass_25 (by decide) (fun zc6 => ?_) (fun zc6 => ?_)
    · have hf := ite_t hf zc6
      refine lv_aload_n hx hb dX9_pass_31 rfl (lv_at hl 0 rfl) ?_
      obtain ⟨zI7, ze8, hf⟩ := nn_some hf
      refine x_cv (I1 := zI7) (X1 := X) (x_runV (As := []) (rest := []) C0 (c9_changes l E G fl X I zx0 zt0 ze8) hw 9 zt0 (by decide) rfl wd114 wd662 wd663 wd664 wd612 ⟨rfl, rfl⟩ hy9_changes ⟨Nat.le_of_ble_eq_true rfl, Nat.le_of_ble_eq_true rfl⟩ rfl hl.1 (Nat.le_of_ble_eq_true rfl) ⟨Nat.zero_le _, Nat.zero_le _⟩ dX9_pass_32) hw (fun H locs hw => ?_)
      refine lv_iconst (v := (0 : Int32)) hx hb dX9_pass_35 (by decide) ?_
      refine lv_istore_n (lv' := [(2, .int (0 : Int32)), (0, .ref zx0), (1, .int zx1)]) hx hb dX9_pass_36 rfl hl (by decide) rfl (fun ls hl => ?_)
      refine lv_iconst (v := (0 : Int32)) hx hb dX9_pass_37 (by decide) ?_
      refine lv_istore_n (lv' := [(3, .int (0 : Int32)), (2, .int (0 : Int32)), (0, .ref zx0), (1, .int zx1)]) hx hb dX9_pass_38 rfl hl (by decide) rfl (fun ls hl => ?_)
      exact w9_pass_39 C0 hr hz fl fl zI7 _ _ _ zx0 zx1 (0 : Int32) (0 : Int32) zv4 zt0 ezv4 tzv4 hw (lv_sub hl [2, 3, 1, 0] rfl) hf
    · have hf := ite_f hf zc6
      refine lv_bipush (v := (-5 : Int32)) hx hb dX9_pass_28 (by decide) ?_
      obtain rfl := Option.some.inj hf
      exact x_iret C0 hr hw dX9_pass_30
  · have hf := ite_t hf zc3
    refine lv_bipush (v := (-2 : Int32)) hx hb dX9_pass_11 (by decide) ?_
    obtain rfl := Option.some.inj hf
    exact x_iret C0 hr hw dX9_pass_13
noncomputable def m9_ofCue_32 (fl : Nat) (len : Nat → Nat) (X : Xm) (I : Im) (zs0 : Int32) : Option (Int32) :=
  some (zs0)
set_option maxHeartbeats 4000000 in
set_option maxRecDepth 100000 in
theorem w9_ofCue_32 {p : Program} {l : Launch} {e : Env} {s : State} {m : MethodId} {args : Array Value} {below : List Frame} {meth : Method} {c : Code} {E : EN} {G : GM} {X : Xm} {I : Im} (C0 : CX p s m args meth c E cX9_ofCue RX9 3) (hr : meth.sig.returnType = (some .int)) (hz : s.heap.size + 0 ≤ eB E + G.1) {rr : Int32} (fl : Nat) : ∀ (H : Heap) (locs : List Loc) (ls : Array Slot) (zs0 : Int32) , WD E G I X s.heap H locs → lv_has ls 3 [] → m9_ofCue_32 fl G.2.2 X I zs0 = some rr → W p l e ({ frames := 2, cells := 0, slots := 0, locals := 43 } : Room) s m args below meth c H locs 0 0 (MQ below (QI E G rr I X) args s 0 0 (eA E)) (F0 m 32 ls [.int zs0]) := by
  intro H locs ls zs0 hw hl hf
  unfold m9_ofCue_32 at hf
  have hx := C0.1; have hb := C0.2.1; have hml := C0.2.2.1; have hown := C0.2.2.2.1; have hts := C0.2.2.2.2.1
  obtain rfl := Option.some.inj hf
  exact x_iret C0 hr hw dX9_ofCue_32
noncomputable def m9_ofCue (fl : Nat) (len : Nat → Nat) (X : Xm) (I : Im) (zx0 : Nat) (zx1 : Int32) (zx2 : Int32) : Option (Int32) :=
  nn (m9_isCue fl len X I zx0 zx1) fun zv1 =>
  if zv1 = 0 then
    m9_ofCue_32 fl len X I (-1 : Int32)
  else
    nn (m9_in fl len X I zx2 (0 : Int32) (4 : Int32)) fun zv4 =>
    if zv4 = 0 then
      m9_ofCue_32 fl len X I (-2 : Int32)
    else
      nn (m9_of fl len X I zx0 zx1 zx2) fun zv7 =>
      m9_ofCue_32 fl len X I zv7
theorem hy9_ofCue : yX9_ofCue.cls = RX9 ∧ yX9_ofCue.cls ≠ "java/lang/invoke/MethodHandle" ∧ yX9_ofCue.cls ≠ "java/lang/invoke/VarHandle" ∧ (parseMethodDescriptor yX9_ofCue.desc).map (fun d => d.parameters.length) = some 2 := ⟨rfl, by decide +kernel, by decide +kernel, by decide +kernel⟩
set_option maxHeartbeats 4000000 in
set_option maxRecDepth 100000 in
theorem c9_ofCue (l : Launch) (E : EN) (G : GM) (fl : Nat) (X : Xm) (I : Im) (zx0 : Nat) (zx1 : Int32) (zx2 : Int32) (zt0 : okA E G 9 zx0) {rr : Int32} (hf : m9_ofCue fl G.2.2 X I zx0 zx1 zx2 = some rr) : MT l yX9_ofCue cX9_ofCue 3 (some .int) ({ frames := 2, cells := 0, slots := 0, locals := 43 } : Room) E G I X [.ref zx0, .int zx1, .int zx2] (QI E G rr I X) 0 0 := by
  refine Met.ofW (cc := cX9_ofCue) (maxL := 3) (ret := (some .int)) (by decide +kernel) rfl ?_
  intro p e s m args below meth c s₁ B hml hv
  obtain ⟨rfl, hw0, hSE⟩ := hv
  have C0 : CX p s m ([.ref zx0, .int zx1, .int zx2] : List Value).toArray meth c E cX9_ofCue RX9 3 := ⟨B.exec, B.bytes, hml, findClass_of_methodNamed B.named, fun w hw => atoms_spec (ws := WS yX9_ofCue cX9_ofCue 3 (some .int)) B.pre w (List.mem_cons_of_mem _ hw), B.notSynchronized, hSE⟩
  have hz : s.heap.size + 0 ≤ eB E + G.1 := Nat.le_of_eq hw0.2.1
  have hw : WD E G I X s.heap s.heap [] := ⟨hw0, va_S.rf⟩
  have hr := B.returns
  have hx := C0.1; have hb := C0.2.1; have hml := C0.2.2.1; have hown := C0.2.2.2.1; have hts := C0.2.2.2.2.1
  have hl := lv_entry ([.ref zx0, .int zx1, .int zx2]) (n := 3) (Nat.le_of_ble_eq_true rfl)
  rw [lg_entry_eq]
  generalize (lg_sl ([.ref zx0, .int zx1, .int zx2]) ++ List.replicate (3 - (lg_sl ([.ref zx0, .int zx1, .int zx2])).length) Slot.unset).toArray = ls at hl ⊢
  have hl : lv_has ls 3 [(0, .ref zx0), (1, .int zx1), (2, .int zx2)] := hl
  unfold m9_ofCue at hf
  refine lv_aload_n hx hb dX9_ofCue_0 rfl (lv_at hl 0 rfl) ?_
  refine lv_iload_n hx hb dX9_ofCue_1 rfl (lv_at hl 1 rfl) ?_
  obtain ⟨zv1, ze2, hf⟩ := nn_some hf
  refine x_ci (r := zv1) (I1 := I) (X1 := X) (x_runV (As := [.int zx1]) (rest := []) C0 (c9_isCue l E G fl X I zx0 zx1 zt0 ze2) hw 9 zt0 (by decide) rfl wd122 wd671 wd672 wd673 wd612 ⟨rfl, rfl⟩ hy9_isCue ⟨Nat.le_of_ble_eq_true rfl, Nat.le_of_ble_eq_true rfl⟩ rfl hl.1 (Nat.le_of_ble_eq_true rfl) ⟨Nat.zero_le _, Nat.zero_le _⟩ dX9_ofCue_2) hw (fun H locs hw => ?_)
  refine lv_if_ne (tgt := 12) hx hb dX9_ofCue_5 (by decide) (fun zc3 => ?_) (fun zc3 => ?_)
  · have hf := ite_f hf zc3
    refine lv_iload_n hx hb dX9_ofCue_12 rfl (lv_at hl 2 rfl) ?_
    refine lv_iconst (v := (0 : Int32)) hx hb dX9_ofCue_13 (by decide) ?_
    refine lv_iconst (v := (4 : Int32)) hx hb dX9_ofCue_14 (by decide) ?_
    obtain ⟨zv4, ze5, hf⟩ := nn_some hf
    refine x_ci (r := zv4) (I1 := I) (X1 := X) (x_runS (As := [.int zx2, .int (0 : Int32), .int (4 : Int32)]) (rest := []) C0 (c9_in l E G fl X I zx2 (0 : Int32) (4 : Int32) ze5) hw wd113 wd610 wd611 wd612 ⟨rfl, rfl⟩ hy9_in ⟨Nat.le_of_ble_eq_true rfl, Nat.le_of_ble_eq_true rfl⟩ rfl hl.1 (Nat.le_of_ble_eq_true rfl) ⟨Nat.zero_le _, Nat.zero_le _⟩ dX9_ofCue_15) hw (fun H locs hw => ?_)
    refine lv_if_eq (tgt := 30) hx hb dX9_ofCue_18 (by decide) (fun zc6 => ?_) (fun zc6 => ?_)
    · have hf := ite_t hf zc6
      refine lv_bipush (v := (-2 : Int32)) hx hb dX9_ofCue_30 (by decide) ?_
      exact w9_ofCue_32 C0 hr hz fl _ _ _ (-2 : Int32) hw (lv_sub hl [] rfl) hf
    · have hf := ite_f hf zc6
      refine lv_aload_n hx hb dX9_ofCue_21 rfl (lv_at hl 0 rfl) ?_
      refine lv_iload_n hx hb dX9_ofCue_22 rfl (lv_at hl 1 rfl) ?_
      refine lv_iload_n hx hb dX9_ofCue_23 rfl (lv_at hl 2 rfl) ?_
      obtain ⟨zv7, ze8, hf⟩ := nn_some hf
      refine x_ci (r := zv7) (I1 := I) (X1 := X) (x_runV (As := [.int zx1, .int zx2]) (rest := []) C0 (c9_of l E G fl X I zx0 zx1 zx2 zt0 ze8) hw 9 zt0 (by decide) rfl wd117 wd623 wd624 wd625 wd612 ⟨rfl, rfl⟩ hy9_of ⟨Nat.le_of_ble_eq_true rfl, Nat.le_of_ble_eq_true rfl⟩ rfl hl.1 (Nat.le_of_ble_eq_true rfl) ⟨Nat.zero_le _, Nat.zero_le _⟩ dX9_ofCue_24) hw (fun H locs hw => ?_)
      refine lv_goto (tgt := 32) hx hb dX9_ofCue_27 (by decide) ?_
      exact w9_ofCue_32 C0 hr hz fl _ _ _ zv7 hw (lv_sub hl [] rfl) hf
  · have hf := ite_t hf zc3
    refine lv_iconst (v := (-1 : Int32)) hx hb dX9_ofCue_8 (by decide) ?_
    refine lv_goto (tgt := 32) hx hb dX9_ofCue_9 (by decide) ?_
    exact w9_ofCue_32 C0 hr hz fl _ _ _ (-1 : Int32) hw (lv_sub hl [] rfl) hf
noncomputable def m9_ofReel_77 (fl : Nat) (len : Nat → Nat) (X : Xm) (I : Im) (zs0 : Int32) : Option (Int32) :=
  some (zs0)
set_option maxHeartbeats 4000000 in
set_option maxRecDepth 100000 in
theorem w9_ofReel_77 {p : Program} {l : Launch} {e : Env} {s : State} {m : MethodId} {args : Array Value} {below : List Frame} {meth : Method} {c : Code} {E : EN} {G : GM} {X : Xm} {I : Im} (C0 : CX p s m args meth c E cX9_ofReel RX9 3) (hr : meth.sig.returnType = (some .int)) (hz : s.heap.size + 0 ≤ eB E + G.1) {rr : Int32} (fl : Nat) : ∀ (H : Heap) (locs : List Loc) (ls : Array Slot) (zs0 : Int32) , WD E G I X s.heap H locs → lv_has ls 3 [] → m9_ofReel_77 fl G.2.2 X I zs0 = some rr → W p l e ({ frames := 2, cells := 0, slots := 0, locals := 45 } : Room) s m args below meth c H locs 0 0 (MQ below (QI E G rr I X) args s 0 0 (eA E)) (F0 m 77 ls [.int zs0]) := by
  intro H locs ls zs0 hw hl hf
  unfold m9_ofReel_77 at hf
  have hx := C0.1; have hb := C0.2.1; have hml := C0.2.2.1; have hown := C0.2.2.2.1; have hts := C0.2.2.2.2.1
  obtain rfl := Option.some.inj hf
  exact x_iret C0 hr hw dX9_ofReel_77
noncomputable def m9_ofReel (fl : Nat) (len : Nat → Nat) (X : Xm) (I : Im) (zx0 : Nat) (zx1 : Int32) (zx2 : Int32) : Option (Int32) :=
  nn (m9_isReel fl len X I zx1) fun zv1 =>
  if zv1 = 0 then
    some ((-1 : Int32))
  else
    if zx2 = (0 : Int32) then
      nn (m9_reel fl len X I zx0 zx1 (0 : Int32)) fun zv5 =>
      some (zv5)
    else
      if zx2 = (1 : Int32) then
        nn (m9_reel fl len X I zx0 zx1 (1 : Int32)) fun zv8 =>
        if zv8 ≤ 0 then
          m9_ofReel_77 fl len X I (-6 : Int32)
        else
          nn (m9_reel fl len X I zx0 zx1 (1 : Int32)) fun zv11 =>
          m9_ofReel_77 fl len X I (zv11 - (1 : Int32))
      else
        if zx2 = (2 : Int32) then
          nn (m9_reel fl len X I zx0 zx1 (2 : Int32)) fun zv14 =>
          some (zv14)
        else
          if zx2 = (3 : Int32) then
            nn (m9_reel fl len X I zx0 zx1 (3 : Int32)) fun zv17 =>
            some (zv17)
          else
            if zx2 = (4 : Int32) then
              nn (m9_reel fl len X I zx0 zx1 (3 : Int32)) fun zv20 =>
              nn (m9_beginning fl len X I zx0 zx1 zv20) fun zv22 =>
              some (zv22)
            else
              if zx2 = (5 : Int32) then
                nn (m9_next fl len X I zx0 zx1) fun zv25 =>
                some (zv25)
              else
                some ((-2 : Int32))
theorem hy9_ofReel : yX9_ofReel.cls = RX9 ∧ yX9_ofReel.cls ≠ "java/lang/invoke/MethodHandle" ∧ yX9_ofReel.cls ≠ "java/lang/invoke/VarHandle" ∧ (parseMethodDescriptor yX9_ofReel.desc).map (fun d => d.parameters.length) = some 2 := ⟨rfl, by decide +kernel, by decide +kernel, by decide +kernel⟩
set_option maxHeartbeats 4000000 in
set_option maxRecDepth 100000 in
theorem c9_ofReel (l : Launch) (E : EN) (G : GM) (fl : Nat) (X : Xm) (I : Im) (zx0 : Nat) (zx1 : Int32) (zx2 : Int32) (zt0 : okA E G 9 zx0) {rr : Int32} (hf : m9_ofReel fl G.2.2 X I zx0 zx1 zx2 = some rr) : MT l yX9_ofReel cX9_ofReel 3 (some .int) ({ frames := 2, cells := 0, slots := 0, locals := 45 } : Room) E G I X [.ref zx0, .int zx1, .int zx2] (QI E G rr I X) 0 0 := by
  refine Met.ofW (cc := cX9_ofReel) (maxL := 3) (ret := (some .int)) (by decide +kernel) rfl ?_
  intro p e s m args below meth c s₁ B hml hv
  obtain ⟨rfl, hw0, hSE⟩ := hv
  have C0 : CX p s m ([.ref zx0, .int zx1, .int zx2] : List Value).toArray meth c E cX9_ofReel RX9 3 := ⟨B.exec, B.bytes, hml, findClass_of_methodNamed B.named, fun w hw => atoms_spec (ws := WS yX9_ofReel cX9_ofReel 3 (some .int)) B.pre w (List.mem_cons_of_mem _ hw), B.notSynchronized, hSE⟩
  have hz : s.heap.size + 0 ≤ eB E + G.1 := Nat.le_of_eq hw0.2.1
  have hw : WD E G I X s.heap s.heap [] := ⟨hw0, va_S.rf⟩
  have hr := B.returns
  have hx := C0.1; have hb := C0.2.1; have hml := C0.2.2.1; have hown := C0.2.2.2.1; have hts := C0.2.2.2.2.1
  have hl := lv_entry ([.ref zx0, .int zx1, .int zx2]) (n := 3) (Nat.le_of_ble_eq_true rfl)
  rw [lg_entry_eq]
  generalize (lg_sl ([.ref zx0, .int zx1, .int zx2]) ++ List.replicate (3 - (lg_sl ([.ref zx0, .int zx1, .int zx2])).length) Slot.unset).toArray = ls at hl ⊢
  have hl : lv_has ls 3 [(0, .ref zx0), (1, .int zx1), (2, .int zx2)] := hl
  unfold m9_ofReel at hf
  refine lv_iload_n hx hb dX9_ofReel_0 rfl (lv_at hl 1 rfl) ?_
  obtain ⟨zv1, ze2, hf⟩ := nn_some hf
  refine x_ci (r := zv1) (I1 := I) (X1 := X) (x_runS (As := [.int zx1]) (rest := []) C0 (c9_isReel l E G fl X I zx1 ze2) hw wd123 wd613 wd614 wd612 ⟨rfl, rfl⟩ hy9_isReel ⟨Nat.le_of_ble_eq_true rfl, Nat.le_of_ble_eq_true rfl⟩ rfl hl.1 (Nat.le_of_ble_eq_true rfl) ⟨Nat.zero_le _, Nat.zero_le _⟩ dX9_ofReel_1) hw (fun H locs hw => ?_)
  refine lv_if_ne (tgt := 9) hx hb dX9_ofReel_4 (by decide) (fun zc3 => ?_) (fun zc3 => ?_)
  · have hf := ite_f hf zc3
    refine lv_iload_n hx hb dX9_ofReel_9 rfl (lv_at hl 2 rfl) ?_
    by_cases zc4 : zx2 = (0 : Int32)
    · have hf := ite_t hf zc4
      refine lv_tableIn (off := 38) (tgt := 48) hx hb dX9_ofReel_10 (by rw [zc4]; decide) (by rw [zc4]; decide) (by rw [zc4]; rfl) (by decide) ?_
      refine lv_aload_n hx hb dX9_ofReel_48 rfl (lv_at hl 0 rfl) ?_
      refine lv_iload_n hx hb dX9_ofReel_49 rfl (lv_at hl 1 rfl) ?_
      refine lv_iconst (v := (0 : Int32)) hx hb dX9_ofReel_50 (by decide) ?_
      obtain ⟨zv5, ze6, hf⟩ := nn_some hf
      refine x_ci (r := zv5) (I1 := I) (X1 := X) (x_runV (As := [.int zx1, .int (0 : Int32)]) (rest := []) C0 (c9_reel l E G fl X I zx0 zx1 (0 : Int32) zt0 ze6) hw 9 zt0 (by decide) rfl wd119 wd615 wd616 wd617 wd612 ⟨rfl, rfl⟩ hy9_reel ⟨Nat.le_of_ble_eq_true rfl, Nat.le_of_ble_eq_true rfl⟩ rfl hl.1 (Nat.le_of_ble_eq_true rfl) ⟨Nat.zero_le _, Nat.zero_le _⟩ dX9_ofReel_51) hw (fun H locs hw => ?_)
      obtain rfl := Option.some.inj hf
      exact x_iret C0 hr hw dX9_ofReel_54
    · have hf := ite_f hf zc4
      by_cases zc7 : zx2 = (1 : Int32)
      · have hf := ite_t hf zc7
        refine lv_tableIn (off := 45) (tgt := 55) hx hb dX9_ofReel_10 (by rw [zc7]; decide) (by rw [zc7]; decide) (by rw [zc7]; rfl) (by decide) ?_
        refine lv_aload_n hx hb dX9_ofReel_55 rfl (lv_at hl 0 rfl) ?_
        refine lv_iload_n hx hb dX9_ofReel_56 rfl (lv_at hl 1 rfl) ?_
        refine lv_iconst (v := (1 : Int32)) hx hb dX9_ofReel_57 (by decide) ?_
        obtain ⟨zv8, ze9, hf⟩ := nn_some hf
        refine x_ci (r := zv8) (I1 := I) (X1 := X) (x_runV (As := [.int zx1, .int (1 : Int32)]) (rest := []) C0 (c9_reel l E G fl X I zx0 zx1 (1 : Int32) zt0 ze9) hw 9 zt0 (by decide) rfl wd119 wd615 wd616 wd617 wd612 ⟨rfl, rfl⟩ hy9_reel ⟨Nat.le_of_ble_eq_true rfl, Nat.le_of_ble_eq_true rfl⟩ rfl hl.1 (Nat.le_of_ble_eq_true rfl) ⟨Nat.zero_le _, Nat.zero_le _⟩ dX9_ofReel_58) hw (fun H locs hw => ?_)
        refine lv_if_le (tgt := 75) hx hb dX9_ofReel_61 (by decide) (fun zc10 => ?_) (fun zc10 => ?_)
        · have hf := ite_t hf zc10
          refine lv_bipush (v := (-6 : Int32)) hx hb dX9_ofReel_75 (by decide) ?_
          exact w9_ofReel_77 C0 hr hz fl _ _ _ (-6 : Int32) hw (lv_sub hl [] rfl) hf
        · have hf := ite_f hf zc10
          refine lv_aload_n hx hb dX9_ofReel_64 rfl (lv_at hl 0 rfl) ?_
          refine lv_iload_n hx hb dX9_ofReel_65 rfl (lv_at hl 1 rfl) ?_
          refine lv_iconst (v := (1 : Int32)) hx hb dX9_ofReel_66 (by decide) ?_
          obtain ⟨zv11, ze12, hf⟩ := nn_some hf
          refine x_ci (r := zv11) (I1 := I) (X1 := X) (x_runV (As := [.int zx1, .int (1 : Int32)]) (rest := []) C0 (c9_reel l E G fl X I zx0 zx1 (1 : Int32) zt0 ze12) hw 9 zt0 (by decide) rfl wd119 wd615 wd616 wd617 wd612 ⟨rfl, rfl⟩ hy9_reel ⟨Nat.le_of_ble_eq_true rfl, Nat.le_of_ble_eq_true rfl⟩ rfl hl.1 (Nat.le_of_ble_eq_true rfl) ⟨Nat.zero_le _, Nat.zero_le _⟩ dX9_ofReel_67) hw (fun H locs hw => ?_)
          refine lv_iconst (v := (1 : Int32)) hx hb dX9_ofReel_70 (by decide) ?_
          refine lv_isub hx hb dX9_ofReel_71 ?_
          refine lv_goto (tgt := 77) hx hb dX9_ofReel_72 (by decide) ?_
          exact w9_ofReel_77 C0 hr hz fl _ _ _ (zv11 - (1 : Int32)) hw (lv_sub hl [] rfl) hf
      · have hf := ite_f hf zc7
        by_cases zc13 : zx2 = (2 : Int32)
        · have hf := ite_t hf zc13
          refine lv_tableIn (off := 68) (tgt := 78) hx hb dX9_ofReel_10 (by rw [zc13]; decide) (by rw [zc13]; decide) (by rw [zc13]; rfl) (by decide) ?_
          refine lv_aload_n hx hb dX9_ofReel_78 rfl (lv_at hl 0 rfl) ?_
          refine lv_iload_n hx hb dX9_ofReel_79 rfl (lv_at hl 1 rfl) ?_
          refine lv_iconst (v := (2 : Int32)) hx hb dX9_ofReel_80 (by decide) ?_
          obtain ⟨zv14, ze15, hf⟩ := nn_some hf
          refine x_ci (r := zv14) (I1 := I) (X1 := X) (x_runV (As := [.int zx1, .int (2 : Int32)]) (rest := []) C0 (c9_reel l E G fl X I zx0 zx1 (2 : Int32) zt0 ze15) hw 9 zt0 (by decide) rfl wd119 wd615 wd616 wd617 wd612 ⟨rfl, rfl⟩ hy9_reel ⟨Nat.le_of_ble_eq_true rfl, Nat.le_of_ble_eq_true rfl⟩ rfl hl.1 (Nat.le_of_ble_eq_true rfl) ⟨Nat.zero_le _, Nat.zero_le _⟩ dX9_ofReel_81) hw (fun H locs hw => ?_)
          obtain rfl := Option.some.inj hf
          exact x_iret C0 hr hw dX9_ofReel_84
        · have hf := ite_f hf zc13
          by_cases zc16 : zx2 = (3 : Int32)
          · have hf := ite_t hf zc16
            refine lv_tableIn (off := 75) (tgt := 85) hx hb dX9_ofReel_10 (by rw [zc16]; decide) (by rw [zc16]; decide) (by rw [zc16]; rfl) (by decide) ?_
            refine lv_aload_n hx hb dX9_ofReel_85 rfl (lv_at hl 0 rfl) ?_
            refine lv_iload_n hx hb dX9_ofReel_86 rfl (lv_at hl 1 rfl) ?_
            refine lv_iconst (v := (3 : Int32)) hx hb dX9_ofReel_87 (by decide) ?_
            obtain ⟨zv17, ze18, hf⟩ := nn_some hf
            refine x_ci (r := zv17) (I1 := I) (X1 := X) (x_runV (As := [.int zx1, .int (3 : Int32)]) (rest := []) C0 (c9_reel l E G fl X I zx0 zx1 (3 : Int32) zt0 ze18) hw 9 zt0 (by decide) rfl wd119 wd615 wd616 wd617 wd612 ⟨rfl, rfl⟩ hy9_reel ⟨Nat.le_of_ble_eq_true rfl, Nat.le_of_ble_eq_true rfl⟩ rfl hl.1 (Nat.le_of_ble_eq_true rfl) ⟨Nat.zero_le _, Nat.zero_le _⟩ dX9_ofReel_88) hw (fun H locs hw => ?_)
            obtain rfl := Option.some.inj hf
            exact x_iret C0 hr hw dX9_ofReel_91
          · have hf := ite_f hf zc16
            by_cases zc19 : zx2 = (4 : Int32)
            · have hf := ite_t hf zc19
              refine lv_tableIn (off := 82) (tgt := 92) hx hb dX9_ofReel_10 (by rw [zc19]; decide) (by rw [zc19]; decide) (by rw [zc19]; rfl) (by decide) ?_
              refine lv_aload_n hx hb dX9_ofReel_92 rfl (lv_at hl 0 rfl) ?_
              refine lv_iload_n hx hb dX9_ofReel_93 rfl (lv_at hl 1 rfl) ?_
              refine lv_aload_n hx hb dX9_ofReel_94 rfl (lv_at hl 0 rfl) ?_
              refine lv_iload_n hx hb dX9_ofReel_95 rfl (lv_at hl 1 rfl) ?_
              refine lv_iconst (v := (3 : Int32)) hx hb dX9_ofReel_96 (by decide) ?_
              obtain ⟨zv20, ze21, hf⟩ := nn_some hf
              refine x_ci (r := zv20) (I1 := I) (X1 := X) (x_runV (As := [.int zx1, .int (3 : Int32)]) (rest := [.int zx1, .ref zx0]) C0 (c9_reel l E G fl X I zx0 zx1 (3 : Int32) zt0 ze21) hw 9 zt0 (by decide) rfl wd119 wd615 wd616 wd617 wd612 ⟨rfl, rfl⟩ hy9_reel ⟨Nat.le_of_ble_eq_true rfl, Nat.le_of_ble_eq_true rfl⟩ rfl hl.1 (Nat.le_of_ble_eq_true rfl) ⟨Nat.zero_le _, Nat.zero_le _⟩ dX9_ofReel_97) hw (fun H locs hw => ?_)
              obtain ⟨zv22, ze23, hf⟩ := nn_some hf
              refine x_ci (r := zv22) (I1 := I) (X1 := X) (x_runV (As := [.int zx1, .int zv20]) (rest := []) C0 (c9_beginning l E G fl X I zx0 zx1 zv20 zt0 ze23) hw 9 zt0 (by decide) rfl wd125 wd626 wd627 wd628 wd612 ⟨rfl, rfl⟩ hy9_beginning ⟨Nat.le_of_ble_eq_true rfl, Nat.le_of_ble_eq_true rfl⟩ rfl hl.1 (Nat.le_of_ble_eq_true rfl) ⟨Nat.zero_le _, Nat.zero_le _⟩ dX9_ofReel_100) hw (fun H locs hw => ?_)
              obtain rfl := Option.some.inj hf
              exact x_iret C0 hr hw dX9_ofReel_103
            · have hf := ite_f hf zc19
              by_cases zc24 : zx2 = (5 : Int32)
              · have hf := ite_t hf zc24
                refine lv_tableIn (off := 94) (tgt := 104) hx hb dX9_ofReel_10 (by rw [zc24]; decide) (by rw [zc24]; decide) (by rw [zc24]; rfl) (by decide) ?_
                refine lv_aload_n hx hb dX9_ofReel_104 rfl (lv_at hl 0 rfl) ?_
                refine lv_iload_n hx hb dX9_ofReel_105 rfl (lv_at hl 1 rfl) ?_
                obtain ⟨zv25, ze26, hf⟩ := nn_some hf
                refine x_ci (r := zv25) (I1 := I) (X1 := X) (x_runV (As := [.int zx1]) (rest := []) C0 (c9_next l E G fl X I zx0 zx1 zt0 ze26) hw 9 zt0 (by decide) rfl wd133 wd649 wd650 wd651 wd612 ⟨rfl, rfl⟩ hy9_next ⟨Nat.le_of_ble_eq_true rfl, Nat.le_of_ble_eq_true rfl⟩ rfl hl.1 (Nat.le_of_ble_eq_true rfl) ⟨Nat.zero_le _, Nat.zero_le _⟩ dX9_ofReel_106) hw (fun H locs hw => ?_)
                obtain rfl := Option.some.inj hf
                exact x_iret C0 hr hw dX9_ofReel_109
              · have hf := ite_f hf zc24
                have zq0 := tsw_ne _ zc4 (show ((0 : Int32)).toInt = 0 by decide)
                have zq1 := tsw_ne _ zc7 (show ((1 : Int32)).toInt = 1 by decide)
                have zq2 := tsw_ne _ zc13 (show ((2 : Int32)).toInt = 2 by decide)
                have zq3 := tsw_ne _ zc16 (show ((3 : Int32)).toInt = 3 by decide)
                have zq4 := tsw_ne _ zc19 (show ((4 : Int32)).toInt = 4 by decide)
                have zq5 := tsw_ne _ zc24 (show ((5 : Int32)).toInt = 5 by decide)
                refine lv_tableOut (tgt := 110) hx hb dX9_ofReel_10 (by omega) (by decide) ?_
                refine lv_bipush (v := (-2 : Int32)) hx hb dX9_ofReel_110 (by decide) ?_
                obtain rfl := Option.some.inj hf
                exact x_iret C0 hr hw dX9_ofReel_112
  · have hf := ite_t hf zc3
    refine lv_iconst (v := (-1 : Int32)) hx hb dX9_ofReel_7 (by decide) ?_
    obtain rfl := Option.some.inj hf
    exact x_iret C0 hr hw dX9_ofReel_8
noncomputable def m9_ofSound_44 (fl : Nat) (len : Nat → Nat) (X : Xm) (I : Im) (zx0 : Nat) (zx1 : Int32) (zx2 : Int32) (zx3 : Int32) : Option (Int32) :=
  nn (gR X 144 zx0) fun zv1 =>
  nn (m9_soundAt fl len X I zx1 zx2) fun zv2 =>
  ck (inb (zv2 + zx3) (len zv1) = true) <|
  some ((gA I zv1 ((zv2 + zx3)).toNatClampNeg))
set_option maxHeartbeats 4000000 in
set_option maxRecDepth 100000 in
theorem w9_ofSound_44 {p : Program} {l : Launch} {e : Env} {s : State} {m : MethodId} {args : Array Value} {below : List Frame} {meth : Method} {c : Code} {E : EN} {G : GM} {X : Xm} {I : Im} (C0 : CX p s m args meth c E cX9_ofSound RX9 4) (hr : meth.sig.returnType = (some .int)) (hz : s.heap.size + 0 ≤ eB E + G.1) {rr : Int32} (fl : Nat) : ∀ (H : Heap) (locs : List Loc) (ls : Array Slot) (zx0 : Nat) (zx1 : Int32) (zx2 : Int32) (zx3 : Int32) (zt0 : okA E G 9 zx0), WD E G I X s.heap H locs → lv_has ls 4 [(0, .ref zx0), (1, .int zx1), (2, .int zx2), (3, .int zx3)] → m9_ofSound_44 fl G.2.2 X I zx0 zx1 zx2 zx3 = some rr → W p l e ({ frames := 3, cells := 0, slots := 0, locals := 64 } : Room) s m args below meth c H locs 0 0 (MQ below (QI E G rr I X) args s 0 0 (eA E)) (F0 m 44 ls []) := by
  intro H locs ls zx0 zx1 zx2 zx3 zt0 hw hl hf
  unfold m9_ofSound_44 at hf
  have hx := C0.1; have hb := C0.2.1; have hml := C0.2.2.1; have hown := C0.2.2.2.1; have hts := C0.2.2.2.2.1
  refine lv_aload_n hx hb dX9_ofSound_44 rfl (lv_at hl 0 rfl) ?_
  obtain ⟨zv1, ezv1, hf⟩ := nn_some hf
  have tzv1 : okA E G 11 zv1 := wt_r hw ezv1
  refine xg_9_0 C0 hw zt0 wd601 ezv1 dX9_ofSound_45 ?_
  refine lv_iload_n hx hb dX9_ofSound_48 rfl (lv_at hl 1 rfl) ?_
  refine lv_iload_n hx hb dX9_ofSound_49 rfl (lv_at hl 2 rfl) ?_
  obtain ⟨zv2, ze3, hf⟩ := nn_some hf
  refine x_ci (r := zv2) (I1 := I) (X1 := X) (x_runS (As := [.int zx1, .int zx2]) (rest := [.ref zv1]) C0 (c9_soundAt l E G fl X I zx1 zx2 ze3) hw wd121 wd618 wd619 wd612 ⟨rfl, rfl⟩ hy9_soundAt ⟨Nat.le_of_ble_eq_true rfl, Nat.le_of_ble_eq_true rfl⟩ rfl hl.1 (Nat.le_of_ble_eq_true rfl) ⟨Nat.zero_le _, Nat.zero_le _⟩ dX9_ofSound_50) hw (fun H locs hw => ?_)
  refine lv_iload_n hx hb dX9_ofSound_53 rfl (lv_at hl 3 rfl) ?_
  refine lv_iadd hx hb dX9_ofSound_54 ?_
  obtain ⟨zhb4, hf⟩ := ck_some hf
  refine x_iald C0 hw tzv1 zhb4 dX9_ofSound_55 ?_
  obtain rfl := Option.some.inj hf
  exact x_iret C0 hr hw dX9_ofSound_56
noncomputable def m9_ofSound (fl : Nat) (len : Nat → Nat) (X : Xm) (I : Im) (zx0 : Nat) (zx1 : Int32) (zx2 : Int32) (zx3 : Int32) : Option (Int32) :=
  nn (m9_isSound fl len X I zx0 zx1 zx2) fun zv1 =>
  if zv1 = 0 then
    some ((-1 : Int32))
  else
    if zx3 = (0 : Int32) then
      m9_ofSound_44 fl len X I zx0 zx1 zx2 zx3
    else
      if zx3 = (1 : Int32) then
        m9_ofSound_44 fl len X I zx0 zx1 zx2 zx3
      else
        if zx3 = (2 : Int32) then
          nn (m9_beginning fl len X I zx0 zx1 zx2) fun zv7 =>
          some (zv7)
        else
          if zx3 = (3 : Int32) then
            nn (gR X 144 zx0) fun zv10 =>
            nn (m9_soundAt fl len X I zx1 zx2) fun zv11 =>
            ck (inb (zv11 + (2 : Int32)) (len zv10) = true) <|
            some ((gA I zv10 ((zv11 + (2 : Int32))).toNatClampNeg))
          else
            some ((-2 : Int32))
theorem hy9_ofSound : yX9_ofSound.cls = RX9 ∧ yX9_ofSound.cls ≠ "java/lang/invoke/MethodHandle" ∧ yX9_ofSound.cls ≠ "java/lang/invoke/VarHandle" ∧ (parseMethodDescriptor yX9_ofSound.desc).map (fun d => d.parameters.length) = some 3 := ⟨rfl, by decide +kernel, by decide +kernel, by decide +kernel⟩
set_option maxHeartbeats 4000000 in
set_option maxRecDepth 100000 in
theorem c9_ofSound (l : Launch) (E : EN) (G : GM) (fl : Nat) (X : Xm) (I : Im) (zx0 : Nat) (zx1 : Int32) (zx2 : Int32) (zx3 : Int32) (zt0 : okA E G 9 zx0) {rr : Int32} (hf : m9_ofSound fl G.2.2 X I zx0 zx1 zx2 zx3 = some rr) : MT l yX9_ofSound cX9_ofSound 4 (some .int) ({ frames := 3, cells := 0, slots := 0, locals := 64 } : Room) E G I X [.ref zx0, .int zx1, .int zx2, .int zx3] (QI E G rr I X) 0 0 := by
  refine Met.ofW (cc := cX9_ofSound) (maxL := 4) (ret := (some .int)) (by decide +kernel) rfl ?_
  intro p e s m args below meth c s₁ B hml hv
  obtain ⟨rfl, hw0, hSE⟩ := hv
  have C0 : CX p s m ([.ref zx0, .int zx1, .int zx2, .int zx3] : List Value).toArray meth c E cX9_ofSound RX9 4 := ⟨B.exec, B.bytes, hml, findClass_of_methodNamed B.named, fun w hw => atoms_spec (ws := WS yX9_ofSound cX9_ofSound 4 (some .int)) B.pre w (List.mem_cons_of_mem _ hw), B.notSynchronized, hSE⟩
  have hz : s.heap.size + 0 ≤ eB E + G.1 := Nat.le_of_eq hw0.2.1
  have hw : WD E G I X s.heap s.heap [] := ⟨hw0, va_S.rf⟩
  have hr := B.returns
  have hx := C0.1; have hb := C0.2.1; have hml := C0.2.2.1; have hown := C0.2.2.2.1; have hts := C0.2.2.2.2.1
  have hl := lv_entry ([.ref zx0, .int zx1, .int zx2, .int zx3]) (n := 4) (Nat.le_of_ble_eq_true rfl)
  rw [lg_entry_eq]
  generalize (lg_sl ([.ref zx0, .int zx1, .int zx2, .int zx3]) ++ List.replicate (4 - (lg_sl ([.ref zx0, .int zx1, .int zx2, .int zx3])).length) Slot.unset).toArray = ls at hl ⊢
  have hl : lv_has ls 4 [(0, .ref zx0), (1, .int zx1), (2, .int zx2), (3, .int zx3)] := hl
  unfold m9_ofSound at hf
  refine lv_aload_n hx hb dX9_ofSound_0 rfl (lv_at hl 0 rfl) ?_
  refine lv_iload_n hx hb dX9_ofSound_1 rfl (lv_at hl 1 rfl) ?_
  refine lv_iload_n hx hb dX9_ofSound_2 rfl (lv_at hl 2 rfl) ?_
  obtain ⟨zv1, ze2, hf⟩ := nn_some hf
  refine x_ci (r := zv1) (I1 := I) (X1 := X) (x_runV (As := [.int zx1, .int zx2]) (rest := []) C0 (c9_isSound l E G fl X I zx0 zx1 zx2 zt0 ze2) hw 9 zt0 (by decide) rfl wd124 wd665 wd666 wd667 wd612 ⟨rfl, rfl⟩ hy9_isSound ⟨Nat.le_of_ble_eq_true rfl, Nat.le_of_ble_eq_true rfl⟩ rfl hl.1 (Nat.le_of_ble_eq_true rfl) ⟨Nat.zero_le _, Nat.zero_le _⟩ dX9_ofSound_3) hw (fun H locs hw => ?_)
  refine lv_if_ne (tgt := 11) hx hb dX9_ofSound_6 (by decide) (fun zc3 => ?_) (fun zc3 => ?_)
  · have hf := ite_f hf zc3
    refine lv_iload_n hx hb dX9_ofSound_11 rfl (lv_at hl 3 rfl) ?_
    by_cases zc4 : zx3 = (0 : Int32)
    · have hf := ite_t hf zc4
      refine lv_tableIn (off := 32) (tgt := 44) hx hb dX9_ofSound_12 (by rw [zc4]; decide) (by rw [zc4]; decide) (by rw [zc4]; rfl) (by decide) ?_
      exact w9_ofSound_44 C0 hr hz fl _ _ _ zx0 zx1 zx2 zx3 zt0 hw (lv_sub hl [0, 1, 2, 3] rfl) hf
    · have hf := ite_f hf zc4
      by_cases zc5 : zx3 = (1 : Int32)
      · have hf := ite_t hf zc5
        refine lv_tableIn (off := 32) (tgt := 44) hx hb dX9_ofSound_12 (by rw [zc5]; decide) (by rw [zc5]; decide) (by rw [zc5]; rfl) (by decide) ?_
        exact w9_ofSound_44 C0 hr hz fl _ _ _ zx0 zx1 zx2 zx3 zt0 hw (lv_sub hl [0, 1, 2, 3] rfl) hf
      · have hf := ite_f hf zc5
        by_cases zc6 : zx3 = (2 : Int32)
        · have hf := ite_t hf zc6
          refine lv_tableIn (off := 45) (tgt := 57) hx hb dX9_ofSound_12 (by rw [zc6]; decide) (by rw [zc6]; decide) (by rw [zc6]; rfl) (by decide) ?_
          refine lv_aload_n hx hb dX9_ofSound_57 rfl (lv_at hl 0 rfl) ?_
          refine lv_iload_n hx hb dX9_ofSound_58 rfl (lv_at hl 1 rfl) ?_
          refine lv_iload_n hx hb dX9_ofSound_59 rfl (lv_at hl 2 rfl) ?_
          obtain ⟨zv7, ze8, hf⟩ := nn_some hf
          refine x_ci (r := zv7) (I1 := I) (X1 := X) (x_runV (As := [.int zx1, .int zx2]) (rest := []) C0 (c9_beginning l E G fl X I zx0 zx1 zx2 zt0 ze8) hw 9 zt0 (by decide) rfl wd125 wd626 wd627 wd628 wd612 ⟨rfl, rfl⟩ hy9_beginning ⟨Nat.le_of_ble_eq_true rfl, Nat.le_of_ble_eq_true rfl⟩ rfl hl.1 (Nat.le_of_ble_eq_true rfl) ⟨Nat.zero_le _, Nat.zero_le _⟩ dX9_ofSound_60) hw (fun H locs hw => ?_)
          obtain rfl := Option.some.inj hf
          exact x_iret C0 hr hw dX9_ofSound_63
        · have hf := ite_f hf zc6
          by_cases zc9 : zx3 = (3 : Int32)
          · have hf := ite_t hf zc9
            refine lv_tableIn (off := 52) (tgt := 64) hx hb dX9_ofSound_12 (by rw [zc9]; decide) (by rw [zc9]; decide) (by rw [zc9]; rfl) (by decide) ?_
            refine lv_aload_n hx hb dX9_ofSound_64 rfl (lv_at hl 0 rfl) ?_
            obtain ⟨zv10, ezv10, hf⟩ := nn_some hf
            have tzv10 : okA E G 11 zv10 := wt_r hw ezv10
            refine xg_9_0 C0 hw zt0 wd601 ezv10 dX9_ofSound_65 ?_
            refine lv_iload_n hx hb dX9_ofSound_68 rfl (lv_at hl 1 rfl) ?_
            refine lv_iload_n hx hb dX9_ofSound_69 rfl (lv_at hl 2 rfl) ?_
            obtain ⟨zv11, ze12, hf⟩ := nn_some hf
            refine x_ci (r := zv11) (I1 := I) (X1 := X) (x_runS (As := [.int zx1, .int zx2]) (rest := [.ref zv10]) C0 (c9_soundAt l E G fl X I zx1 zx2 ze12) hw wd121 wd618 wd619 wd612 ⟨rfl, rfl⟩ hy9_soundAt ⟨Nat.le_of_ble_eq_true rfl, Nat.le_of_ble_eq_true rfl⟩ rfl hl.1 (Nat.le_of_ble_eq_true rfl) ⟨Nat.zero_le _, Nat.zero_le _⟩ dX9_ofSound_70) hw (fun H locs hw => ?_)
            refine lv_iconst (v := (2 : Int32)) hx hb dX9_ofSound_73 (by decide) ?_
            refine lv_iadd hx hb dX9_ofSound_74 ?_
            obtain ⟨zhb13, hf⟩ := ck_some hf
            refine x_iald C0 hw tzv10 zhb13 dX9_ofSound_75 ?_
            obtain rfl := Option.some.inj hf
            exact x_iret C0 hr hw dX9_ofSound_76
          · have hf := ite_f hf zc9
            have zq0 := tsw_ne _ zc4 (show ((0 : Int32)).toInt = 0 by decide)
            have zq1 := tsw_ne _ zc5 (show ((1 : Int32)).toInt = 1 by decide)
            have zq2 := tsw_ne _ zc6 (show ((2 : Int32)).toInt = 2 by decide)
            have zq3 := tsw_ne _ zc9 (show ((3 : Int32)).toInt = 3 by decide)
            refine lv_tableOut (tgt := 77) hx hb dX9_ofSound_12 (by omega) (by decide) ?_
            refine lv_bipush (v := (-2 : Int32)) hx hb dX9_ofSound_77 (by decide) ?_
            obtain rfl := Option.some.inj hf
            exact x_iret C0 hr hw dX9_ofSound_79
  · have hf := ite_t hf zc3
    refine lv_iconst (v := (-1 : Int32)) hx hb dX9_ofSound_9 (by decide) ?_
    obtain rfl := Option.some.inj hf
    exact x_iret C0 hr hw dX9_ofSound_10
noncomputable def m9_played (fl : Nat) (len : Nat → Nat) (X : Xm) (I : Im) (zx0 : Nat) (zx1 : Int32) (zx2 : Int32) : Option (Int32) :=
  nn (gR X 144 zx0) fun zv1 =>
  ck (inb (7 : Int32) (len zv1) = true) <|
  nn (m9_in fl len X I zx1 (0 : Int32) ((gA I zv1 ((7 : Int32)).toNatClampNeg) - (1 : Int32))) fun zv3 =>
  if zv3 = 0 then
    some ((-1 : Int32))
  else
    ck (inb ((296 : Int32) + zx1) (len zv1) = true) <|
    lt ((gA I zv1 (((296 : Int32) + zx1)).toNatClampNeg)) fun zv7 =>
    if zx2 = (0 : Int32) then
      some ((zv7 / (6 : Int32)))
    else
      if zx2 = (1 : Int32) then
        some ((zv7 - zv7 / (6 : Int32) * (6 : Int32)))
      else
        if zx2 = (2 : Int32) then
          ck (inb (((144 : Int32) + ((3 : Int32) * zv7)) + (2 : Int32)) (len zv1) = true) <|
          some ((gA I zv1 ((((144 : Int32) + ((3 : Int32) * zv7)) + (2 : Int32))).toNatClampNeg))
        else
          some ((-2 : Int32))
theorem hy9_played : yX9_played.cls = RX9 ∧ yX9_played.cls ≠ "java/lang/invoke/MethodHandle" ∧ yX9_played.cls ≠ "java/lang/invoke/VarHandle" ∧ (parseMethodDescriptor yX9_played.desc).map (fun d => d.parameters.length) = some 2 := ⟨rfl, by decide +kernel, by decide +kernel, by decide +kernel⟩
set_option maxHeartbeats 4000000 in
set_option maxRecDepth 100000 in
theorem c9_played (l : Launch) (E : EN) (G : GM) (fl : Nat) (X : Xm) (I : Im) (zx0 : Nat) (zx1 : Int32) (zx2 : Int32) (zt0 : okA E G 9 zx0) {rr : Int32} (hf : m9_played fl G.2.2 X I zx0 zx1 zx2 = some rr) : MT l yX9_played cX9_played 4 (some .int) ({ frames := 1, cells := 0, slots := 0, locals := 22 } : Room) E G I X [.ref zx0, .int zx1, .int zx2] (QI E G rr I X) 0 0 := by
  refine Met.ofW (cc := cX9_played) (maxL := 4) (ret := (some .int)) (by decide +kernel) rfl ?_
  intro p e s m args below meth c s₁ B hml hv
  obtain ⟨rfl, hw0, hSE⟩ := hv
  have C0 : CX p s m ([.ref zx0, .int zx1, .int zx2] : List Value).toArray meth c E cX9_played RX9 4 := ⟨B.exec, B.bytes, hml, findClass_of_methodNamed B.named, fun w hw => atoms_spec (ws := WS yX9_played cX9_played 4 (some .int)) B.pre w (List.mem_cons_of_mem _ hw), B.notSynchronized, hSE⟩
  have hz : s.heap.size + 0 ≤ eB E + G.1 := Nat.le_of_eq hw0.2.1
  have hw : WD E G I X s.heap s.heap [] := ⟨hw0, va_S.rf⟩
  have hr := B.returns
  have hx := C0.1; have hb := C0.2.1; have hml := C0.2.2.1; have hown := C0.2.2.2.1; have hts := C0.2.2.2.2.1
  have hl := lv_entry ([.ref zx0, .int zx1, .int zx2]) (n := 4) (Nat.le_of_ble_eq_true rfl)
  rw [lg_entry_eq]
  generalize (lg_sl ([.ref zx0, .int zx1, .int zx2]) ++ List.replicate (4 - (lg_sl ([.ref zx0, .int zx1, .int zx2])).length) Slot.unset).toArray = ls at hl ⊢
  have hl : lv_has ls 4 [(0, .ref zx0), (1, .int zx1), (2, .int zx2)] := hl
  unfold m9_played at hf
  refine lv_iload_n hx hb dX9_played_0 rfl (lv_at hl 1 rfl) ?_
  refine lv_iconst (v := (0 : Int32)) hx hb dX9_played_1 (by decide) ?_
  refine lv_aload_n hx hb dX9_played_2 rfl (lv_at hl 0 rfl) ?_
  obtain ⟨zv1, ezv1, hf⟩ := nn_some hf
  have tzv1 : okA E G 11 zv1 := wt_r hw ezv1
  refine xg_9_0 C0 hw zt0 wd601 ezv1 dX9_played_3 ?_
  refine lv_bipush (v := (7 : Int32)) hx hb dX9_played_6 (by decide) ?_
  obtain ⟨zhb2, hf⟩ := ck_some hf
  refine x_iald C0 hw tzv1 zhb2 dX9_played_8 ?_
  refine lv_iconst (v := (1 : Int32)) hx hb dX9_played_9 (by decide) ?_
  refine lv_isub hx hb dX9_played_10 ?_
  obtain ⟨zv3, ze4, hf⟩ := nn_some hf
  refine x_ci (r := zv3) (I1 := I) (X1 := X) (x_runS (As := [.int zx1, .int (0 : Int32), .int ((gA I zv1 ((7 : Int32)).toNatClampNeg) - (1 : Int32))]) (rest := []) C0 (c9_in l E G fl X I zx1 (0 : Int32) ((gA I zv1 ((7 : Int32)).toNatClampNeg) - (1 : Int32)) ze4) hw wd113 wd610 wd611 wd612 ⟨rfl, rfl⟩ hy9_in ⟨Nat.le_of_ble_eq_true rfl, Nat.le_of_ble_eq_true rfl⟩ rfl hl.1 (Nat.le_of_ble_eq_true rfl) ⟨Nat.zero_le _, Nat.zero_le _⟩ dX9_played_11) hw (fun H locs hw => ?_)
  refine lv_if_ne (tgt := 19) hx hb dX9_played_14 (by decide) (fun zc5 => ?_) (fun zc5 => ?_)
  · have hf := ite_f hf zc5
    refine lv_aload_n hx hb dX9_played_19 rfl (lv_at hl 0 rfl) ?_
    refine xg_9_0 C0 hw zt0 wd601 ezv1 dX9_played_20 ?_
    refine lv_sipush (v := (296 : Int32)) hx hb dX9_played_23 (by decide) ?_
    refine lv_iload_n hx hb dX9_played_26 rfl (lv_at hl 1 rfl) ?_
    refine lv_iadd hx hb dX9_played_27 ?_
    obtain ⟨zhb6, hf⟩ := ck_some hf
    refine x_iald C0 hw tzv1 zhb6 dX9_played_28 ?_
    refine lv_topi (fun zv7 ezv7 => ?_)
    have hf := lt_at hf ezv7
    refine lv_istore_n (lv' := [(3, .int zv7), (0, .ref zx0), (1, .int zx1), (2, .int zx2)]) hx hb dX9_played_29 rfl hl (by decide) rfl (fun ls hl => ?_)
    refine lv_iload_n hx hb dX9_played_30 rfl (lv_at hl 3 rfl) ?_
    by_cases zc8 : zx2 = (0 : Int32)
    · have hf := ite_t hf zc8
      refine lv_tableIn (off := 25) (tgt := 56) hx hb dX9_played_31 (by rw [zc8]; decide) (by rw [zc8]; decide) (by rw [zc8]; rfl) (by decide) ?_
      refine lv_iload_n hx hb dX9_played_56 rfl (lv_at hl 0 rfl) ?_
      refine lv_bipush (v := (6 : Int32)) hx hb dX9_played_57 (by decide) ?_
      refine lv_idiv hx hb dX9_played_59 (by decide) ?_
      obtain rfl := Option.some.inj hf
      exact x_iret C0 hr hw dX9_played_60
    · have hf := ite_f hf zc8
      by_cases zc9 : zx2 = (1 : Int32)
      · have hf := ite_t hf zc9
        refine lv_tableIn (off := 30) (tgt := 61) hx hb dX9_played_31 (by rw [zc9]; decide) (by rw [zc9]; decide) (by rw [zc9]; rfl) (by decide) ?_
        refine lv_iload_n hx hb dX9_played_61 rfl (lv_at hl 0 rfl) ?_
        refine lv_bipush (v := (6 : Int32)) hx hb dX9_played_62 (by decide) ?_
        refine lv_irem hx hb dX9_played_64 (by decide) ?_
        obtain rfl := Option.some.inj hf
        exact x_iret C0 hr hw dX9_played_65
      · have hf := ite_f hf zc9
        by_cases zc10 : zx2 = (2 : Int32)
        · have hf := ite_t hf zc10
          refine lv_tableIn (off := 35) (tgt := 66) hx hb dX9_played_31 (by rw [zc10]; decide) (by rw [zc10]; decide) (by rw [zc10]; rfl) (by decide) ?_
          refine lv_aload_n hx hb dX9_played_66 rfl (lv_at hl 1 rfl) ?_
          refine xg_9_0 C0 hw zt0 wd601 ezv1 dX9_played_67 ?_
          refine lv_sipush (v := (144 : Int32)) hx hb dX9_played_70 (by decide) ?_
          refine lv_iconst (v := (3 : Int32)) hx hb dX9_played_73 (by decide) ?_
          refine lv_iload_n hx hb dX9_played_74 rfl (lv_at hl 0 rfl) ?_
          refine lv_imul hx hb dX9_played_75 ?_
          refine lv_iadd hx hb dX9_played_76 ?_
          refine lv_iconst (v := (2 : Int32)) hx hb dX9_played_77 (by decide) ?_
          refine lv_iadd hx hb dX9_played_78 ?_
          obtain ⟨zhb11, hf⟩ := ck_some hf
          refine x_iald C0 hw tzv1 zhb11 dX9_played_79 ?_
          obtain rfl := Option.some.inj hf
          exact x_iret C0 hr hw dX9_played_80
        · have hf := ite_f hf zc10
          have zq0 := tsw_ne _ zc8 (show ((0 : Int32)).toInt = 0 by decide)
          have zq1 := tsw_ne _ zc9 (show ((1 : Int32)).toInt = 1 by decide)
          have zq2 := tsw_ne _ zc10 (show ((2 : Int32)).toInt = 2 by decide)
          refine lv_tableOut (tgt := 81) hx hb dX9_played_31 (by omega) (by decide) ?_
          refine lv_bipush (v := (-2 : Int32)) hx hb dX9_played_81 (by decide) ?_
          obtain rfl := Option.some.inj hf
          exact x_iret C0 hr hw dX9_played_83
  · have hf := ite_t hf zc5
    refine lv_iconst (v := (-1 : Int32)) hx hb dX9_played_17 (by decide) ?_
    obtain rfl := Option.some.inj hf
    exact x_iret C0 hr hw dX9_played_18
noncomputable def m9_doorsOn_37 (fl : Nat) (len : Nat → Nat) (X : Xm) (I : Im) (zr4 : Nat → Int32 → Int32 → Int32 → Option (Int32)) (zx0 : Nat) (zx1 : Int32) (zx3 : Int32) (zs0 : Int32) (zs1 : Int32) (p_144 : Nat) : Option (Int32) :=
  lt ((zs0 + zs1)) fun zv1 =>
  lt (zx3 + 1) fun zv2 =>
  zr4 zx0 zx1 zv1 zv2
set_option maxHeartbeats 4000000 in
set_option maxRecDepth 100000 in
theorem w9_doorsOn_37 {p : Program} {l : Launch} {e : Env} {s : State} {m : MethodId} {args : Array Value} {below : List Frame} {meth : Method} {c : Code} {E : EN} {G : GM} {X : Xm} {I : Im} (C0 : CX p s m args meth c E cX9_doorsOn RX9 4) (hr : meth.sig.returnType = (some .int)) (hz : s.heap.size + 0 ≤ eB E + G.1) {rr : Int32} (fl : Nat) (zr4 : Nat → Int32 → Int32 → Int32 → Option (Int32)) (zhr4 : ∀ (H : Heap) (locs : List Loc) (ls : Array Slot) (zx0 : Nat) (zx1 : Int32) (zx2 : Int32) (zx3 : Int32) (zt0 : okA E G 9 zx0), WD E G I X s.heap H locs → lv_has ls 4 [(0, .ref zx0), (1, .int zx1), (2, .int zx2), (3, .int zx3)] → zr4 zx0 zx1 zx2 zx3 = some rr → W p l e ({ frames := 0, cells := 0, slots := 0, locals := 0 } : Room) s m args below meth c H locs 0 0 (MQ below (QI E G rr I X) args s 0 0 (eA E)) (F0 m 4 ls [])) : ∀ (H : Heap) (locs : List Loc) (ls : Array Slot) (zx0 : Nat) (zx1 : Int32) (zx3 : Int32) (zs0 : Int32) (zs1 : Int32) (p_144 : Nat) (zt0 : okA E G 9 zx0) (ep_144 : gR X 144 zx0 = some p_144) (tp_144 : okA E G 11 p_144), WD E G I X s.heap H locs → lv_has ls 4 [(0, .ref zx0), (1, .int zx1), (3, .int zx3)] → m9_doorsOn_37 fl G.2.2 X I zr4 zx0 zx1 zx3 zs0 zs1 p_144 = some rr → W p l e ({ frames := 0, cells := 0, slots := 0, locals := 0 } : Room) s m args below meth c H locs 0 0 (MQ below (QI E G rr I X) args s 0 0 (eA E)) (F0 m 37 ls [.int zs1, .int zs0]) := by
  intro H locs ls zx0 zx1 zx3 zs0 zs1 p_144 zt0 ep_144 tp_144 hw hl hf
  unfold m9_doorsOn_37 at hf
  have hx := C0.1; have hb := C0.2.1; have hml := C0.2.2.1; have hown := C0.2.2.2.1; have hts := C0.2.2.2.2.1
  refine lv_iadd hx hb dX9_doorsOn_37 ?_
  refine lv_topi (fun zv1 ezv1 => ?_)
  have hf := lt_at hf ezv1
  refine lv_istore_n (lv' := [(2, .int zv1), (0, .ref zx0), (1, .int zx1), (3, .int zx3)]) hx hb dX9_doorsOn_38 rfl hl (by decide) rfl (fun ls hl => ?_)
  obtain ⟨zv2, ezv2⟩ : ∃ y : Int32, y = zx3 + 1 := ⟨_, rfl⟩
  have hf := lt_at hf ezv2
  refine lv_iinc (v := zv2) (lv' := [(3, .int zv2), (2, .int zv1), (0, .ref zx0), (1, .int zx1)]) hx hb dX9_doorsOn_39 hl (k := 3) rfl (by rw [ezv2]; rfl) (by decide) rfl (fun ls hl => ?_)
  refine lv_goto (tgt := 4) hx hb dX9_doorsOn_42 (by decide) ?_
  exact zhr4 _ _ _ zx0 zx1 zv1 zv2 zt0 hw (lv_sub hl [2, 3, 1, 0] rfl) hf
noncomputable def m9_doorsOn_4b (fl : Nat) (len : Nat → Nat) (X : Xm) (I : Im) (zr4 : Nat → Int32 → Int32 → Int32 → Option (Int32)) (zx0 : Nat) (zx1 : Int32) (zx2 : Int32) (zx3 : Int32) : Option (Int32) :=
  nn (gR X 144 zx0) fun zv1 =>
  ck (inb (6 : Int32) (len zv1) = true) <|
  if (gA I zv1 ((6 : Int32)).toNatClampNeg) ≤ zx3 then
    some (zx2)
  else
    ck (inb ((224 : Int32) + ((3 : Int32) * zx3)) (len zv1) = true) <|
    if (gA I zv1 (((224 : Int32) + ((3 : Int32) * zx3))).toNatClampNeg) = zx1 then
      m9_doorsOn_37 fl len X I zr4 zx0 zx1 zx3 zx2 (1 : Int32) zv1
    else
      m9_doorsOn_37 fl len X I zr4 zx0 zx1 zx3 zx2 (0 : Int32) zv1
noncomputable def m9_doorsOn_4 (fl : Nat) (len : Nat → Nat) (X : Xm) (I : Im) (n : Nat) : Nat → Int32 → Int32 → Int32 → Option (Int32) :=
  Nat.rec (fun _ _ _ _ => none) (fun _ r => m9_doorsOn_4b fl len X I r) n
set_option maxHeartbeats 4000000 in
set_option maxRecDepth 100000 in
theorem w9_doorsOn_4b {p : Program} {l : Launch} {e : Env} {s : State} {m : MethodId} {args : Array Value} {below : List Frame} {meth : Method} {c : Code} {E : EN} {G : GM} {X : Xm} {I : Im} (C0 : CX p s m args meth c E cX9_doorsOn RX9 4) (hr : meth.sig.returnType = (some .int)) (hz : s.heap.size + 0 ≤ eB E + G.1) {rr : Int32} (fl : Nat) (zr4 : Nat → Int32 → Int32 → Int32 → Option (Int32)) (zhr4 : ∀ (H : Heap) (locs : List Loc) (ls : Array Slot) (zx0 : Nat) (zx1 : Int32) (zx2 : Int32) (zx3 : Int32) (zt0 : okA E G 9 zx0), WD E G I X s.heap H locs → lv_has ls 4 [(0, .ref zx0), (1, .int zx1), (2, .int zx2), (3, .int zx3)] → zr4 zx0 zx1 zx2 zx3 = some rr → W p l e ({ frames := 0, cells := 0, slots := 0, locals := 0 } : Room) s m args below meth c H locs 0 0 (MQ below (QI E G rr I X) args s 0 0 (eA E)) (F0 m 4 ls [])) : ∀ (H : Heap) (locs : List Loc) (ls : Array Slot) (zx0 : Nat) (zx1 : Int32) (zx2 : Int32) (zx3 : Int32) (zt0 : okA E G 9 zx0), WD E G I X s.heap H locs → lv_has ls 4 [(0, .ref zx0), (1, .int zx1), (2, .int zx2), (3, .int zx3)] → m9_doorsOn_4b fl G.2.2 X I zr4 zx0 zx1 zx2 zx3 = some rr → W p l e ({ frames := 0, cells := 0, slots := 0, locals := 0 } : Room) s m args below meth c H locs 0 0 (MQ below (QI E G rr I X) args s 0 0 (eA E)) (F0 m 4 ls []) := by
  intro H locs ls zx0 zx1 zx2 zx3 zt0 hw hl hf
  unfold m9_doorsOn_4b at hf
  have hx := C0.1; have hb := C0.2.1; have hml := C0.2.2.1; have hown := C0.2.2.2.1; have hts := C0.2.2.2.2.1
  refine lv_iload_n hx hb dX9_doorsOn_4 rfl (lv_at hl 3 rfl) ?_
  refine lv_aload_n hx hb dX9_doorsOn_5 rfl (lv_at hl 0 rfl) ?_
  obtain ⟨zv1, ezv1, hf⟩ := nn_some hf
  have tzv1 : okA E G 11 zv1 := wt_r hw ezv1
  refine xg_9_0 C0 hw zt0 wd601 ezv1 dX9_doorsOn_6 ?_
  refine lv_bipush (v := (6 : Int32)) hx hb dX9_doorsOn_9 (by decide) ?_
  obtain ⟨zhb2, hf⟩ := ck_some hf
  refine x_iald C0 hw tzv1 zhb2 dX9_doorsOn_11 ?_
  refine lv_icmp_ge (tgt := 45) hx hb dX9_doorsOn_12 (by decide) (fun zc3 => ?_) (fun zc3 => ?_)
  · have hf := ite_t hf zc3
    refine lv_iload_n hx hb dX9_doorsOn_45 rfl (lv_at hl 2 rfl) ?_
    obtain rfl := Option.some.inj hf
    exact x_iret C0 hr hw dX9_doorsOn_46
  · have hf := ite_f hf zc3
    refine lv_iload_n hx hb dX9_doorsOn_15 rfl (lv_at hl 2 rfl) ?_
    refine lv_aload_n hx hb dX9_doorsOn_16 rfl (lv_at hl 0 rfl) ?_
    refine xg_9_0 C0 hw zt0 wd601 ezv1 dX9_doorsOn_17 ?_
    refine lv_sipush (v := (224 : Int32)) hx hb dX9_doorsOn_20 (by decide) ?_
    refine lv_iconst (v := (3 : Int32)) hx hb dX9_doorsOn_23 (by decide) ?_
    refine lv_iload_n hx hb dX9_doorsOn_24 rfl (lv_at hl 3 rfl) ?_
    refine lv_imul hx hb dX9_doorsOn_25 ?_
    refine lv_iadd hx hb dX9_doorsOn_26 ?_
    obtain ⟨zhb4, hf⟩ := ck_some hf
    refine x_iald C0 hw tzv1 zhb4 dX9_doorsOn_27 ?_
    refine lv_iload_n hx hb dX9_doorsOn_28 rfl (lv_at hl 1 rfl) ?_
    refine lv_icmp_ne (tgt := 36) hx hb dX9_doorsOn_29 (by decide) (fun zc5 => ?_) (fun zc5 => ?_)
    · have hf := ite_f hf zc5
      refine lv_iconst (v := (0 : Int32)) hx hb dX9_doorsOn_36 (by decide) ?_
      exact w9_doorsOn_37 C0 hr hz fl zr4 zhr4 _ _ _ zx0 zx1 zx3 zx2 (0 : Int32) zv1 zt0 ezv1 tzv1 hw (lv_sub hl [0, 1, 3] rfl) hf
    · have hf := ite_t hf zc5
      refine lv_iconst (v := (1 : Int32)) hx hb dX9_doorsOn_32 (by decide) ?_
      refine lv_goto (tgt := 37) hx hb dX9_doorsOn_33 (by decide) ?_
      exact w9_doorsOn_37 C0 hr hz fl zr4 zhr4 _ _ _ zx0 zx1 zx3 zx2 (1 : Int32) zv1 zt0 ezv1 tzv1 hw (lv_sub hl [0, 1, 3] rfl) hf
theorem w9_doorsOn_4 {p : Program} {l : Launch} {e : Env} {s : State} {m : MethodId} {args : Array Value} {below : List Frame} {meth : Method} {c : Code} {E : EN} {G : GM} {X : Xm} {I : Im} (C0 : CX p s m args meth c E cX9_doorsOn RX9 4) (hr : meth.sig.returnType = (some .int)) (hz : s.heap.size + 0 ≤ eB E + G.1) {rr : Int32} (fl : Nat) : ∀ (n : Nat) (H : Heap) (locs : List Loc) (ls : Array Slot) (zx0 : Nat) (zx1 : Int32) (zx2 : Int32) (zx3 : Int32) (zt0 : okA E G 9 zx0), WD E G I X s.heap H locs → lv_has ls 4 [(0, .ref zx0), (1, .int zx1), (2, .int zx2), (3, .int zx3)] → m9_doorsOn_4 fl G.2.2 X I n zx0 zx1 zx2 zx3 = some rr → W p l e ({ frames := 0, cells := 0, slots := 0, locals := 0 } : Room) s m args below meth c H locs 0 0 (MQ below (QI E G rr I X) args s 0 0 (eA E)) (F0 m 4 ls []) := by
  intro n
  induction n with
  | zero => intro H locs ls zx0 zx1 zx2 zx3 zt0 hw hl hf; exact absurd (show (none : Option (Int32)) = some rr from hf) (by simp)
  | succ n ih => intro H locs ls zx0 zx1 zx2 zx3 zt0 hw hl hf; exact w9_doorsOn_4b C0 hr hz fl _ ih H locs ls zx0 zx1 zx2 zx3 zt0 hw hl hf
noncomputable def m9_doorsOn (fl : Nat) (len : Nat → Nat) (X : Xm) (I : Im) (zx0 : Nat) (zx1 : Int32) : Option (Int32) :=
  m9_doorsOn_4 fl len X I fl zx0 zx1 (0 : Int32) (0 : Int32)
theorem hy9_doorsOn : yX9_doorsOn.cls = RX9 ∧ yX9_doorsOn.cls ≠ "java/lang/invoke/MethodHandle" ∧ yX9_doorsOn.cls ≠ "java/lang/invoke/VarHandle" ∧ (parseMethodDescriptor yX9_doorsOn.desc).map (fun d => d.parameters.length) = some 1 := ⟨rfl, by decide +kernel, by decide +kernel, by decide +kernel⟩
set_option maxHeartbeats 4000000 in
set_option maxRecDepth 100000 in
theorem c9_doorsOn (l : Launch) (E : EN) (G : GM) (fl : Nat) (X : Xm) (I : Im) (zx0 : Nat) (zx1 : Int32) (zt0 : okA E G 9 zx0) {rr : Int32} (hf : m9_doorsOn fl G.2.2 X I zx0 zx1 = some rr) : MT l yX9_doorsOn cX9_doorsOn 4 (some .int) ({ frames := 0, cells := 0, slots := 0, locals := 0 } : Room) E G I X [.ref zx0, .int zx1] (QI E G rr I X) 0 0 := by
  refine Met.ofW (cc := cX9_doorsOn) (maxL := 4) (ret := (some .int)) (by decide +kernel) rfl ?_
  intro p e s m args below meth c s₁ B hml hv
  obtain ⟨rfl, hw0, hSE⟩ := hv
  have C0 : CX p s m ([.ref zx0, .int zx1] : List Value).toArray meth c E cX9_doorsOn RX9 4 := ⟨B.exec, B.bytes, hml, findClass_of_methodNamed B.named, fun w hw => atoms_spec (ws := WS yX9_doorsOn cX9_doorsOn 4 (some .int)) B.pre w (List.mem_cons_of_mem _ hw), B.notSynchronized, hSE⟩
  have hz : s.heap.size + 0 ≤ eB E + G.1 := Nat.le_of_eq hw0.2.1
  have hw : WD E G I X s.heap s.heap [] := ⟨hw0, va_S.rf⟩
  have hr := B.returns
  have hx := C0.1; have hb := C0.2.1; have hml := C0.2.2.1; have hown := C0.2.2.2.1; have hts := C0.2.2.2.2.1
  have hl := lv_entry ([.ref zx0, .int zx1]) (n := 4) (Nat.le_of_ble_eq_true rfl)
  rw [lg_entry_eq]
  generalize (lg_sl ([.ref zx0, .int zx1]) ++ List.replicate (4 - (lg_sl ([.ref zx0, .int zx1])).length) Slot.unset).toArray = ls at hl ⊢
  have hl : lv_has ls 4 [(0, .ref zx0), (1, .int zx1)] := hl
  unfold m9_doorsOn at hf
  refine lv_iconst (v := (0 : Int32)) hx hb dX9_doorsOn_0 (by decide) ?_
  refine lv_istore_n (lv' := [(2, .int (0 : Int32)), (0, .ref zx0), (1, .int zx1)]) hx hb dX9_doorsOn_1 rfl hl (by decide) rfl (fun ls hl => ?_)
  refine lv_iconst (v := (0 : Int32)) hx hb dX9_doorsOn_2 (by decide) ?_
  refine lv_istore_n (lv' := [(3, .int (0 : Int32)), (2, .int (0 : Int32)), (0, .ref zx0), (1, .int zx1)]) hx hb dX9_doorsOn_3 rfl hl (by decide) rfl (fun ls hl => ?_)
  exact w9_doorsOn_4 C0 hr hz fl fl _ _ _ zx0 zx1 (0 : Int32) (0 : Int32) zt0 hw (lv_sub hl [2, 3, 1, 0] rfl) hf
noncomputable def m9_ofChannel_50 (fl : Nat) (len : Nat → Nat) (X : Xm) (I : Im) (zs0 : Int32) : Option (Int32) :=
  some (zs0)
set_option maxHeartbeats 4000000 in
set_option maxRecDepth 100000 in
theorem w9_ofChannel_50 {p : Program} {l : Launch} {e : Env} {s : State} {m : MethodId} {args : Array Value} {below : List Frame} {meth : Method} {c : Code} {E : EN} {G : GM} {X : Xm} {I : Im} (C0 : CX p s m args meth c E cX9_ofChannel RX9 3) (hr : meth.sig.returnType = (some .int)) (hz : s.heap.size + 0 ≤ eB E + G.1) {rr : Int32} (fl : Nat) : ∀ (H : Heap) (locs : List Loc) (ls : Array Slot) (zs0 : Int32) , WD E G I X s.heap H locs → lv_has ls 3 [] → m9_ofChannel_50 fl G.2.2 X I zs0 = some rr → W p l e ({ frames := 2, cells := 0, slots := 0, locals := 42 } : Room) s m args below meth c H locs 0 0 (MQ below (QI E G rr I X) args s 0 0 (eA E)) (F0 m 50 ls [.int zs0]) := by
  intro H locs ls zs0 hw hl hf
  unfold m9_ofChannel_50 at hf
  have hx := C0.1; have hb := C0.2.1; have hml := C0.2.2.1; have hown := C0.2.2.2.1; have hts := C0.2.2.2.2.1
  obtain rfl := Option.some.inj hf
  exact x_iret C0 hr hw dX9_ofChannel_50
noncomputable def m9_ofChannel (fl : Nat) (len : Nat → Nat) (X : Xm) (I : Im) (zx0 : Nat) (zx1 : Int32) (zx2 : Int32) : Option (Int32) :=
  nn (m9_isReel fl len X I zx1) fun zv1 =>
  if zv1 = 0 then
    some ((-1 : Int32))
  else
    nn (m9_in fl len X I zx2 (0 : Int32) (1 : Int32)) fun zv4 =>
    if zv4 = 0 then
      if zx2 = (2 : Int32) then
        nn (m9_doorsOn fl len X I zx0 zx1) fun zv8 =>
        m9_ofChannel_50 fl len X I zv8
      else
        m9_ofChannel_50 fl len X I (-2 : Int32)
    else
      nn (gR X 144 zx0) fun zv10 =>
      ck (inb (((216 : Int32) + ((2 : Int32) * zx1)) + zx2) (len zv10) = true) <|
      m9_ofChannel_50 fl len X I (gA I zv10 ((((216 : Int32) + ((2 : Int32) * zx1)) + zx2)).toNatClampNeg)
theorem hy9_ofChannel : yX9_ofChannel.cls = RX9 ∧ yX9_ofChannel.cls ≠ "java/lang/invoke/MethodHandle" ∧ yX9_ofChannel.cls ≠ "java/lang/invoke/VarHandle" ∧ (parseMethodDescriptor yX9_ofChannel.desc).map (fun d => d.parameters.length) = some 2 := ⟨rfl, by decide +kernel, by decide +kernel, by decide +kernel⟩
set_option maxHeartbeats 4000000 in
set_option maxRecDepth 100000 in
theorem c9_ofChannel (l : Launch) (E : EN) (G : GM) (fl : Nat) (X : Xm) (I : Im) (zx0 : Nat) (zx1 : Int32) (zx2 : Int32) (zt0 : okA E G 9 zx0) {rr : Int32} (hf : m9_ofChannel fl G.2.2 X I zx0 zx1 zx2 = some rr) : MT l yX9_ofChannel cX9_ofChannel 3 (some .int) ({ frames := 2, cells := 0, slots := 0, locals := 42 } : Room) E G I X [.ref zx0, .int zx1, .int zx2] (QI E G rr I X) 0 0 := by
  refine Met.ofW (cc := cX9_ofChannel) (maxL := 3) (ret := (some .int)) (by decide +kernel) rfl ?_
  intro p e s m args below meth c s₁ B hml hv
  obtain ⟨rfl, hw0, hSE⟩ := hv
  have C0 : CX p s m ([.ref zx0, .int zx1, .int zx2] : List Value).toArray meth c E cX9_ofChannel RX9 3 := ⟨B.exec, B.bytes, hml, findClass_of_methodNamed B.named, fun w hw => atoms_spec (ws := WS yX9_ofChannel cX9_ofChannel 3 (some .int)) B.pre w (List.mem_cons_of_mem _ hw), B.notSynchronized, hSE⟩
  have hz : s.heap.size + 0 ≤ eB E + G.1 := Nat.le_of_eq hw0.2.1
  have hw : WD E G I X s.heap s.heap [] := ⟨hw0, va_S.rf⟩
  have hr := B.returns
  have hx := C0.1; have hb := C0.2.1; have hml := C0.2.2.1; have hown := C0.2.2.2.1; have hts := C0.2.2.2.2.1
  have hl := lv_entry ([.ref zx0, .int zx1, .int zx2]) (n := 3) (Nat.le_of_ble_eq_true rfl)
  rw [lg_entry_eq]
  generalize (lg_sl ([.ref zx0, .int zx1, .int zx2]) ++ List.replicate (3 - (lg_sl ([.ref zx0, .int zx1, .int zx2])).length) Slot.unset).toArray = ls at hl ⊢
  have hl : lv_has ls 3 [(0, .ref zx0), (1, .int zx1), (2, .int zx2)] := hl
  unfold m9_ofChannel at hf
  refine lv_iload_n hx hb dX9_ofChannel_0 rfl (lv_at hl 1 rfl) ?_
  obtain ⟨zv1, ze2, hf⟩ := nn_some hf
  refine x_ci (r := zv1) (I1 := I) (X1 := X) (x_runS (As := [.int zx1]) (rest := []) C0 (c9_isReel l E G fl X I zx1 ze2) hw wd123 wd613 wd614 wd612 ⟨rfl, rfl⟩ hy9_isReel ⟨Nat.le_of_ble_eq_true rfl, Nat.le_of_ble_eq_true rfl⟩ rfl hl.1 (Nat.le_of_ble_eq_true rfl) ⟨Nat.zero_le _, Nat.zero_le _⟩ dX9_ofChannel_1) hw (fun H locs hw => ?_)
  refine lv_if_ne (tgt := 9) hx hb dX9_ofChannel_4 (by decide) (fun zc3 => ?_) (fun zc3 => ?_)
  · have hf := ite_f hf zc3
    refine lv_iload_n hx hb dX9_ofChannel_9 rfl (lv_at hl 2 rfl) ?_
    refine lv_iconst (v := (0 : Int32)) hx hb dX9_ofChannel_10 (by decide) ?_
    refine lv_iconst (v := (1 : Int32)) hx hb dX9_ofChannel_11 (by decide) ?_
    obtain ⟨zv4, ze5, hf⟩ := nn_some hf
    refine x_ci (r := zv4) (I1 := I) (X1 := X) (x_runS (As := [.int zx2, .int (0 : Int32), .int (1 : Int32)]) (rest := []) C0 (c9_in l E G fl X I zx2 (0 : Int32) (1 : Int32) ze5) hw wd113 wd610 wd611 wd612 ⟨rfl, rfl⟩ hy9_in ⟨Nat.le_of_ble_eq_true rfl, Nat.le_of_ble_eq_true rfl⟩ rfl hl.1 (Nat.le_of_ble_eq_true rfl) ⟨Nat.zero_le _, Nat.zero_le _⟩ dX9_ofChannel_12) hw (fun H locs hw => ?_)
    refine lv_if_eq (tgt := 35) hx hb dX9_ofChannel_15 (by decide) (fun zc6 => ?_) (fun zc6 => ?_)
    · have hf := ite_t hf zc6
      refine lv_iload_n hx hb dX9_ofChannel_35 rfl (lv_at hl 2 rfl) ?_
      refine lv_iconst (v := (2 : Int32)) hx hb dX9_ofChannel_36 (by decide) ?_
      refine lv_icmp_ne (tgt := 48) hx hb dX9_ofChannel_37 (by decide) (fun zc7 => ?_) (fun zc7 => ?_)
      · have hf := ite_f hf zc7
        refine lv_bipush (v := (-2 : Int32)) hx hb dX9_ofChannel_48 (by decide) ?_
        exact w9_ofChannel_50 C0 hr hz fl _ _ _ (-2 : Int32) hw (lv_sub hl [] rfl) hf
      · have hf := ite_t hf zc7
        refine lv_aload_n hx hb dX9_ofChannel_40 rfl (lv_at hl 0 rfl) ?_
        refine lv_iload_n hx hb dX9_ofChannel_41 rfl (lv_at hl 1 rfl) ?_
        obtain ⟨zv8, ze9, hf⟩ := nn_some hf
        refine x_ci (r := zv8) (I1 := I) (X1 := X) (x_runV (As := [.int zx1]) (rest := []) C0 (c9_doorsOn l E G fl X I zx0 zx1 zt0 ze9) hw 9 zt0 (by decide) rfl wd154 wd686 wd687 wd688 wd612 ⟨rfl, rfl⟩ hy9_doorsOn ⟨Nat.le_of_ble_eq_true rfl, Nat.le_of_ble_eq_true rfl⟩ rfl hl.1 (Nat.le_of_ble_eq_true rfl) ⟨Nat.zero_le _, Nat.zero_le _⟩ dX9_ofChannel_42) hw (fun H locs hw => ?_)
        refine lv_goto (tgt := 50) hx hb dX9_ofChannel_45 (by decide) ?_
        exact w9_ofChannel_50 C0 hr hz fl _ _ _ zv8 hw (lv_sub hl [] rfl) hf
    · have hf := ite_f hf zc6
      refine lv_aload_n hx hb dX9_ofChannel_18 rfl (lv_at hl 0 rfl) ?_
      obtain ⟨zv10, ezv10, hf⟩ := nn_some hf
      have tzv10 : okA E G 11 zv10 := wt_r hw ezv10
      refine xg_9_0 C0 hw zt0 wd601 ezv10 dX9_ofChannel_19 ?_
      refine lv_sipush (v := (216 : Int32)) hx hb dX9_ofChannel_22 (by decide) ?_
      refine lv_iconst (v := (2 : Int32)) hx hb dX9_ofChannel_25 (by decide) ?_
      refine lv_iload_n hx hb dX9_ofChannel_26 rfl (lv_at hl 1 rfl) ?_
      refine lv_imul hx hb dX9_ofChannel_27 ?_
      refine lv_iadd hx hb dX9_ofChannel_28 ?_
      refine lv_iload_n hx hb dX9_ofChannel_29 rfl (lv_at hl 2 rfl) ?_
      refine lv_iadd hx hb dX9_ofChannel_30 ?_
      obtain ⟨zhb11, hf⟩ := ck_some hf
      refine x_iald C0 hw tzv10 zhb11 dX9_ofChannel_31 ?_
      refine lv_goto (tgt := 50) hx hb dX9_ofChannel_32 (by decide) ?_
      exact w9_ofChannel_50 C0 hr hz fl _ _ _ (gA I zv10 ((((216 : Int32) + ((2 : Int32) * zx1)) + zx2)).toNatClampNeg) hw (lv_sub hl [] rfl) hf
  · have hf := ite_t hf zc3
    refine lv_iconst (v := (-1 : Int32)) hx hb dX9_ofChannel_7 (by decide) ?_
    obtain rfl := Option.some.inj hf
    exact x_iret C0 hr hw dX9_ofChannel_8
noncomputable def m9_loud_30 (fl : Nat) (len : Nat → Nat) (X : Xm) (I : Im) (zs0 : Int32) : Option (Int32) :=
  some (zs0)
set_option maxHeartbeats 4000000 in
set_option maxRecDepth 100000 in
theorem w9_loud_30 {p : Program} {l : Launch} {e : Env} {s : State} {m : MethodId} {args : Array Value} {below : List Frame} {meth : Method} {c : Code} {E : EN} {G : GM} {X : Xm} {I : Im} (C0 : CX p s m args meth c E cX9_loud RX9 2) (hr : meth.sig.returnType = (some .int)) (hz : s.heap.size + 0 ≤ eB E + G.1) {rr : Int32} (fl : Nat) : ∀ (H : Heap) (locs : List Loc) (ls : Array Slot) (zs0 : Int32) , WD E G I X s.heap H locs → lv_has ls 2 [] → m9_loud_30 fl G.2.2 X I zs0 = some rr → W p l e ({ frames := 1, cells := 0, slots := 0, locals := 22 } : Room) s m args below meth c H locs 0 0 (MQ below (QI E G rr I X) args s 0 0 (eA E)) (F0 m 30 ls [.int zs0]) := by
  intro H locs ls zs0 hw hl hf
  unfold m9_loud_30 at hf
  have hx := C0.1; have hb := C0.2.1; have hml := C0.2.2.1; have hown := C0.2.2.2.1; have hts := C0.2.2.2.2.1
  obtain rfl := Option.some.inj hf
  exact x_iret C0 hr hw dX9_loud_30
noncomputable def m9_loud (fl : Nat) (len : Nat → Nat) (X : Xm) (I : Im) (zx0 : Nat) (zx1 : Int32) : Option (Int32) :=
  nn (gR X 144 zx0) fun zv1 =>
  ck (inb (4 : Int32) (len zv1) = true) <|
  nn (m9_in fl len X I zx1 (0 : Int32) ((gA I zv1 ((4 : Int32)).toNatClampNeg) - (1 : Int32))) fun zv3 =>
  if zv3 = 0 then
    m9_loud_30 fl len X I (-1 : Int32)
  else
    ck (inb ((320 : Int32) + zx1) (len zv1) = true) <|
    m9_loud_30 fl len X I (gA I zv1 (((320 : Int32) + zx1)).toNatClampNeg)
theorem hy9_loud : yX9_loud.cls = RX9 ∧ yX9_loud.cls ≠ "java/lang/invoke/MethodHandle" ∧ yX9_loud.cls ≠ "java/lang/invoke/VarHandle" ∧ (parseMethodDescriptor yX9_loud.desc).map (fun d => d.parameters.length) = some 1 := ⟨rfl, by decide +kernel, by decide +kernel, by decide +kernel⟩
set_option maxHeartbeats 4000000 in
set_option maxRecDepth 100000 in
theorem c9_loud (l : Launch) (E : EN) (G : GM) (fl : Nat) (X : Xm) (I : Im) (zx0 : Nat) (zx1 : Int32) (zt0 : okA E G 9 zx0) {rr : Int32} (hf : m9_loud fl G.2.2 X I zx0 zx1 = some rr) : MT l yX9_loud cX9_loud 2 (some .int) ({ frames := 1, cells := 0, slots := 0, locals := 22 } : Room) E G I X [.ref zx0, .int zx1] (QI E G rr I X) 0 0 := by
  refine Met.ofW (cc := cX9_loud) (maxL := 2) (ret := (some .int)) (by decide +kernel) rfl ?_
  intro p e s m args below meth c s₁ B hml hv
  obtain ⟨rfl, hw0, hSE⟩ := hv
  have C0 : CX p s m ([.ref zx0, .int zx1] : List Value).toArray meth c E cX9_loud RX9 2 := ⟨B.exec, B.bytes, hml, findClass_of_methodNamed B.named, fun w hw => atoms_spec (ws := WS yX9_loud cX9_loud 2 (some .int)) B.pre w (List.mem_cons_of_mem _ hw), B.notSynchronized, hSE⟩
  have hz : s.heap.size + 0 ≤ eB E + G.1 := Nat.le_of_eq hw0.2.1
  have hw : WD E G I X s.heap s.heap [] := ⟨hw0, va_S.rf⟩
  have hr := B.returns
  have hx := C0.1; have hb := C0.2.1; have hml := C0.2.2.1; have hown := C0.2.2.2.1; have hts := C0.2.2.2.2.1
  have hl := lv_entry ([.ref zx0, .int zx1]) (n := 2) (Nat.le_of_ble_eq_true rfl)
  rw [lg_entry_eq]
  generalize (lg_sl ([.ref zx0, .int zx1]) ++ List.replicate (2 - (lg_sl ([.ref zx0, .int zx1])).length) Slot.unset).toArray = ls at hl ⊢
  have hl : lv_has ls 2 [(0, .ref zx0), (1, .int zx1)] := hl
  unfold m9_loud at hf
  refine lv_iload_n hx hb dX9_loud_0 rfl (lv_at hl 1 rfl) ?_
  refine lv_iconst (v := (0 : Int32)) hx hb dX9_loud_1 (by decide) ?_
  refine lv_aload_n hx hb dX9_loud_2 rfl (lv_at hl 0 rfl) ?_
  obtain ⟨zv1, ezv1, hf⟩ := nn_some hf
  have tzv1 : okA E G 11 zv1 := wt_r hw ezv1
  refine xg_9_0 C0 hw zt0 wd601 ezv1 dX9_loud_3 ?_
  refine lv_iconst (v := (4 : Int32)) hx hb dX9_loud_6 (by decide) ?_
  obtain ⟨zhb2, hf⟩ := ck_some hf
  refine x_iald C0 hw tzv1 zhb2 dX9_loud_7 ?_
  refine lv_iconst (v := (1 : Int32)) hx hb dX9_loud_8 (by decide) ?_
  refine lv_isub hx hb dX9_loud_9 ?_
  obtain ⟨zv3, ze4, hf⟩ := nn_some hf
  refine x_ci (r := zv3) (I1 := I) (X1 := X) (x_runS (As := [.int zx1, .int (0 : Int32), .int ((gA I zv1 ((4 : Int32)).toNatClampNeg) - (1 : Int32))]) (rest := []) C0 (c9_in l E G fl X I zx1 (0 : Int32) ((gA I zv1 ((4 : Int32)).toNatClampNeg) - (1 : Int32)) ze4) hw wd113 wd610 wd611 wd612 ⟨rfl, rfl⟩ hy9_in ⟨Nat.le_of_ble_eq_true rfl, Nat.le_of_ble_eq_true rfl⟩ rfl hl.1 (Nat.le_of_ble_eq_true rfl) ⟨Nat.zero_le _, Nat.zero_le _⟩ dX9_loud_10) hw (fun H locs hw => ?_)
  refine lv_if_eq (tgt := 29) hx hb dX9_loud_13 (by decide) (fun zc5 => ?_) (fun zc5 => ?_)
  · have hf := ite_t hf zc5
    refine lv_iconst (v := (-1 : Int32)) hx hb dX9_loud_29 (by decide) ?_
    exact w9_loud_30 C0 hr hz fl _ _ _ (-1 : Int32) hw (lv_sub hl [] rfl) hf
  · have hf := ite_f hf zc5
    refine lv_aload_n hx hb dX9_loud_16 rfl (lv_at hl 0 rfl) ?_
    refine xg_9_0 C0 hw zt0 wd601 ezv1 dX9_loud_17 ?_
    refine lv_sipush (v := (320 : Int32)) hx hb dX9_loud_20 (by decide) ?_
    refine lv_iload_n hx hb dX9_loud_23 rfl (lv_at hl 1 rfl) ?_
    refine lv_iadd hx hb dX9_loud_24 ?_
    obtain ⟨zhb6, hf⟩ := ck_some hf
    refine x_iald C0 hw tzv1 zhb6 dX9_loud_25 ?_
    refine lv_goto (tgt := 30) hx hb dX9_loud_26 (by decide) ?_
    exact w9_loud_30 C0 hr hz fl _ _ _ (gA I zv1 (((320 : Int32) + zx1)).toNatClampNeg) hw (lv_sub hl [] rfl) hf
