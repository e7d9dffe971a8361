noncomputable def m6_cueAt_31 (fl : Nat) (len : Nat → Nat) (X : Xm) (I : Im) (zs0 : Option Nat) : Option (Option Nat) :=
  some (zs0)
set_option maxHeartbeats 4000000 in
set_option maxRecDepth 100000 in
theorem w6_cueAt_31 {p : Program} {l : Launch} {e : Env} {s : State} {m : MethodId} {args : Array Value} {below : List Frame} {meth : Method} {c : Code} {E : EN} {G : GM} {X : Xm} {I : Im} (C0 : CX p s m args meth c E cX6_cueAt RX6 2) (hr : meth.sig.returnType = (some (.object "RadioCues$Cue"))) (hz : s.heap.size + 0 ≤ eB E + G.1) {rr : Option Nat} (fl : Nat) : ∀ (H : Heap) (locs : List Loc) (ls : Array Slot) (zs0 : Option Nat) (zts0 : ∀ a, zs0 = some a → okA E G 1 a), WD E G I X s.heap H locs → lv_has ls 2 [] → m6_cueAt_31 fl G.2.2 X I zs0 = some rr → W p l e ({ frames := 0, cells := 0, slots := 0, locals := 0 } : Room) s m args below meth c H locs 0 0 (MQ below (QO E G 1 rr I X) args s 0 0 (eA E)) (F0 m 31 ls [va_rf zs0]) := by
  intro H locs ls zs0 zts0 hw hl hf
  unfold m6_cueAt_31 at hf
  have hx := C0.1; have hb := C0.2.1; have hml := C0.2.2.1; have hown := C0.2.2.2.1; have hts := C0.2.2.2.2.1
  obtain rfl := Option.some.inj hf
  exact x_oret (r := zs0) (k := 1) C0 hr zts0 hw dX6_cueAt_31
noncomputable def m6_cueAt_21 (fl : Nat) (len : Nat → Nat) (X : Xm) (I : Im) : Option (Option Nat) :=
  m6_cueAt_31 fl len X I none
set_option maxHeartbeats 4000000 in
set_option maxRecDepth 100000 in
theorem w6_cueAt_21 {p : Program} {l : Launch} {e : Env} {s : State} {m : MethodId} {args : Array Value} {below : List Frame} {meth : Method} {c : Code} {E : EN} {G : GM} {X : Xm} {I : Im} (C0 : CX p s m args meth c E cX6_cueAt RX6 2) (hr : meth.sig.returnType = (some (.object "RadioCues$Cue"))) (hz : s.heap.size + 0 ≤ eB E + G.1) {rr : Option Nat} (fl : Nat) : ∀ (H : Heap) (locs : List Loc) (ls : Array Slot) , WD E G I X s.heap H locs → lv_has ls 2 [] → m6_cueAt_21 fl G.2.2 X I = some rr → W p l e ({ frames := 0, cells := 0, slots := 0, locals := 0 } : Room) s m args below meth c H locs 0 0 (MQ below (QO E G 1 rr I X) args s 0 0 (eA E)) (F0 m 21 ls []) := by
  intro H locs ls hw hl hf
  unfold m6_cueAt_21 at hf
  have hx := C0.1; have hb := C0.2.1; have hml := C0.2.2.1; have hown := C0.2.2.2.1; have hts := C0.2.2.2.2.1
  refine lv_null hx hb dX6_cueAt_21 ?_
  refine lv_goto (tgt := 31) hx hb dX6_cueAt_22 (by decide) ?_
  exact w6_cueAt_31 C0 hr hz fl _ _ _ none (fun a h => by cases h) hw (lv_sub hl [] rfl) hf
noncomputable def m6_cueAt (fl : Nat) (len : Nat → Nat) (X : Xm) (I : Im) (zx0 : Nat) (zx1 : Int32) : Option (Option Nat) :=
  if zx1 < 0 then
    m6_cueAt_21 fl len X I 
  else
    if (gF I 97 zx0) ≤ zx1 then
      m6_cueAt_21 fl len X I 
    else
      nn (gR X 96 zx0) fun zv3 =>
      if zx1 < (nI (len zv3)) then
        ck (inb zx1 (len zv3) = true) <|
        nn (gQ X zv3 (zx1).toNatClampNeg) fun zv6 =>
        m6_cueAt_31 fl len X I (some zv6)
      else
        m6_cueAt_21 fl len X I 
theorem hy6_cueAt : yX6_cueAt.cls = RX6 ∧ yX6_cueAt.cls ≠ "java/lang/invoke/MethodHandle" ∧ yX6_cueAt.cls ≠ "java/lang/invoke/VarHandle" ∧ (parseMethodDescriptor yX6_cueAt.desc).map (fun d => d.parameters.length) = some 1 := ⟨rfl, by decide +kernel, by decide +kernel, by decide +kernel⟩
set_option maxHeartbeats 4000000 in
set_option maxRecDepth 100000 in
theorem c6_cueAt (l : Launch) (E : EN) (G : GM) (fl : Nat) (X : Xm) (I : Im) (zx0 : Nat) (zx1 : Int32) (zt0 : okA E G 6 zx0) {rr : Option Nat} (hf : m6_cueAt fl G.2.2 X I zx0 zx1 = some rr) : MT l yX6_cueAt cX6_cueAt 2 (some (.object "RadioCues$Cue")) ({ frames := 0, cells := 0, slots := 0, locals := 0 } : Room) E G I X [.ref zx0, .int zx1] (QO E G 1 rr I X) 0 0 := by
  refine Met.ofW (cc := cX6_cueAt) (maxL := 2) (ret := (some (.object "RadioCues$Cue"))) (by decide +kernel) rfl ?_
  intro p e s m args below meth c s₁ B hml hv
  obtain ⟨rfl, hw0, hSE⟩ := hv
  have C0 : CX p s m ([.ref zx0, .int zx1] : List Value).toArray meth c E cX6_cueAt RX6 2 := ⟨B.exec, B.bytes, hml, findClass_of_methodNamed B.named, fun w hw => atoms_spec (ws := WS yX6_cueAt cX6_cueAt 2 (some (.object "RadioCues$Cue"))) B.pre w (List.mem_cons_of_mem _ hw), B.notSynchronized, hSE⟩
  have hz : s.heap.size + 0 ≤ eB E + G.1 := Nat.le_of_eq hw0.2.1
  have hw : WD E G I X s.heap s.heap [] := ⟨hw0, va_S.rf⟩
  have hr := B.returns
  have hx := C0.1; have hb := C0.2.1; have hml := C0.2.2.1; have hown := C0.2.2.2.1; have hts := C0.2.2.2.2.1
  have hl := lv_entry ([.ref zx0, .int zx1]) (n := 2) (Nat.le_of_ble_eq_true rfl)
  rw [lg_entry_eq]
  generalize (lg_sl ([.ref zx0, .int zx1]) ++ List.replicate (2 - (lg_sl ([.ref zx0, .int zx1])).length) Slot.unset).toArray = ls at hl ⊢
  have hl : lv_has ls 2 [(0, .ref zx0), (1, .int zx1)] := hl
  unfold m6_cueAt at hf
  refine lv_iload_n hx hb dX6_cueAt_0 rfl (lv_at hl 1 rfl) ?_
  refine lv_if_lt (tgt := 21) hx hb dX6_cueAt_1 (by decide) (fun zc1 => ?_) (fun zc1 => ?_)
  · have hf := ite_t hf zc1
    exact w6_cueAt_21 C0 hr hz fl _ _ _ hw (lv_sub hl [] rfl) hf
  · have hf := ite_f hf zc1
    refine lv_iload_n hx hb dX6_cueAt_4 rfl (lv_at hl 1 rfl) ?_
    refine lv_aload_n hx hb dX6_cueAt_5 rfl (lv_at hl 0 rfl) ?_
    refine xg_6_1 C0 hw zt0 wd168 dX6_cueAt_6 ?_
    refine lv_icmp_ge (tgt := 21) hx hb dX6_cueAt_9 (by decide) (fun zc2 => ?_) (fun zc2 => ?_)
    · have hf := ite_t hf zc2
      exact w6_cueAt_21 C0 hr hz fl _ _ _ hw (lv_sub hl [] rfl) hf
    · have hf := ite_f hf zc2
      refine lv_iload_n hx hb dX6_cueAt_12 rfl (lv_at hl 1 rfl) ?_
      refine lv_aload_n hx hb dX6_cueAt_13 rfl (lv_at hl 0 rfl) ?_
      obtain ⟨zv3, ezv3, hf⟩ := nn_some hf
      have tzv3 : okA E G 14 zv3 := wt_r hw ezv3
      refine xg_6_0 C0 hw zt0 wd130 ezv3 dX6_cueAt_14 ?_
      refine x_alen C0 hw 14 tzv3 (by decide) rfl dX6_cueAt_17 ?_
      refine lv_icmp_lt (tgt := 25) hx hb dX6_cueAt_18 (by decide) (fun zc4 => ?_) (fun zc4 => ?_)
      · have hf := ite_t hf zc4
        refine lv_aload_n hx hb dX6_cueAt_25 rfl (lv_at hl 0 rfl) ?_
        refine xg_6_0 C0 hw zt0 wd130 ezv3 dX6_cueAt_26 ?_
        refine lv_iload_n hx hb dX6_cueAt_29 rfl (lv_at hl 1 rfl) ?_
        obtain ⟨zhb5, hf⟩ := ck_some hf
        obtain ⟨zv6, ezv6, hf⟩ := nn_some hf
        have tzv6 : okA E G 1 zv6 := wt_q hw tzv3 ezv6
        refine x_qald C0 hw 14 tzv3 (by decide) rfl zhb5 ezv6 dX6_cueAt_30 ?_
        exact w6_cueAt_31 C0 hr hz fl _ _ _ (some zv6) (fun a h => by cases h; exact tzv6) hw (lv_sub hl [] rfl) hf
      · have hf := ite_f hf zc4
        exact w6_cueAt_21 C0 hr hz fl _ _ _ hw (lv_sub hl [] rfl) hf
noncomputable def m8_ofCue (fl : Nat) (len : Nat → Nat) (X : Xm) (I : Im) (zx0 : Nat) (zx1 : Int32) (zx2 : Int32) : Option (Int32) :=
  nn (gR X 128 zx0) fun zv1 =>
  nn (gR X 65 zv1) fun zv2 =>
  nn (m6_cueAt fl len X I zv2 zx1) fun zv3 =>
  if zv3 = none then
    some ((-1 : Int32))
  else
    if zx2 = (0 : Int32) then
      nn zv3 fun zb7 =>
      some ((gF I 16 zb7))
    else
      if zx2 = (1 : Int32) then
        nn zv3 fun zb9 =>
        some ((gF I 17 zb9))
      else
        if zx2 = (2 : Int32) then
          nn zv3 fun zb11 =>
          some ((gF I 18 zb11))
        else
          if zx2 = (3 : Int32) then
            nn zv3 fun zb13 =>
            some ((gF I 19 zb13))
          else
            if zx2 = (4 : Int32) then
              nn zv3 fun zb15 =>
              some ((gF I 20 zb15))
            else
              some ((-2 : Int32))
theorem hy8_ofCue : yX8_ofCue.cls = RX8 ∧ yX8_ofCue.cls ≠ "java/lang/invoke/MethodHandle" ∧ yX8_ofCue.cls ≠ "java/lang/invoke/VarHandle" ∧ (parseMethodDescriptor yX8_ofCue.desc).map (fun d => d.parameters.length) = some 2 := ⟨rfl, by decide +kernel, by decide +kernel, by decide +kernel⟩
set_option maxHeartbeats 4000000 in
set_option maxRecDepth 100000 in
theorem c8_ofCue (l : Launch) (E : EN) (G : GM) (fl : Nat) (X : Xm) (I : Im) (zx0 : Nat) (zx1 : Int32) (zx2 : Int32) (zt0 : okA E G 8 zx0) {rr : Int32} (hf : m8_ofCue fl G.2.2 X I zx0 zx1 zx2 = some rr) : MT l yX8_ofCue cX8_ofCue 4 (some .int) ({ frames := 1, cells := 0, slots := 0, locals := 21 } : Room) E G I X [.ref zx0, .int zx1, .int zx2] (QI E G rr I X) 0 0 := by
  refine Met.ofW (cc := cX8_ofCue) (maxL := 4) (ret := (some .int)) (by decide +kernel) rfl ?_
  intro p e s m args below meth c s₁ B hml hv
  obtain ⟨rfl, hw0, hSE⟩ := hv
  have C0 : CX p s m ([.ref zx0, .int zx1, .int zx2] : List Value).toArray meth c E cX8_ofCue RX8 4 := ⟨B.exec, B.bytes, hml, findClass_of_methodNamed B.named, fun w hw => atoms_spec (ws := WS yX8_ofCue cX8_ofCue 4 (some .int)) B.pre w (List.mem_cons_of_mem _ hw), B.notSynchronized, hSE⟩
  have hz : s.heap.size + 0 ≤ eB E + G.1 := Nat.le_of_eq hw0.2.1
  have hw : WD E G I X s.heap s.heap [] := ⟨hw0, va_S.rf⟩
  have hr := B.returns
  have hx := C0.1; have hb := C0.2.1; have hml := C0.2.2.1; have hown := C0.2.2.2.1; have hts := C0.2.2.2.2.1
  have hl := lv_entry ([.ref zx0, .int zx1, .int zx2]) (n := 4) (Nat.le_of_ble_eq_true rfl)
  rw [lg_entry_eq]
  generalize (lg_sl ([.ref zx0, .int zx1, .int zx2]) ++ List.replicate (4 - (lg_sl ([.ref zx0, .int zx1, .int zx2])).length) Slot.unset).toArray = ls at hl ⊢
  have hl : lv_has ls 4 [(0, .ref zx0), (1, .int zx1), (2, .int zx2)] := hl
  unfold m8_ofCue at hf
  refine lv_aload_n hx hb dX8_ofCue_0 rfl (lv_at hl 0 rfl) ?_
  obtain ⟨zv1, ezv1, hf⟩ := nn_some hf
  have tzv1 : okA E G 4 zv1 := wt_r hw ezv1
  refine xg_8_0 C0 hw zt0 wd319 ezv1 dX8_ofCue_1 ?_
  obtain ⟨zv2, ezv2, hf⟩ := nn_some hf
  have tzv2 : okA E G 6 zv2 := wt_r hw ezv2
  refine xg_4_1 C0 hw tzv1 wd354 ezv2 dX8_ofCue_4 ?_
  refine lv_iload_n hx hb dX8_ofCue_7 rfl (lv_at hl 1 rfl) ?_
  obtain ⟨zv3, ze4, hf⟩ := nn_some hf
  refine x_co (r := zv3) (I1 := I) (X1 := X) (x_runV (As := [.int zx1]) (rest := []) C0 (c6_cueAt l E G fl X I zv2 zx1 tzv2 ze4) hw 6 tzv2 (by decide) rfl wd28 wd373 wd223 wd224 wd146 ⟨rfl, rfl⟩ hy6_cueAt ⟨Nat.le_of_ble_eq_true rfl, Nat.le_of_ble_eq_true rfl⟩ rfl hl.1 (Nat.le_of_ble_eq_true rfl) ⟨Nat.zero_le _, Nat.zero_le _⟩ dX8_ofCue_8) hw (fun H locs hw tzv3 => ?_)
  refine x_astore_n (lv' := [(3, va_rf zv3), (0, .ref zx0), (1, .int zx1), (2, .int zx2)]) C0 dX8_ofCue_11 rfl hl (by decide) rfl (fun ls hl => ?_)
  refine x_aload_n C0 dX8_ofCue_12 rfl (lv_at hl 0 rfl) ?_
  refine x_ifnonnull (tgt := 18) C0 dX8_ofCue_13 (by decide) (fun zc5 => ?_) (fun zc5 => ?_)
  · have hf := ite_f hf zc5
    refine lv_iload_n hx hb dX8_ofCue_18 rfl (lv_at hl 3 rfl) ?_
    by_cases zc6 : zx2 = (0 : Int32)
    · have hf := ite_t hf zc6
      refine lv_tableIn (off := 33) (tgt := 52) hx hb dX8_ofCue_19 (by rw [zc6]; decide) (by rw [zc6]; decide) (by rw [zc6]; rfl) (by decide) ?_
      refine x_aload_n C0 dX8_ofCue_52 rfl (lv_at hl 0 rfl) ?_
      obtain ⟨zb7, ezb7, hfzb7⟩ := nn_some hf
      have tzb7 : okA E G 1 zb7 := tzv3 _ ezb7
      subst ezb7
      have hf := hfzb7
      refine xg_1_0 C0 hw tzb7 wd368 dX8_ofCue_53 ?_
      obtain rfl := Option.some.inj hf
      exact x_iret C0 hr hw dX8_ofCue_56
    · have hf := ite_f hf zc6
      by_cases zc8 : zx2 = (1 : Int32)
      · have hf := ite_t hf zc8
        refine lv_tableIn (off := 38) (tgt := 57) hx hb dX8_ofCue_19 (by rw [zc8]; decide) (by rw [zc8]; decide) (by rw [zc8]; rfl) (by decide) ?_
        refine x_aload_n C0 dX8_ofCue_57 rfl (lv_at hl 0 rfl) ?_
        obtain ⟨zb9, ezb9, hfzb9⟩ := nn_some hf
        have tzb9 : okA E G 1 zb9 := tzv3 _ ezb9
        subst ezb9
        have hf := hfzb9
        refine xg_1_1 C0 hw tzb9 wd369 dX8_ofCue_58 ?_
        obtain rfl := Option.some.inj hf
        exact x_iret C0 hr hw dX8_ofCue_61
      · have hf := ite_f hf zc8
        by_cases zc10 : zx2 = (2 : Int32)
        · have hf := ite_t hf zc10
          refine lv_tableIn (off := 43) (tgt := 62) hx hb dX8_ofCue_19 (by rw [zc10]; decide) (by rw [zc10]; decide) (by rw [zc10]; rfl) (by decide) ?_
          refine x_aload_n C0 dX8_ofCue_62 rfl (lv_at hl 0 rfl) ?_
          obtain ⟨zb11, ezb11, hfzb11⟩ := nn_some hf
          have tzb11 : okA E G 1 zb11 := tzv3 _ ezb11
          subst ezb11
          have hf := hfzb11
          refine xg_1_2 C0 hw tzb11 wd370 dX8_ofCue_63 ?_
          obtain rfl := Option.some.inj hf
          exact x_iret C0 hr hw dX8_ofCue_66
        · have hf := ite_f hf zc10
          by_cases zc12 : zx2 = (3 : Int32)
          · have hf := ite_t hf zc12
            refine lv_tableIn (off := 48) (tgt := 67) hx hb dX8_ofCue_19 (by rw [zc12]; decide) (by rw [zc12]; decide) (by rw [zc12]; rfl) (by decide) ?_
            refine x_aload_n C0 dX8_ofCue_67 rfl (lv_at hl 0 rfl) ?_
            obtain ⟨zb13, ezb13, hfzb13⟩ := nn_some hf
            have tzb13 : okA E G 1 zb13 := tzv3 _ ezb13
            subst ezb13
            have hf := hfzb13
            refine xg_1_3 C0 hw tzb13 wd371 dX8_ofCue_68 ?_
            obtain rfl := Option.some.inj hf
            exact x_iret C0 hr hw dX8_ofCue_71
          · have hf := ite_f hf zc12
            by_cases zc14 : zx2 = (4 : Int32)
            · have hf := ite_t hf zc14
              refine lv_tableIn (off := 53) (tgt := 72) hx hb dX8_ofCue_19 (by rw [zc14]; decide) (by rw [zc14]; decide) (by rw [zc14]; rfl) (by decide) ?_
              refine x_aload_n C0 dX8_ofCue_72 rfl (lv_at hl 0 rfl) ?_
              obtain ⟨zb15, ezb15, hfzb15⟩ := nn_some hf
              have tzb15 : okA E G 1 zb15 := tzv3 _ ezb15
              subst ezb15
              have hf := hfzb15
              refine xg_1_4 C0 hw tzb15 wd372 dX8_ofCue_73 ?_
              obtain rfl := Option.some.inj hf
              exact x_iret C0 hr hw dX8_ofCue_76
            · have hf := ite_f hf zc14
              have zq0 := tsw_ne _ zc6 (show ((0 : Int32)).toInt = 0 by decide)
              have zq1 := tsw_ne _ zc8 (show ((1 : Int32)).toInt = 1 by decide)
              have zq2 := tsw_ne _ zc10 (show ((2 : Int32)).toInt = 2 by decide)
              have zq3 := tsw_ne _ zc12 (show ((3 : Int32)).toInt = 3 by decide)
              have zq4 := tsw_ne _ zc14 (show ((4 : Int32)).toInt = 4 by decide)
              refine lv_tableOut (tgt := 77) hx hb dX8_ofCue_19 (by omega) (by decide) ?_
              refine lv_bipush (v := (-2 : Int32)) hx hb dX8_ofCue_77 (by decide) ?_
              obtain rfl := Option.some.inj hf
              exact x_iret C0 hr hw dX8_ofCue_79
  · have hf := ite_t hf zc5
    refine lv_iconst (v := (-1 : Int32)) hx hb dX8_ofCue_16 (by decide) ?_
    obtain rfl := Option.some.inj hf
    exact x_iret C0 hr hw dX8_ofCue_17
noncomputable def m1_copyFrom (fl : Nat) (len : Nat → Nat) (X : Xm) (I : Im) (zx0 : Nat) (zx1 : Nat) : Option (Im) :=
  lt (pF I 16 zx0 (gF I 16 zx1)) fun zI1 =>
  lt (pF zI1 17 zx0 (gF zI1 17 zx1)) fun zI2 =>
  lt (pF zI2 18 zx0 (gF zI2 18 zx1)) fun zI3 =>
  lt (pF zI3 19 zx0 (gF zI3 19 zx1)) fun zI4 =>
  lt (pF zI4 20 zx0 (gF zI4 20 zx1)) fun zI5 =>
  some (zI5)
theorem hy1_copyFrom : yX1_copyFrom.cls = RX1 ∧ yX1_copyFrom.cls ≠ "java/lang/invoke/MethodHandle" ∧ yX1_copyFrom.cls ≠ "java/lang/invoke/VarHandle" ∧ (parseMethodDescriptor yX1_copyFrom.desc).map (fun d => d.parameters.length) = some 1 := ⟨rfl, by decide +kernel, by decide +kernel, by decide +kernel⟩
set_option maxHeartbeats 4000000 in
set_option maxRecDepth 100000 in
theorem c1_copyFrom (l : Launch) (E : EN) (G : GM) (fl : Nat) (X : Xm) (I : Im) (zx0 : Nat) (zx1 : Nat) (zt0 : okA E G 1 zx0) (zt1 : okA E G 1 zx1) {rr : Im} (hf : m1_copyFrom fl G.2.2 X I zx0 zx1 = some rr) : MT l yX1_copyFrom cX1_copyFrom 2 none ({ frames := 0, cells := 0, slots := 0, locals := 0 } : Room) E G I X [.ref zx0, .ref zx1] (QV E G rr X) 0 0 := by
  refine Met.ofW (cc := cX1_copyFrom) (maxL := 2) (ret := none) (by decide +kernel) rfl ?_
  intro p e s m args below meth c s₁ B hml hv
  obtain ⟨rfl, hw0, hSE⟩ := hv
  have C0 : CX p s m ([.ref zx0, .ref zx1] : List Value).toArray meth c E cX1_copyFrom RX1 2 := ⟨B.exec, B.bytes, hml, findClass_of_methodNamed B.named, fun w hw => atoms_spec (ws := WS yX1_copyFrom cX1_copyFrom 2 none) B.pre w (List.mem_cons_of_mem _ hw), B.notSynchronized, hSE⟩
  have hz : s.heap.size + 0 ≤ eB E + G.1 := Nat.le_of_eq hw0.2.1
  have hw : WD E G I X s.heap s.heap [] := ⟨hw0, va_S.rf⟩
  have hr := B.returns
  have hx := C0.1; have hb := C0.2.1; have hml := C0.2.2.1; have hown := C0.2.2.2.1; have hts := C0.2.2.2.2.1
  have hl := lv_entry ([.ref zx0, .ref zx1]) (n := 2) (Nat.le_of_ble_eq_true rfl)
  rw [lg_entry_eq]
  generalize (lg_sl ([.ref zx0, .ref zx1]) ++ List.replicate (2 - (lg_sl ([.ref zx0, .ref zx1])).length) Slot.unset).toArray = ls at hl ⊢
  have hl : lv_has ls 2 [(0, .ref zx0), (1, .ref zx1)] := hl
  unfold m1_copyFrom at hf
  refine lv_aload_n hx hb dX1_copyFrom_0 rfl (lv_at hl 0 rfl) ?_
  refine lv_aload_n hx hb dX1_copyFrom_1 rfl (lv_at hl 1 rfl) ?_
  refine xg_1_0 C0 hw zt1 wd109 dX1_copyFrom_2 ?_
  obtain ⟨zI1, ezI1⟩ : ∃ y : Im, y = pF I 16 zx0 (gF I 16 zx1) := ⟨_, rfl⟩
  have hf := lt_at hf ezI1
  refine xp_1_0 C0 hz hw zt0 rfl rfl wd109 dX1_copyFrom_5 ezI1 (fun H locs hw => ?_)
  refine lv_aload_n hx hb dX1_copyFrom_8 rfl (lv_at hl 0 rfl) ?_
  refine lv_aload_n hx hb dX1_copyFrom_9 rfl (lv_at hl 1 rfl) ?_
  refine xg_1_1 C0 hw zt1 wd110 dX1_copyFrom_10 ?_
  obtain ⟨zI2, ezI2⟩ : ∃ y : Im, y = pF zI1 17 zx0 (gF zI1 17 zx1) := ⟨_, rfl⟩
  have hf := lt_at hf ezI2
  refine xp_1_1 C0 hz hw zt0 rfl rfl wd110 dX1_copyFrom_13 ezI2 (fun H locs hw => ?_)
  refine lv_aload_n hx hb dX1_copyFrom_16 rfl (lv_at hl 0 rfl) ?_
  refine lv_aload_n hx hb dX1_copyFrom_17 rfl (lv_at hl 1 rfl) ?_
  refine xg_1_2 C0 hw zt1 wd111 dX1_copyFrom_18 ?_
  obtain ⟨zI3, ezI3⟩ : ∃ y : Im, y = pF zI2 18 zx0 (gF zI2 18 zx1) := ⟨_, rfl⟩
  have hf := lt_at hf ezI3
  refine xp_1_2 C0 hz hw zt0 rfl rfl wd111 dX1_copyFrom_21 ezI3 (fun H locs hw => ?_)
  refine lv_aload_n hx hb dX1_copyFrom_24 rfl (lv_at hl 0 rfl) ?_
  refine lv_aload_n hx hb dX1_copyFrom_25 rfl (lv_at hl 1 rfl) ?_
  refine xg_1_3 C0 hw zt1 wd112 dX1_copyFrom_26 ?_
  obtain ⟨zI4, ezI4⟩ : ∃ y : Im, y = pF zI3 19 zx0 (gF zI3 19 zx1) := ⟨_, rfl⟩
  have hf := lt_at hf ezI4
  refine xp_1_3 C0 hz hw zt0 rfl rfl wd112 dX1_copyFrom_29 ezI4 (fun H locs hw => ?_)
  refine lv_aload_n hx hb dX1_copyFrom_32 rfl (lv_at hl 0 rfl) ?_
  refine lv_aload_n hx hb dX1_copyFrom_33 rfl (lv_at hl 1 rfl) ?_
  refine xg_1_4 C0 hw zt1 wd113 dX1_copyFrom_34 ?_
  obtain ⟨zI5, ezI5⟩ : ∃ y : Im, y = pF zI4 20 zx0 (gF zI4 20 zx1) := ⟨_, rfl⟩
  have hf := lt_at hf ezI5
  refine xp_1_4 C0 hz hw zt0 rfl rfl wd113 dX1_copyFrom_37 ezI5 (fun H locs hw => ?_)
  obtain rfl := Option.some.inj hf
  exact x_vret C0 hr hw dX1_copyFrom_40
noncomputable def m6_copyFrom_56 (fl : Nat) (len : Nat → Nat) (X : Xm) (I : Im) : Option (Im) :=
  some (I)
set_option maxHeartbeats 4000000 in
set_option maxRecDepth 100000 in
theorem w6_copyFrom_56 {p : Program} {l : Launch} {e : Env} {s : State} {m : MethodId} {args : Array Value} {below : List Frame} {meth : Method} {c : Code} {E : EN} {G : GM} {X : Xm} (C0 : CX p s m args meth c E cX6_copyFrom RX6 3) (hr : meth.sig.returnType = none) (hz : s.heap.size + 0 ≤ eB E + G.1) {rr : Im} (fl : Nat) : ∀ (I : Im) (H : Heap) (locs : List Loc) (ls : Array Slot) , WD E G I X s.heap H locs → lv_has ls 3 [] → m6_copyFrom_56 fl G.2.2 X I = some rr → W p l e ({ frames := 1, cells := 0, slots := 0, locals := 21 } : Room) s m args below meth c H locs 0 0 (MQ below (QV E G rr X) args s 0 0 (eA E)) (F0 m 56 ls []) := by
  intro I H locs ls hw hl hf
  unfold m6_copyFrom_56 at hf
  have hx := C0.1; have hb := C0.2.1; have hml := C0.2.2.1; have hown := C0.2.2.2.1; have hts := C0.2.2.2.2.1
  obtain rfl := Option.some.inj hf
  exact x_vret C0 hr hw dX6_copyFrom_56
noncomputable def m6_copyFrom_18b (fl : Nat) (len : Nat → Nat) (X : Xm) (zr18 : Im → Nat → Nat → Int32 → Option (Im)) (I : Im) (zx0 : Nat) (zx1 : Nat) (zx2 : Int32) : Option (Im) :=
  if (gF I 97 zx0) ≤ zx2 then
    m6_copyFrom_56 fl len X I
  else
    nn (gR X 96 zx0) fun zv2 =>
    if (nI (len zv2)) ≤ zx2 then
      m6_copyFrom_56 fl len X I
    else
      ck (inb zx2 (len zv2) = true) <|
      nn (gQ X zv2 (zx2).toNatClampNeg) fun zv5 =>
      nn (gR X 96 zx1) fun zv6 =>
      ck (inb zx2 (len zv6) = true) <|
      nn (gQ X zv6 (zx2).toNatClampNeg) fun zv8 =>
      nn (m1_copyFrom fl len X I zv5 zv8) fun zI9 =>
      lt (zx2 + 1) fun zv11 =>
      zr18 zI9 zx0 zx1 zv11
noncomputable def m6_copyFrom_18 (fl : Nat) (len : Nat → Nat) (X : Xm) (n : Nat) : Im → Nat → Nat → Int32 → Option (Im) :=
  Nat.rec (fun _ _ _ _ => none) (fun _ r => m6_copyFrom_18b fl len X r) n
set_option maxHeartbeats 4000000 in
set_option maxRecDepth 100000 in
theorem w6_copyFrom_18b {p : Program} {l : Launch} {e : Env} {s : State} {m : MethodId} {args : Array Value} {below : List Frame} {meth : Method} {c : Code} {E : EN} {G : GM} {X : Xm} (C0 : CX p s m args meth c E cX6_copyFrom RX6 3) (hr : meth.sig.returnType = none) (hz : s.heap.size + 0 ≤ eB E + G.1) {rr : Im} (fl : Nat) (zr18 : Im → Nat → Nat → Int32 → Option (Im)) (zhr18 : ∀ (I : Im) (H : Heap) (locs : List Loc) (ls : Array Slot) (zx0 : Nat) (zx1 : Nat) (zx2 : Int32) (zt0 : okA E G 6 zx0) (zt1 : okA E G 6 zx1), WD E G I X s.heap H locs → lv_has ls 3 [(0, .ref zx0), (1, .ref zx1), (2, .int zx2)] → zr18 I zx0 zx1 zx2 = some rr → W p l e ({ frames := 1, cells := 0, slots := 0, locals := 21 } : Room) s m args below meth c H locs 0 0 (MQ below (QV E G rr X) args s 0 0 (eA E)) (F0 m 18 ls [])) : ∀ (I : Im) (H : Heap) (locs : List Loc) (ls : Array Slot) (zx0 : Nat) (zx1 : Nat) (zx2 : Int32) (zt0 : okA E G 6 zx0) (zt1 : okA E G 6 zx1), WD E G I X s.heap H locs → lv_has ls 3 [(0, .ref zx0), (1, .ref zx1), (2, .int zx2)] → m6_copyFrom_18b fl G.2.2 X zr18 I zx0 zx1 zx2 = some rr → W p l e ({ frames := 1, cells := 0, slots := 0, locals := 21 } : Room) s m args below meth c H locs 0 0 (MQ below (QV E G rr X) args s 0 0 (eA E)) (F0 m 18 ls []) := by
  intro I H locs ls zx0 zx1 zx2 zt0 zt1 hw hl hf
  unfold m6_copyFrom_18b at hf
  have hx := C0.1; have hb := C0.2.1; have hml := C0.2.2.1; have hown := C0.2.2.2.1; have hts := C0.2.2.2.2.1
  refine lv_iload_n hx hb dX6_copyFrom_18 rfl (lv_at hl 2 rfl) ?_
  refine lv_aload_n hx hb dX6_copyFrom_19 rfl (lv_at hl 0 rfl) ?_
  refine xg_6_1 C0 hw zt0 wd168 dX6_copyFrom_20 ?_
  refine lv_icmp_ge (tgt := 56) hx hb dX6_copyFrom_23 (by decide) (fun zc1 => ?_) (fun zc1 => ?_)
  · have hf := ite_t hf zc1
    exact w6_copyFrom_56 C0 hr hz fl I _ _ _ hw (lv_sub hl [] rfl) hf
  · have hf := ite_f hf zc1
    refine lv_iload_n hx hb dX6_copyFrom_26 rfl (lv_at hl 2 rfl) ?_
    refine lv_aload_n hx hb dX6_copyFrom_27 rfl (lv_at hl 0 rfl) ?_
    obtain ⟨zv2, ezv2, hf⟩ := nn_some hf
    have tzv2 : okA E G 14 zv2 := wt_r hw ezv2
    refine xg_6_0 C0 hw zt0 wd130 ezv2 dX6_copyFrom_28 ?_
    refine x_alen C0 hw 14 tzv2 (by decide) rfl dX6_copyFrom_31 ?_
    refine lv_icmp_ge (tgt := 56) hx hb dX6_copyFrom_32 (by decide) (fun zc3 => ?_) (fun zc3 => ?_)
    · have hf := ite_t hf zc3
      exact w6_copyFrom_56 C0 hr hz fl I _ _ _ hw (lv_sub hl [] rfl) hf
    · have hf := ite_f hf zc3
      refine lv_aload_n hx hb dX6_copyFrom_35 rfl (lv_at hl 0 rfl) ?_
      refine xg_6_0 C0 hw zt0 wd130 ezv2 dX6_copyFrom_36 ?_
      refine lv_iload_n hx hb dX6_copyFrom_39 rfl (lv_at hl 2 rfl) ?_
      obtain ⟨zhb4, hf⟩ := ck_some hf
      obtain ⟨zv5, ezv5, hf⟩ := nn_some hf
      have tzv5 : okA E G 1 zv5 := wt_q hw tzv2 ezv5
      refine x_qald C0 hw 14 tzv2 (by decide) rfl zhb4 ezv5 dX6_copyFrom_40 ?_
      refine lv_aload_n hx hb dX6_copyFrom_41 rfl (lv_at hl 1 rfl) ?_
      obtain ⟨zv6, ezv6, hf⟩ := nn_some hf
      have tzv6 : okA E G 14 zv6 := wt_r hw ezv6
      refine xg_6_0 C0 hw zt1 wd130 ezv6 dX6_copyFrom_42 ?_
      refine lv_iload_n hx hb dX6_copyFrom_45 rfl (lv_at hl 2 rfl) ?_
      obtain ⟨zhb7, hf⟩ := ck_some hf
      obtain ⟨zv8, ezv8, hf⟩ := nn_some hf
      have tzv8 : okA E G 1 zv8 := wt_q hw tzv6 ezv8
      refine x_qald C0 hw 14 tzv6 (by decide) rfl zhb7 ezv8 dX6_copyFrom_46 ?_
      obtain ⟨zI9, ze10, hf⟩ := nn_some hf
      refine x_cv (I1 := zI9) (X1 := X) (x_runV (As := [.ref zv8]) (rest := []) C0 (c1_copyFrom l E G fl X I zv5 zv8 tzv5 tzv8 ze10) hw 1 tzv5 (by decide) rfl wd4 wd170 wd171 wd172 wd132 ⟨rfl, rfl⟩ hy1_copyFrom ⟨Nat.le_of_ble_eq_true rfl, Nat.le_of_ble_eq_true rfl⟩ rfl hl.1 (Nat.le_of_ble_eq_true rfl) ⟨Nat.zero_le _, Nat.zero_le _⟩ dX6_copyFrom_47) hw (fun H locs hw => ?_)
      obtain ⟨zv11, ezv11⟩ : ∃ y : Int32, y = zx2 + 1 := ⟨_, rfl⟩
      have hf := lt_at hf ezv11
      refine lv_iinc (v := zv11) (lv' := [(2, .int zv11), (0, .ref zx0), (1, .ref zx1)]) hx hb dX6_copyFrom_50 hl (k := 2) rfl (by rw [ezv11]; rfl) (by decide) rfl (fun ls hl => ?_)
      refine lv_goto (tgt := 18) hx hb dX6_copyFrom_53 (by decide) ?_
      exact zhr18 zI9 _ _ _ zx0 zx1 zv11 zt0 zt1 hw (lv_sub hl [1, 2, 0] rfl) hf
theorem w6_copyFrom_18 {p : Program} {l : Launch} {e : Env} {s : State} {m : MethodId} {args : Array Value} {below : List Frame} {meth : Method} {c : Code} {E : EN} {G : GM} {X : Xm} (C0 : CX p s m args meth c E cX6_copyFrom RX6 3) (hr : meth.sig.returnType = none) (hz : s.heap.size + 0 ≤ eB E + G.1) {rr : Im} (fl : Nat) : ∀ (n : Nat) (I : Im) (H : Heap) (locs : List Loc) (ls : Array Slot) (zx0 : Nat) (zx1 : Nat) (zx2 : Int32) (zt0 : okA E G 6 zx0) (zt1 : okA E G 6 zx1), WD E G I X s.heap H locs → lv_has ls 3 [(0, .ref zx0), (1, .ref zx1), (2, .int zx2)] → m6_copyFrom_18 fl G.2.2 X n I zx0 zx1 zx2 = some rr → W p l e ({ frames := 1, cells := 0, slots := 0, locals := 21 } : Room) s m args below meth c H locs 0 0 (MQ below (QV E G rr X) args s 0 0 (eA E)) (F0 m 18 ls []) := by
  intro n
  induction n with
  | zero => intro I H locs ls zx0 zx1 zx2 zt0 zt1 hw hl hf; exact absurd (show (none : Option (Im)) = some rr from hf) (by simp)
  | succ n ih => intro I H locs ls zx0 zx1 zx2 zt0 zt1 hw hl hf; exact w6_copyFrom_18b C0 hr hz fl _ ih I H locs ls zx0 zx1 zx2 zt0 zt1 hw hl hf
noncomputable def m6_copyFrom (fl : Nat) (len : Nat → Nat) (X : Xm) (I : Im) (zx0 : Nat) (zx1 : Nat) : Option (Im) :=
  lt (pF I 97 zx0 (gF I 97 zx1)) fun zI1 =>
  lt (pF zI1 98 zx0 (gF zI1 98 zx1)) fun zI2 =>
  m6_copyFrom_18 fl len X fl zI2 zx0 zx1 (0 : Int32)
theorem hy6_copyFrom : yX6_copyFrom.cls = RX6 ∧ yX6_copyFrom.cls ≠ "java/lang/invoke/MethodHandle" ∧ yX6_copyFrom.cls ≠ "java/lang/invoke/VarHandle" ∧ (parseMethodDescriptor yX6_copyFrom.desc).map (fun d => d.parameters.length) = some 1 := ⟨rfl, by decide +kernel, by decide +kernel, by decide +kernel⟩
set_option maxHeartbeats 4000000 in
set_option maxRecDepth 100000 in
theorem c6_copyFrom (l : Launch) (E : EN) (G : GM) (fl : Nat) (X : Xm) (I : Im) (zx0 : Nat) (zx1 : Nat) (zt0 : okA E G 6 zx0) (zt1 : okA E G 6 zx1) {rr : Im} (hf : m6_copyFrom fl G.2.2 X I zx0 zx1 = some rr) : MT l yX6_copyFrom cX6_copyFrom 3 none ({ frames := 1, cells := 0, slots := 0, locals := 21 } : Room) E G I X [.ref zx0, .ref zx1] (QV E G rr X) 0 0 := by
  refine Met.ofW (cc := cX6_copyFrom) (maxL := 3) (ret := none) (by decide +kernel) rfl ?_
  intro p e s m args below meth c s₁ B hml hv
  obtain ⟨rfl, hw0, hSE⟩ := hv
  have C0 : CX p s m ([.ref zx0, .ref zx1] : List Value).toArray meth c E cX6_copyFrom RX6 3 := ⟨B.exec, B.bytes, hml, findClass_of_methodNamed B.named, fun w hw => atoms_spec (ws := WS yX6_copyFrom cX6_copyFrom 3 none) B.pre w (List.mem_cons_of_mem _ hw), B.notSynchronized, hSE⟩
  have hz : s.heap.size + 0 ≤ eB E + G.1 := Nat.le_of_eq hw0.2.1
  have hw : WD E G I X s.heap s.heap [] := ⟨hw0, va_S.rf⟩
  have hr := B.returns
  have hx := C0.1; have hb := C0.2.1; have hml := C0.2.2.1; have hown := C0.2.2.2.1; have hts := C0.2.2.2.2.1
  have hl := lv_entry ([.ref zx0, .ref zx1]) (n := 3) (Nat.le_of_ble_eq_true rfl)
  rw [lg_entry_eq]
  generalize (lg_sl ([.ref zx0, .ref zx1]) ++ List.replicate (3 - (lg_sl ([.ref zx0, .ref zx1])).length) Slot.unset).toArray = ls at hl ⊢
  have hl : lv_has ls 3 [(0, .ref zx0), (1, .ref zx1)] := hl
  unfold m6_copyFrom at hf
  refine lv_aload_n hx hb dX6_copyFrom_0 rfl (lv_at hl 0 rfl) ?_
  refine lv_aload_n hx hb dX6_copyFrom_1 rfl (lv_at hl 1 rfl) ?_
  refine xg_6_1 C0 hw zt1 wd168 dX6_copyFrom_2 ?_
  obtain ⟨zI1, ezI1⟩ : ∃ y : Im, y = pF I 97 zx0 (gF I 97 zx1) := ⟨_, rfl⟩
  have hf := lt_at hf ezI1
  refine xp_6_1 C0 hz hw zt0 rfl rfl wd168 dX6_copyFrom_5 ezI1 (fun H locs hw => ?_)
  refine lv_aload_n hx hb dX6_copyFrom_8 rfl (lv_at hl 0 rfl) ?_
  refine lv_aload_n hx hb dX6_copyFrom_9 rfl (lv_at hl 1 rfl) ?_
  refine xg_6_2 C0 hw zt1 wd169 dX6_copyFrom_10 ?_
  obtain ⟨zI2, ezI2⟩ : ∃ y : Im, y = pF zI1 98 zx0 (gF zI1 98 zx1) := ⟨_, rfl⟩
  have hf := lt_at hf ezI2
  refine xp_6_2 C0 hz hw zt0 rfl rfl wd169 dX6_copyFrom_13 ezI2 (fun H locs hw => ?_)
  refine lv_iconst (v := (0 : Int32)) hx hb dX6_copyFrom_16 (by decide) ?_
  refine lv_istore_n (lv' := [(2, .int (0 : Int32)), (0, .ref zx0), (1, .ref zx1)]) hx hb dX6_copyFrom_17 rfl hl (by decide) rfl (fun ls hl => ?_)
  exact w6_copyFrom_18 C0 hr hz fl fl zI2 _ _ _ zx0 zx1 (0 : Int32) zt0 zt1 hw (lv_sub hl [1, 2, 0] rfl) hf
noncomputable def m7_copyFrom (fl : Nat) (len : Nat → Nat) (X : Xm) (I : Im) (zx0 : Nat) (zx1 : Nat) : Option (Im) :=
  lt (pF I 112 zx0 (gF I 112 zx1)) fun zI1 =>
  lt (pF zI1 113 zx0 (gF zI1 113 zx1)) fun zI2 =>
  lt (pF zI2 114 zx0 (gF zI2 114 zx1)) fun zI3 =>
  lt (pF zI3 115 zx0 (gF zI3 115 zx1)) fun zI4 =>
  some (zI4)
theorem hy7_copyFrom : yX7_copyFrom.cls = RX7 ∧ yX7_copyFrom.cls ≠ "java/lang/invoke/MethodHandle" ∧ yX7_copyFrom.cls ≠ "java/lang/invoke/VarHandle" ∧ (parseMethodDescriptor yX7_copyFrom.desc).map (fun d => d.parameters.length) = some 1 := ⟨rfl, by decide +kernel, by decide +kernel, by decide +kernel⟩
set_option maxHeartbeats 4000000 in
set_option maxRecDepth 100000 in
theorem c7_copyFrom (l : Launch) (E : EN) (G : GM) (fl : Nat) (X : Xm) (I : Im) (zx0 : Nat) (zx1 : Nat) (zt0 : okA E G 7 zx0) (zt1 : okA E G 7 zx1) {rr : Im} (hf : m7_copyFrom fl G.2.2 X I zx0 zx1 = some rr) : MT l yX7_copyFrom cX7_copyFrom 2 none ({ frames := 0, cells := 0, slots := 0, locals := 0 } : Room) E G I X [.ref zx0, .ref zx1] (QV E G rr X) 0 0 := by
  refine Met.ofW (cc := cX7_copyFrom) (maxL := 2) (ret := none) (by decide +kernel) rfl ?_
  intro p e s m args below meth c s₁ B hml hv
  obtain ⟨rfl, hw0, hSE⟩ := hv
  have C0 : CX p s m ([.ref zx0, .ref zx1] : List Value).toArray meth c E cX7_copyFrom RX7 2 := ⟨B.exec, B.bytes, hml, findClass_of_methodNamed B.named, fun w hw => atoms_spec (ws := WS yX7_copyFrom cX7_copyFrom 2 none) B.pre w (List.mem_cons_of_mem _ hw), B.notSynchronized, hSE⟩
  have hz : s.heap.size + 0 ≤ eB E + G.1 := Nat.le_of_eq hw0.2.1
  have hw : WD E G I X s.heap s.heap [] := ⟨hw0, va_S.rf⟩
  have hr := B.returns
  have hx := C0.1; have hb := C0.2.1; have hml := C0.2.2.1; have hown := C0.2.2.2.1; have hts := C0.2.2.2.2.1
  have hl := lv_entry ([.ref zx0, .ref zx1]) (n := 2) (Nat.le_of_ble_eq_true rfl)
  rw [lg_entry_eq]
  generalize (lg_sl ([.ref zx0, .ref zx1]) ++ List.replicate (2 - (lg_sl ([.ref zx0, .ref zx1])).length) Slot.unset).toArray = ls at hl ⊢
  have hl : lv_has ls 2 [(0, .ref zx0), (1, .ref zx1)] := hl
  unfold m7_copyFrom at hf
  refine lv_aload_n hx hb dX7_copyFrom_0 rfl (lv_at hl 0 rfl) ?_
  refine lv_aload_n hx hb dX7_copyFrom_1 rfl (lv_at hl 1 rfl) ?_
  refine xg_7_0 C0 hw zt1 wd173 dX7_copyFrom_2 ?_
  obtain ⟨zI1, ezI1⟩ : ∃ y : Im, y = pF I 112 zx0 (gF I 112 zx1) := ⟨_, rfl⟩
  have hf := lt_at hf ezI1
  refine xp_7_0 C0 hz hw zt0 rfl rfl wd173 dX7_copyFrom_5 ezI1 (fun H locs hw => ?_)
  refine lv_aload_n hx hb dX7_copyFrom_8 rfl (lv_at hl 0 rfl) ?_
  refine lv_aload_n hx hb dX7_copyFrom_9 rfl (lv_at hl 1 rfl) ?_
  refine xg_7_1 C0 hw zt1 wd174 dX7_copyFrom_10 ?_
  obtain ⟨zI2, ezI2⟩ : ∃ y : Im, y = pF zI1 113 zx0 (gF zI1 113 zx1) := ⟨_, rfl⟩
  have hf := lt_at hf ezI2
  refine xp_7_1 C0 hz hw zt0 rfl rfl wd174 dX7_copyFrom_13 ezI2 (fun H locs hw => ?_)
  refine lv_aload_n hx hb dX7_copyFrom_16 rfl (lv_at hl 0 rfl) ?_
  refine lv_aload_n hx hb dX7_copyFrom_17 rfl (lv_at hl 1 rfl) ?_
  refine xg_7_2 C0 hw zt1 wd175 dX7_copyFrom_18 ?_
  obtain ⟨zI3, ezI3⟩ : ∃ y : Im, y = pF zI2 114 zx0 (gF zI2 114 zx1) := ⟨_, rfl⟩
  have hf := lt_at hf ezI3
  refine xp_7_2 C0 hz hw zt0 rfl rfl wd175 dX7_copyFrom_21 ezI3 (fun H locs hw => ?_)
  refine lv_aload_n hx hb dX7_copyFrom_24 rfl (lv_at hl 0 rfl) ?_
  refine lv_aload_n hx hb dX7_copyFrom_25 rfl (lv_at hl 1 rfl) ?_
  refine xg_7_3 C0 hw zt1 wd176 dX7_copyFrom_26 ?_
  obtain ⟨zI4, ezI4⟩ : ∃ y : Im, y = pF zI3 115 zx0 (gF zI3 115 zx1) := ⟨_, rfl⟩
  have hf := lt_at hf ezI4
  refine xp_7_3 C0 hz hw zt0 rfl rfl wd176 dX7_copyFrom_29 ezI4 (fun H locs hw => ?_)
  obtain rfl := Option.some.inj hf
  exact x_vret C0 hr hw dX7_copyFrom_32
noncomputable def m5_copyFrom_72 (fl : Nat) (len : Nat → Nat) (X : Xm) (I : Im) : Option (Im) :=
  some (I)
set_option maxHeartbeats 4000000 in
set_option maxRecDepth 100000 in
theorem w5_copyFrom_72 {p : Program} {l : Launch} {e : Env} {s : State} {m : MethodId} {args : Array Value} {below : List Frame} {meth : Method} {c : Code} {E : EN} {G : GM} {X : Xm} (C0 : CX p s m args meth c E cX5_copyFrom RX5 3) (hr : meth.sig.returnType = none) (hz : s.heap.size + 0 ≤ eB E + G.1) {rr : Im} (fl : Nat) : ∀ (I : Im) (H : Heap) (locs : List Loc) (ls : Array Slot) , WD E G I X s.heap H locs → lv_has ls 3 [] → m5_copyFrom_72 fl G.2.2 X I = some rr → W p l e ({ frames := 1, cells := 0, slots := 0, locals := 21 } : Room) s m args below meth c H locs 0 0 (MQ below (QV E G rr X) args s 0 0 (eA E)) (F0 m 72 ls []) := by
  intro I H locs ls hw hl hf
  unfold m5_copyFrom_72 at hf
  have hx := C0.1; have hb := C0.2.1; have hml := C0.2.2.1; have hown := C0.2.2.2.1; have hts := C0.2.2.2.2.1
  obtain rfl := Option.some.inj hf
  exact x_vret C0 hr hw dX5_copyFrom_72
noncomputable def m5_copyFrom_34b (fl : Nat) (len : Nat → Nat) (X : Xm) (zr34 : Im → Nat → Nat → Int32 → Option (Im)) (I : Im) (zx0 : Nat) (zx1 : Nat) (zx2 : Int32) : Option (Im) :=
  if (gF I 81 zx0) ≤ zx2 then
    m5_copyFrom_72 fl len X I
  else
    nn (gR X 80 zx0) fun zv2 =>
    if (nI (len zv2)) ≤ zx2 then
      m5_copyFrom_72 fl len X I
    else
      ck (inb zx2 (len zv2) = true) <|
      nn (gQ X zv2 (zx2).toNatClampNeg) fun zv5 =>
      nn (gR X 80 zx1) fun zv6 =>
      ck (inb zx2 (len zv6) = true) <|
      nn (gQ X zv6 (zx2).toNatClampNeg) fun zv8 =>
      nn (m7_copyFrom fl len X I zv5 zv8) fun zI9 =>
      lt (zx2 + 1) fun zv11 =>
      zr34 zI9 zx0 zx1 zv11
noncomputable def m5_copyFrom_34 (fl : Nat) (len : Nat → Nat) (X : Xm) (n : Nat) : Im → Nat → Nat → Int32 → Option (Im) :=
  Nat.rec (fun _ _ _ _ => none) (fun _ r => m5_copyFrom_34b fl len X r) n
set_option maxHeartbeats 4000000 in
set_option maxRecDepth 100000 in
theorem w5_copyFrom_34b {p : Program} {l : Launch} {e : Env} {s : State} {m : MethodId} {args : Array Value} {below : List Frame} {meth : Method} {c : Code} {E : EN} {G : GM} {X : Xm} (C0 : CX p s m args meth c E cX5_copyFrom RX5 3) (hr : meth.sig.returnType = none) (hz : s.heap.size + 0 ≤ eB E + G.1) {rr : Im} (fl : Nat) (zr34 : Im → Nat → Nat → Int32 → Option (Im)) (zhr34 : ∀ (I : Im) (H : Heap) (locs : List Loc) (ls : Array Slot) (zx0 : Nat) (zx1 : Nat) (zx2 : Int32) (zt0 : okA E G 5 zx0) (zt1 : okA E G 5 zx1), WD E G I X s.heap H locs → lv_has ls 3 [(0, .ref zx0), (1, .ref zx1), (2, .int zx2)] → zr34 I zx0 zx1 zx2 = some rr → W p l e ({ frames := 1, cells := 0, slots := 0, locals := 21 } : Room) s m args below meth c H locs 0 0 (MQ below (QV E G rr X) args s 0 0 (eA E)) (F0 m 34 ls [])) : ∀ (I : Im) (H : Heap) (locs : List Loc) (ls : Array Slot) (zx0 : Nat) (zx1 : Nat) (zx2 : Int32) (zt0 : okA E G 5 zx0) (zt1 : okA E G 5 zx1), WD E G I X s.heap H locs → lv_has ls 3 [(0, .ref zx0), (1, .ref zx1), (2, .int zx2)] → m5_copyFrom_34b fl G.2.2 X zr34 I zx0 zx1 zx2 = some rr → W p l e ({ frames := 1, cells := 0, slots := 0, locals := 21 } : Room) s m args below meth c H locs 0 0 (MQ below (QV E G rr X) args s 0 0 (eA E)) (F0 m 34 ls []) := by
  intro I H locs ls zx0 zx1 zx2 zt0 zt1 hw hl hf
  unfold m5_copyFrom_34b at hf
  have hx := C0.1; have hb := C0.2.1; have hml := C0.2.2.1; have hown := C0.2.2.2.1; have hts := C0.2.2.2.2.1
  refine lv_iload_n hx hb dX5_copyFrom_34 rfl (lv_at hl 2 rfl) ?_
  refine lv_aload_n hx hb dX5_copyFrom_35 rfl (lv_at hl 0 rfl) ?_
  refine xg_5_1 C0 hw zt0 wd177 dX5_copyFrom_36 ?_
  refine lv_icmp_ge (tgt := 72) hx hb dX5_copyFrom_39 (by decide) (fun zc1 => ?_) (fun zc1 => ?_)
  · have hf := ite_t hf zc1
    exact w5_copyFrom_72 C0 hr hz fl I _ _ _ hw (lv_sub hl [] rfl) hf
  · have hf := ite_f hf zc1
    refine lv_iload_n hx hb dX5_copyFrom_42 rfl (lv_at hl 2 rfl) ?_
    refine lv_aload_n hx hb dX5_copyFrom_43 rfl (lv_at hl 0 rfl) ?_
    obtain ⟨zv2, ezv2, hf⟩ := nn_some hf
    have tzv2 : okA E G 17 zv2 := wt_r hw ezv2
    refine xg_5_0 C0 hw zt0 wd137 ezv2 dX5_copyFrom_44 ?_
    refine x_alen C0 hw 17 tzv2 (by decide) rfl dX5_copyFrom_47 ?_
    refine lv_icmp_ge (tgt := 72) hx hb dX5_copyFrom_48 (by decide) (fun zc3 => ?_) (fun zc3 => ?_)
    · have hf := ite_t hf zc3
      exact w5_copyFrom_72 C0 hr hz fl I _ _ _ hw (lv_sub hl [] rfl) hf
    · have hf := ite_f hf zc3
      refine lv_aload_n hx hb dX5_copyFrom_51 rfl (lv_at hl 0 rfl) ?_
      refine xg_5_0 C0 hw zt0 wd137 ezv2 dX5_copyFrom_52 ?_
      refine lv_iload_n hx hb dX5_copyFrom_55 rfl (lv_at hl 2 rfl) ?_
      obtain ⟨zhb4, hf⟩ := ck_some hf
      obtain ⟨zv5, ezv5, hf⟩ := nn_some hf
      have tzv5 : okA E G 7 zv5 := wt_q hw tzv2 ezv5
      refine x_qald C0 hw 17 tzv2 (by decide) rfl zhb4 ezv5 dX5_copyFrom_56 ?_
      refine lv_aload_n hx hb dX5_copyFrom_57 rfl (lv_at hl 1 rfl) ?_
      obtain ⟨zv6, ezv6, hf⟩ := nn_some hf
      have tzv6 : okA E G 17 zv6 := wt_r hw ezv6
      refine xg_5_0 C0 hw zt1 wd137 ezv6 dX5_copyFrom_58 ?_
      refine lv_iload_n hx hb dX5_copyFrom_61 rfl (lv_at hl 2 rfl) ?_
      obtain ⟨zhb7, hf⟩ := ck_some hf
      obtain ⟨zv8, ezv8, hf⟩ := nn_some hf
      have tzv8 : okA E G 7 zv8 := wt_q hw tzv6 ezv8
      refine x_qald C0 hw 17 tzv6 (by decide) rfl zhb7 ezv8 dX5_copyFrom_62 ?_
      obtain ⟨zI9, ze10, hf⟩ := nn_some hf
      refine x_cv (I1 := zI9) (X1 := X) (x_runV (As := [.ref zv8]) (rest := []) C0 (c7_copyFrom l E G fl X I zv5 zv8 tzv5 tzv8 ze10) hw 7 tzv5 (by decide) rfl wd16 wd180 wd181 wd182 wd140 ⟨rfl, rfl⟩ hy7_copyFrom ⟨Nat.le_of_ble_eq_true rfl, Nat.le_of_ble_eq_true rfl⟩ rfl hl.1 (Nat.le_of_ble_eq_true rfl) ⟨Nat.zero_le _, Nat.zero_le _⟩ dX5_copyFrom_63) hw (fun H locs hw => ?_)
      obtain ⟨zv11, ezv11⟩ : ∃ y : Int32, y = zx2 + 1 := ⟨_, rfl⟩
      have hf := lt_at hf ezv11
      refine lv_iinc (v := zv11) (lv' := [(2, .int zv11), (0, .ref zx0), (1, .ref zx1)]) hx hb dX5_copyFrom_66 hl (k := 2) rfl (by rw [ezv11]; rfl) (by decide) rfl (fun ls hl => ?_)
      refine lv_goto (tgt := 34) hx hb dX5_copyFrom_69 (by decide) ?_
      exact zhr34 zI9 _ _ _ zx0 zx1 zv11 zt0 zt1 hw (lv_sub hl [1, 2, 0] rfl) hf
theorem w5_copyFrom_34 {p : Program} {l : Launch} {e : Env} {s : State} {m : MethodId} {args : Array Value} {below : List Frame} {meth : Method} {c : Code} {E : EN} {G : GM} {X : Xm} (C0 : CX p s m args meth c E cX5_copyFrom RX5 3) (hr : meth.sig.returnType = none) (hz : s.heap.size + 0 ≤ eB E + G.1) {rr : Im} (fl : Nat) : ∀ (n : Nat) (I : Im) (H : Heap) (locs : List Loc) (ls : Array Slot) (zx0 : Nat) (zx1 : Nat) (zx2 : Int32) (zt0 : okA E G 5 zx0) (zt1 : okA E G 5 zx1), WD E G I X s.heap H locs → lv_has ls 3 [(0, .ref zx0), (1, .ref zx1), (2, .int zx2)] → m5_copyFrom_34 fl G.2.2 X n I zx0 zx1 zx2 = some rr → W p l e ({ frames := 1, cells := 0, slots := 0, locals := 21 } : Room) s m args below meth c H locs 0 0 (MQ below (QV E G rr X) args s 0 0 (eA E)) (F0 m 34 ls []) := by
  intro n
  induction n with
  | zero => intro I H locs ls zx0 zx1 zx2 zt0 zt1 hw hl hf; exact absurd (show (none : Option (Im)) = some rr from hf) (by simp)
  | succ n ih => intro I H locs ls zx0 zx1 zx2 zt0 zt1 hw hl hf; exact w5_copyFrom_34b C0 hr hz fl _ ih I H locs ls zx0 zx1 zx2 zt0 zt1 hw hl hf
noncomputable def m5_copyFrom (fl : Nat) (len : Nat → Nat) (X : Xm) (I : Im) (zx0 : Nat) (zx1 : Nat) : Option (Im) :=
  lt (pF I 81 zx0 (gF I 81 zx1)) fun zI1 =>
  lt (pF zI1 82 zx0 (gF zI1 82 zx1)) fun zI2 =>
  lt (pF zI2 83 zx0 (gF zI2 83 zx1)) fun zI3 =>
  lt (pF zI3 84 zx0 (gF zI3 84 zx1)) fun zI4 =>
  m5_copyFrom_34 fl len X fl zI4 zx0 zx1 (0 : Int32)
theorem hy5_copyFrom : yX5_copyFrom.cls = RX5 ∧ yX5_copyFrom.cls ≠ "java/lang/invoke/MethodHandle" ∧ yX5_copyFrom.cls ≠ "java/lang/invoke/VarHandle" ∧ (parseMethodDescriptor yX5_copyFrom.desc).map (fun d => d.parameters.length) = some 1 := ⟨rfl, by decide +kernel, by decide +kernel, by decide +kernel⟩
set_option maxHeartbeats 4000000 in
set_option maxRecDepth 100000 in
theorem c5_copyFrom (l : Launch) (E : EN) (G : GM) (fl : Nat) (X : Xm) (I : Im) (zx0 : Nat) (zx1 : Nat) (zt0 : okA E G 5 zx0) (zt1 : okA E G 5 zx1) {rr : Im} (hf : m5_copyFrom fl G.2.2 X I zx0 zx1 = some rr) : MT l yX5_copyFrom cX5_copyFrom 3 none ({ frames := 1, cells := 0, slots := 0, locals := 21 } : Room) E G I X [.ref zx0, .ref zx1] (QV E G rr X) 0 0 := by
  refine Met.ofW (cc := cX5_copyFrom) (maxL := 3) (ret := none) (by decide +kernel) rfl ?_
  intro p e s m args below meth c s₁ B hml hv
  obtain ⟨rfl, hw0, hSE⟩ := hv
  have C0 : CX p s m ([.ref zx0, .ref zx1] : List Value).toArray meth c E cX5_copyFrom RX5 3 := ⟨B.exec, B.bytes, hml, findClass_of_methodNamed B.named, fun w hw => atoms_spec (ws := WS yX5_copyFrom cX5_copyFrom 3 none) B.pre w (List.mem_cons_of_mem _ hw), B.notSynchronized, hSE⟩
  have hz : s.heap.size + 0 ≤ eB E + G.1 := Nat.le_of_eq hw0.2.1
  have hw : WD E G I X s.heap s.heap [] := ⟨hw0, va_S.rf⟩
  have hr := B.returns
  have hx := C0.1; have hb := C0.2.1; have hml := C0.2.2.1; have hown := C0.2.2.2.1; have hts := C0.2.2.2.2.1
  have hl := lv_entry ([.ref zx0, .ref zx1]) (n := 3) (Nat.le_of_ble_eq_true rfl)
  rw [lg_entry_eq]
  generalize (lg_sl ([.ref zx0, .ref zx1]) ++ List.replicate (3 - (lg_sl ([.ref zx0, .ref zx1])).length) Slot.unset).toArray = ls at hl ⊢
  have hl : lv_has ls 3 [(0, .ref zx0), (1, .ref zx1)] := hl
  unfold m5_copyFrom at hf
  refine lv_aload_n hx hb dX5_copyFrom_0 rfl (lv_at hl 0 rfl) ?_
  refine lv_aload_n hx hb dX5_copyFrom_1 rfl (lv_at hl 1 rfl) ?_
  refine xg_5_1 C0 hw zt1 wd177 dX5_copyFrom_2 ?_
  obtain ⟨zI1, ezI1⟩ : ∃ y : Im, y = pF I 81 zx0 (gF I 81 zx1) := ⟨_, rfl⟩
  have hf := lt_at hf ezI1
  refine xp_5_1 C0 hz hw zt0 rfl rfl wd177 dX5_copyFrom_5 ezI1 (fun H locs hw => ?_)
  refine lv_aload_n hx hb dX5_copyFrom_8 rfl (lv_at hl 0 rfl) ?_
  refine lv_aload_n hx hb dX5_copyFrom_9 rfl (lv_at hl 1 rfl) ?_
  refine xg_5_2 C0 hw zt1 wd178 dX5_copyFrom_10 ?_
  obtain ⟨zI2, ezI2⟩ : ∃ y : Im, y = pF zI1 82 zx0 (gF zI1 82 zx1) := ⟨_, rfl⟩
  have hf := lt_at hf ezI2
  refine xp_5_2 C0 hz hw zt0 rfl rfl wd178 dX5_copyFrom_13 ezI2 (fun H locs hw => ?_)
  refine lv_aload_n hx hb dX5_copyFrom_16 rfl (lv_at hl 0 rfl) ?_
  refine lv_aload_n hx hb dX5_copyFrom_17 rfl (lv_at hl 1 rfl) ?_
  refine xg_5_3 C0 hw zt1 wd138 dX5_copyFrom_18 ?_
  obtain ⟨zI3, ezI3⟩ : ∃ y : Im, y = pF zI2 83 zx0 (gF zI2 83 zx1) := ⟨_, rfl⟩
  have hf := lt_at hf ezI3
  refine xp_5_3 C0 hz hw zt0 rfl rfl wd138 dX5_copyFrom_21 ezI3 (fun H locs hw => ?_)
  refine lv_aload_n hx hb dX5_copyFrom_24 rfl (lv_at hl 0 rfl) ?_
  refine lv_aload_n hx hb dX5_copyFrom_25 rfl (lv_at hl 1 rfl) ?_
  refine xg_5_4 C0 hw zt1 wd179 dX5_copyFrom_26 ?_
  obtain ⟨zI4, ezI4⟩ : ∃ y : Im, y = pF zI3 84 zx0 (gF zI3 84 zx1) := ⟨_, rfl⟩
  have hf := lt_at hf ezI4
  refine xp_5_4 C0 hz hw zt0 rfl rfl wd179 dX5_copyFrom_29 ezI4 (fun H locs hw => ?_)
  refine lv_iconst (v := (0 : Int32)) hx hb dX5_copyFrom_32 (by decide) ?_
  refine lv_istore_n (lv' := [(2, .int (0 : Int32)), (0, .ref zx0), (1, .ref zx1)]) hx hb dX5_copyFrom_33 rfl hl (by decide) rfl (fun ls hl => ?_)
  exact w5_copyFrom_34 C0 hr hz fl fl zI4 _ _ _ zx0 zx1 (0 : Int32) zt0 zt1 hw (lv_sub hl [1, 2, 0] rfl) hf
noncomputable def m2_copyFrom (fl : Nat) (len : Nat → Nat) (X : Xm) (I : Im) (zx0 : Nat) (zx1 : Nat) : Option (Im) :=
  lt (pF I 35 zx0 (gF I 35 zx1)) fun zI1 =>
  nn (gR X 32 zx1) fun zv2 =>
  nn (gR X 32 zx0) fun zv3 =>
  ck (cpok (0 : Int32) (0 : Int32) (nI (len zv3)) (len zv2) (len zv3) = true) <|
  lt (pAr zI1 zv3 (va_cpy (gA zI1 zv2) (gA zI1 zv3) ((0 : Int32)).toNatClampNeg ((0 : Int32)).toNatClampNeg ((nI (len zv3))).toNatClampNeg)) fun zI5 =>
  nn (gR X 33 zx1) fun zv6 =>
  nn (gR X 33 zx0) fun zv7 =>
  ck (cpok (0 : Int32) (0 : Int32) (nI (len zv7)) (len zv6) (len zv7) = true) <|
  lt (pAr zI5 zv7 (va_cpy (gA zI5 zv6) (gA zI5 zv7) ((0 : Int32)).toNatClampNeg ((0 : Int32)).toNatClampNeg ((nI (len zv7))).toNatClampNeg)) fun zI9 =>
  nn (gR X 34 zx1) fun zv10 =>
  nn (gR X 34 zx0) fun zv11 =>
  ck (cpok (0 : Int32) (0 : Int32) (nI (len zv11)) (len zv10) (len zv11) = true) <|
  lt (pAr zI9 zv11 (va_cpy (gA zI9 zv10) (gA zI9 zv11) ((0 : Int32)).toNatClampNeg ((0 : Int32)).toNatClampNeg ((nI (len zv11))).toNatClampNeg)) fun zI13 =>
  some (zI13)
theorem hy2_copyFrom : yX2_copyFrom.cls = RX2 ∧ yX2_copyFrom.cls ≠ "java/lang/invoke/MethodHandle" ∧ yX2_copyFrom.cls ≠ "java/lang/invoke/VarHandle" ∧ (parseMethodDescriptor yX2_copyFrom.desc).map (fun d => d.parameters.length) = some 1 := ⟨rfl, by decide +kernel, by decide +kernel, by decide +kernel⟩
set_option maxHeartbeats 4000000 in
set_option maxRecDepth 100000 in
theorem c2_copyFrom (l : Launch) (E : EN) (G : GM) (fl : Nat) (X : Xm) (I : Im) (zx0 : Nat) (zx1 : Nat) (zt0 : okA E G 2 zx0) (zt1 : okA E G 2 zx1) {rr : Im} (hf : m2_copyFrom fl G.2.2 X I zx0 zx1 = some rr) : MT l yX2_copyFrom cX2_copyFrom 2 none ({ frames := 1, cells := 0, slots := 0, locals := 27 } : Room) E G I X [.ref zx0, .ref zx1] (QV E G rr X) 0 0 := by
  refine Met.ofW (cc := cX2_copyFrom) (maxL := 2) (ret := none) (by decide +kernel) rfl ?_
  intro p e s m args below meth c s₁ B hml hv
  obtain ⟨rfl, hw0, hSE⟩ := hv
  have C0 : CX p s m ([.ref zx0, .ref zx1] : List Value).toArray meth c E cX2_copyFrom RX2 2 := ⟨B.exec, B.bytes, hml, findClass_of_methodNamed B.named, fun w hw => atoms_spec (ws := WS yX2_copyFrom cX2_copyFrom 2 none) B.pre w (List.mem_cons_of_mem _ hw), B.notSynchronized, hSE⟩
  have hz : s.heap.size + 0 ≤ eB E + G.1 := Nat.le_of_eq hw0.2.1
  have hw : WD E G I X s.heap s.heap [] := ⟨hw0, va_S.rf⟩
  have hr := B.returns
  have hx := C0.1; have hb := C0.2.1; have hml := C0.2.2.1; have hown := C0.2.2.2.1; have hts := C0.2.2.2.2.1
  have hl := lv_entry ([.ref zx0, .ref zx1]) (n := 2) (Nat.le_of_ble_eq_true rfl)
  rw [lg_entry_eq]
  generalize (lg_sl ([.ref zx0, .ref zx1]) ++ List.replicate (2 - (lg_sl ([.ref zx0, .ref zx1])).length) Slot.unset).toArray = ls at hl ⊢
  have hl : lv_has ls 2 [(0, .ref zx0), (1, .ref zx1)] := hl
  unfold m2_copyFrom at hf
  refine lv_aload_n hx hb dX2_copyFrom_0 rfl (lv_at hl 0 rfl) ?_
  refine lv_aload_n hx hb dX2_copyFrom_1 rfl (lv_at hl 1 rfl) ?_
  refine xg_2_3 C0 hw zt1 wd119 dX2_copyFrom_2 ?_
  obtain ⟨zI1, ezI1⟩ : ∃ y : Im, y = pF I 35 zx0 (gF I 35 zx1) := ⟨_, rfl⟩
  have hf := lt_at hf ezI1
  refine xp_2_3 C0 hz hw zt0 rfl rfl wd119 dX2_copyFrom_5 ezI1 (fun H locs hw => ?_)
  refine lv_aload_n hx hb dX2_copyFrom_8 rfl (lv_at hl 1 rfl) ?_
  obtain ⟨zv2, ezv2, hf⟩ := nn_some hf
  have tzv2 : okA E G 11 zv2 := wt_r hw ezv2
  refine xg_2_0 C0 hw zt1 wd116 ezv2 dX2_copyFrom_9 ?_
  refine lv_iconst (v := (0 : Int32)) hx hb dX2_copyFrom_12 (by decide) ?_
  refine lv_aload_n hx hb dX2_copyFrom_13 rfl (lv_at hl 0 rfl) ?_
  obtain ⟨zv3, ezv3, hf⟩ := nn_some hf
  have tzv3 : okA E G 11 zv3 := wt_r hw ezv3
  refine xg_2_0 C0 hw zt0 wd116 ezv3 dX2_copyFrom_14 ?_
  refine lv_iconst (v := (0 : Int32)) hx hb dX2_copyFrom_17 (by decide) ?_
  refine lv_aload_n hx hb dX2_copyFrom_18 rfl (lv_at hl 0 rfl) ?_
  refine xg_2_0 C0 hw zt0 wd116 ezv3 dX2_copyFrom_19 ?_
  refine x_alen C0 hw 11 tzv3 (by decide) rfl dX2_copyFrom_22 ?_
  obtain ⟨zhc4, hf⟩ := ck_some hf
  obtain ⟨zI5, ezI5⟩ : ∃ y : Im, y = pAr zI1 zv3 (va_cpy (gA zI1 zv2) (gA zI1 zv3) ((0 : Int32)).toNatClampNeg ((0 : Int32)).toNatClampNeg ((nI (G.2.2 zv3))).toNatClampNeg) := ⟨_, rfl⟩
  have hf := lt_at hf ezI5
  refine x_copy C0 hz hw tzv2 tzv3 zhc4 (hml.trans hl.1.symm) wd120 (Nat.le_of_ble_eq_true rfl) (Nat.le_of_ble_eq_true rfl) dX2_copyFrom_23 ezI5 (fun H locs hw => ?_)
  refine lv_aload_n hx hb dX2_copyFrom_26 rfl (lv_at hl 1 rfl) ?_
  obtain ⟨zv6, ezv6, hf⟩ := nn_some hf
  have tzv6 : okA E G 11 zv6 := wt_r hw ezv6
  refine xg_2_1 C0 hw zt1 wd117 ezv6 dX2_copyFrom_27 ?_
  refine lv_iconst (v := (0 : Int32)) hx hb dX2_copyFrom_30 (by decide) ?_
  refine lv_aload_n hx hb dX2_copyFrom_31 rfl (lv_at hl 0 rfl) ?_
  obtain ⟨zv7, ezv7, hf⟩ := nn_some hf
  have tzv7 : okA E G 11 zv7 := wt_r hw ezv7
  refine xg_2_1 C0 hw zt0 wd117 ezv7 dX2_copyFrom_32 ?_
  refine lv_iconst (v := (0 : Int32)) hx hb dX2_copyFrom_35 (by decide) ?_
  refine lv_aload_n hx hb dX2_copyFrom_36 rfl (lv_at hl 0 rfl) ?_
  refine xg_2_1 C0 hw zt0 wd117 ezv7 dX2_copyFrom_37 ?_
  refine x_alen C0 hw 11 tzv7 (by decide) rfl dX2_copyFrom_40 ?_
  obtain ⟨zhc8, hf⟩ := ck_some hf
  obtain ⟨zI9, ezI9⟩ : ∃ y : Im, y = pAr zI5 zv7 (va_cpy (gA zI5 zv6) (gA zI5 zv7) ((0 : Int32)).toNatClampNeg ((0 : Int32)).toNatClampNeg ((nI (G.2.2 zv7))).toNatClampNeg) := ⟨_, rfl⟩
  have hf := lt_at hf ezI9
  refine x_copy C0 hz hw tzv6 tzv7 zhc8 (hml.trans hl.1.symm) wd120 (Nat.le_of_ble_eq_true rfl) (Nat.le_of_ble_eq_true rfl) dX2_copyFrom_41 ezI9 (fun H locs hw => ?_)
  refine lv_aload_n hx hb dX2_copyFrom_44 rfl (lv_at hl 1 rfl) ?_
  obtain ⟨zv10, ezv10, hf⟩ := nn_some hf
  have tzv10 : okA E G 11 zv10 := wt_r hw ezv10
  refine xg_2_2 C0 hw zt1 wd118 ezv10 dX2_copyFrom_45 ?_
  refine lv_iconst (v := (0 : Int32)) hx hb dX2_copyFrom_48 (by decide) ?_
  refine lv_aload_n hx hb dX2_copyFrom_49 rfl (lv_at hl 0 rfl) ?_
  obtain ⟨zv11, ezv11, hf⟩ := nn_some hf
  have tzv11 : okA E G 11 zv11 := wt_r hw ezv11
  refine xg_2_2 C0 hw zt0 wd118 ezv11 dX2_copyFrom_50 ?_
  refine lv_iconst (v := (0 : Int32)) hx hb dX2_copyFrom_53 (by decide) ?_
  refine lv_aload_n hx hb dX2_copyFrom_54 rfl (lv_at hl 0 rfl) ?_
  refine xg_2_2 C0 hw zt0 wd118 ezv11 dX2_copyFrom_55 ?_
  refine x_alen C0 hw 11 tzv11 (by decide) rfl dX2_copyFrom_58 ?_
  obtain ⟨zhc12, hf⟩ := ck_some hf
  obtain ⟨zI13, ezI13⟩ : ∃ y : Im, y = pAr zI9 zv11 (va_cpy (gA zI9 zv10) (gA zI9 zv11) ((0 : Int32)).toNatClampNeg ((0 : Int32)).toNatClampNeg ((nI (G.2.2 zv11))).toNatClampNeg) := ⟨_, rfl⟩
  have hf := lt_at hf ezI13
  refine x_copy C0 hz hw tzv10 tzv11 zhc12 (hml.trans hl.1.symm) wd120 (Nat.le_of_ble_eq_true rfl) (Nat.le_of_ble_eq_true rfl) dX2_copyFrom_59 ezI13 (fun H locs hw => ?_)
  obtain rfl := Option.some.inj hf
  exact x_vret C0 hr hw dX2_copyFrom_62
