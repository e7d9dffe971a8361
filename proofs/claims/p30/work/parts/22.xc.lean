noncomputable def m4_callSound_115 (fl : Nat) (len : Nat → Nat) (X : Xm) (I : Im) (zx4 : Nat) : Option (Int32 × Im) :=
  lt (pF I 115 zx4 ((gF I 115 zx4) + (1 : Int32))) fun zI1 =>
  some ((1 : Int32), zI1)
set_option maxHeartbeats 4000000 in
set_option maxRecDepth 100000 in
theorem w4_callSound_115 {p : Program} {l : Launch} {e : Env} {s : State} {m : MethodId} {args : Array Value} {below : List Frame} {meth : Method} {c : Code} {E : EN} {G : GM} {X : Xm} (C0 : CX p s m args meth c E cX4_callSound RX4 5) (hr : meth.sig.returnType = (some .int)) (hz : s.heap.size + 0 ≤ eB E + G.1) {rr : Int32 × Im} (fl : Nat) : ∀ (I : Im) (H : Heap) (locs : List Loc) (ls : Array Slot) (zx4 : Nat) (zt4 : okA E G 7 zx4), WD E G I X s.heap H locs → lv_has ls 5 [(4, .ref zx4)] → m4_callSound_115 fl G.2.2 X I zx4 = some rr → W p l e ({ frames := 1, cells := 0, slots := 0, locals := 21 } : Room) s m args below meth c H locs 0 0 (MQ below (QI E G rr.1 rr.2 X) args s 0 0 (eA E)) (F0 m 115 ls []) := by
  intro I H locs ls zx4 zt4 hw hl hf
  unfold m4_callSound_115 at hf
  have hx := C0.1; have hb := C0.2.1; have hml := C0.2.2.1; have hown := C0.2.2.2.1; have hts := C0.2.2.2.2.1
  refine lv_aload hx hb dX4_callSound_115 (lv_at hl 0 rfl) ?_
  refine lv_dup hx hb dX4_callSound_117 rfl ?_
  refine xg_7_3 C0 hw zt4 wd264 dX4_callSound_118 ?_
  refine lv_iconst (v := (1 : Int32)) hx hb dX4_callSound_121 (by decide) ?_
  refine lv_iadd hx hb dX4_callSound_122 ?_
  obtain ⟨zI1, ezI1⟩ : ∃ y : Im, y = pF I 115 zx4 ((gF I 115 zx4) + (1 : Int32)) := ⟨_, rfl⟩
  have hf := lt_at hf ezI1
  refine xp_7_3 C0 hz hw zt4 rfl rfl wd264 dX4_callSound_123 ezI1 (fun H locs hw => ?_)
  refine lv_iconst (v := (1 : Int32)) hx hb dX4_callSound_126 (by decide) ?_
  obtain rfl := Option.some.inj hf
  exact x_iret C0 hr hw dX4_callSound_127
noncomputable def m4_callSound_47 (fl : Nat) (len : Nat → Nat) (X : Xm) (I : Im) : Option (Int32 × Im) :=
  some ((3 : Int32), I)
set_option maxHeartbeats 4000000 in
set_option maxRecDepth 100000 in
theorem w4_callSound_47 {p : Program} {l : Launch} {e : Env} {s : State} {m : MethodId} {args : Array Value} {below : List Frame} {meth : Method} {c : Code} {E : EN} {G : GM} {X : Xm} (C0 : CX p s m args meth c E cX4_callSound RX4 5) (hr : meth.sig.returnType = (some .int)) (hz : s.heap.size + 0 ≤ eB E + G.1) {rr : Int32 × Im} (fl : Nat) : ∀ (I : Im) (H : Heap) (locs : List Loc) (ls : Array Slot) , WD E G I X s.heap H locs → lv_has ls 5 [] → m4_callSound_47 fl G.2.2 X I = some rr → W p l e ({ frames := 1, cells := 0, slots := 0, locals := 21 } : Room) s m args below meth c H locs 0 0 (MQ below (QI E G rr.1 rr.2 X) args s 0 0 (eA E)) (F0 m 47 ls []) := by
  intro I H locs ls hw hl hf
  unfold m4_callSound_47 at hf
  have hx := C0.1; have hb := C0.2.1; have hml := C0.2.2.1; have hown := C0.2.2.2.1; have hts := C0.2.2.2.2.1
  refine lv_iconst (v := (3 : Int32)) hx hb dX4_callSound_47 (by decide) ?_
  obtain rfl := Option.some.inj hf
  exact x_iret C0 hr hw dX4_callSound_48
noncomputable def m4_callSound (fl : Nat) (len : Nat → Nat) (X : Xm) (I : Im) (zx0 : Nat) (zx1 : Int32) (zx2 : Int32) : Option (Int32 × Im) :=
  nn (m4_reelAt fl len X I zx0 zx1) fun zv1 =>
  if zv1 = none then
    some ((3 : Int32), I)
  else
    nn zv1 fun zb4 =>
    if (gF I 83 zb4) = (-6 : Int32) then
      nn (m5_soundNumbered fl len X I zb4 zx2) fun zv6 =>
      if zv6 = none then
        m4_callSound_47 fl len X I
      else
        nn zv6 fun zb9 =>
        if (gF I 82 zb4) = (gF I 114 zb9) then
          lt (pF I 83 zb4 zx2) fun zI11 =>
          lt (pF zI11 84 zb4 (gF zI11 112 zb9)) fun zI12 =>
          if (gF zI12 115 zb9) = 0 then
            if (gF zI12 70 zx0) < 0 then
              m4_callSound_115 fl len X zI12 zb9
            else
              nn (gR X 69 zx0) fun zv15 =>
              if (nI (len zv15)) ≤ (gF zI12 70 zx0) then
                m4_callSound_115 fl len X zI12 zb9
              else
                ck (inb (gF zI12 70 zx0) (len zv15) = true) <|
                lt (pA zI12 zv15 ((gF zI12 70 zx0)).toNatClampNeg ((zx1 * (6 : Int32)) + zx2)) fun zI18 =>
                lt (pF zI18 70 zx0 ((gF zI18 70 zx0) + (1 : Int32))) fun zI19 =>
                m4_callSound_115 fl len X zI19 zb9
          else
            m4_callSound_115 fl len X zI12 zb9
        else
          m4_callSound_47 fl len X I
    else
      some ((2 : Int32), I)
theorem hy4_callSound : yX4_callSound.cls = RX4 ∧ yX4_callSound.cls ≠ "java/lang/invoke/MethodHandle" ∧ yX4_callSound.cls ≠ "java/lang/invoke/VarHandle" ∧ (parseMethodDescriptor yX4_callSound.desc).map (fun d => d.parameters.length) = some 2 := ⟨rfl, by decide +kernel, by decide +kernel, by decide +kernel⟩
set_option maxHeartbeats 4000000 in
set_option maxRecDepth 100000 in
theorem c4_callSound (l : Launch) (E : EN) (G : GM) (fl : Nat) (X : Xm) (I : Im) (zx0 : Nat) (zx1 : Int32) (zx2 : Int32) (zt0 : okA E G 4 zx0) {rr : Int32 × Im} (hf : m4_callSound fl G.2.2 X I zx0 zx1 zx2 = some rr) : MT l yX4_callSound cX4_callSound 5 (some .int) ({ frames := 1, cells := 0, slots := 0, locals := 21 } : Room) E G I X [.ref zx0, .int zx1, .int zx2] (QI E G rr.1 rr.2 X) 0 0 := by
  refine Met.ofW (cc := cX4_callSound) (maxL := 5) (ret := (some .int)) (by decide +kernel) rfl ?_
  intro p e s m args below meth c s₁ B hml hv
  obtain ⟨rfl, hw0, hSE⟩ := hv
  have C0 : CX p s m ([.ref zx0, .int zx1, .int zx2] : List Value).toArray meth c E cX4_callSound RX4 5 := ⟨B.exec, B.bytes, hml, findClass_of_methodNamed B.named, fun w hw => atoms_spec (ws := WS yX4_callSound cX4_callSound 5 (some .int)) B.pre w (List.mem_cons_of_mem _ hw), B.notSynchronized, hSE⟩
  have hz : s.heap.size + 0 ≤ eB E + G.1 := Nat.le_of_eq hw0.2.1
  have hw : WD E G I X s.heap s.heap [] := ⟨hw0, va_S.rf⟩
  have hr := B.returns
  have hx := C0.1; have hb := C0.2.1; have hml := C0.2.2.1; have hown := C0.2.2.2.1; have hts := C0.2.2.2.2.1
  have hl := lv_entry ([.ref zx0, .int zx1, .int zx2]) (n := 5) (Nat.le_of_ble_eq_true rfl)
  rw [lg_entry_eq]
  generalize (lg_sl ([.ref zx0, .int zx1, .int zx2]) ++ List.replicate (5 - (lg_sl ([.ref zx0, .int zx1, .int zx2])).length) Slot.unset).toArray = ls at hl ⊢
  have hl : lv_has ls 5 [(0, .ref zx0), (1, .int zx1), (2, .int zx2)] := hl
  unfold m4_callSound at hf
  refine lv_aload_n hx hb dX4_callSound_0 rfl (lv_at hl 0 rfl) ?_
  refine lv_iload_n hx hb dX4_callSound_1 rfl (lv_at hl 1 rfl) ?_
  obtain ⟨zv1, ze2, hf⟩ := nn_some hf
  refine x_co (r := zv1) (I1 := I) (X1 := X) (x_runV (As := [.int zx1]) (rest := []) C0 (c4_reelAt l E G fl X I zx0 zx1 zt0 ze2) hw 4 zt0 (by decide) rfl wd22 wd214 wd215 wd216 wd202 ⟨rfl, rfl⟩ hy4_reelAt ⟨Nat.le_of_ble_eq_true rfl, Nat.le_of_ble_eq_true rfl⟩ rfl hl.1 (Nat.le_of_ble_eq_true rfl) ⟨Nat.zero_le _, Nat.zero_le _⟩ dX4_callSound_2) hw (fun H locs hw tzv1 => ?_)
  refine x_astore_n (lv' := [(3, va_rf zv1), (0, .ref zx0), (1, .int zx1), (2, .int zx2)]) C0 dX4_callSound_5 rfl hl (by decide) rfl (fun ls hl => ?_)
  refine x_aload_n C0 dX4_callSound_6 rfl (lv_at hl 0 rfl) ?_
  refine x_ifnonnull (tgt := 12) C0 dX4_callSound_7 (by decide) (fun zc3 => ?_) (fun zc3 => ?_)
  · have hf := ite_f hf zc3
    refine x_aload_n C0 dX4_callSound_12 rfl (lv_at hl 0 rfl) ?_
    obtain ⟨zb4, ezb4, hfzb4⟩ := nn_some hf
    have tzb4 : okA E G 5 zb4 := tzv1 _ ezb4
    subst ezb4
    have hf := hfzb4
    refine xg_5_3 C0 hw tzb4 wd259 dX4_callSound_13 ?_
    refine lv_bipush (v := (-6 : Int32)) hx hb dX4_callSound_16 (by decide) ?_
    refine lv_icmp_eq (tgt := 23) hx hb dX4_callSound_18 (by decide) (fun zc5 => ?_) (fun zc5 => ?_)
    · have hf := ite_t hf zc5
      refine lv_aload_n hx hb dX4_callSound_23 rfl (lv_at hl 0 rfl) ?_
      refine lv_iload_n hx hb dX4_callSound_24 rfl (lv_at hl 3 rfl) ?_
      obtain ⟨zv6, ze7, hf⟩ := nn_some hf
      refine x_co (r := zv6) (I1 := I) (X1 := X) (x_runV (As := [.int zx2]) (rest := []) C0 (c5_soundNumbered l E G fl X I zb4 zx2 tzb4 ze7) hw 5 tzb4 (by decide) rfl wd23 wd220 wd207 wd208 wd159 ⟨rfl, rfl⟩ hy5_soundNumbered ⟨Nat.le_of_ble_eq_true rfl, Nat.le_of_ble_eq_true rfl⟩ rfl hl.1 (Nat.le_of_ble_eq_true rfl) ⟨Nat.zero_le _, Nat.zero_le _⟩ dX4_callSound_25) hw (fun H locs hw tzv6 => ?_)
      refine x_astore (lv' := [(4, va_rf zv6), (3, .ref zb4), (0, .ref zx0), (1, .int zx1), (2, .int zx2)]) C0 dX4_callSound_28 hl (by decide) rfl (fun ls hl => ?_)
      refine x_aload C0 dX4_callSound_30 (lv_at hl 0 rfl) ?_
      refine x_ifnull (tgt := 47) C0 dX4_callSound_32 (by decide) (fun zc8 => ?_) (fun zc8 => ?_)
      · have hf := ite_t hf zc8
        exact w4_callSound_47 C0 hr hz fl I _ _ _ hw (lv_sub hl [] rfl) hf
      · have hf := ite_f hf zc8
        refine lv_aload_n hx hb dX4_callSound_35 rfl (lv_at hl 1 rfl) ?_
        refine xg_5_2 C0 hw tzb4 wd260 dX4_callSound_36 ?_
        refine x_aload C0 dX4_callSound_39 (lv_at hl 0 rfl) ?_
        obtain ⟨zb9, ezb9, hfzb9⟩ := nn_some hf
        have tzb9 : okA E G 7 zb9 := tzv6 _ ezb9
        subst ezb9
        have hf := hfzb9
        refine xg_7_2 C0 hw tzb9 wd261 dX4_callSound_41 ?_
        refine lv_icmp_eq (tgt := 49) hx hb dX4_callSound_44 (by decide) (fun zc10 => ?_) (fun zc10 => ?_)
        · have hf := ite_t hf zc10
          refine lv_aload_n hx hb dX4_callSound_49 rfl (lv_at hl 1 rfl) ?_
          refine lv_iload_n hx hb dX4_callSound_50 rfl (lv_at hl 4 rfl) ?_
          obtain ⟨zI11, ezI11⟩ : ∃ y : Im, y = pF I 83 zb4 zx2 := ⟨_, rfl⟩
          have hf := lt_at hf ezI11
          refine xp_5_3 C0 hz hw tzb4 rfl rfl wd259 dX4_callSound_51 ezI11 (fun H locs hw => ?_)
          refine lv_aload_n hx hb dX4_callSound_54 rfl (lv_at hl 1 rfl) ?_
          refine lv_aload hx hb dX4_callSound_55 (lv_at hl 0 rfl) ?_
          refine xg_7_0 C0 hw tzb9 wd262 dX4_callSound_57 ?_
          obtain ⟨zI12, ezI12⟩ : ∃ y : Im, y = pF zI11 84 zb4 (gF zI11 112 zb9) := ⟨_, rfl⟩
          have hf := lt_at hf ezI12
          refine xp_5_4 C0 hz hw tzb4 rfl rfl wd263 dX4_callSound_60 ezI12 (fun H locs hw => ?_)
          refine lv_aload hx hb dX4_callSound_63 (lv_at hl 0 rfl) ?_
          refine xg_7_3 C0 hw tzb9 wd264 dX4_callSound_65 ?_
          refine lv_if_ne (tgt := 115) hx hb dX4_callSound_68 (by decide) (fun zc13 => ?_) (fun zc13 => ?_)
          · have hf := ite_f hf zc13
            exact w4_callSound_115 C0 hr hz fl zI12 _ _ _ zb9 tzb9 hw (lv_sub hl [0] rfl) hf
          · have hf := ite_t hf zc13
            refine lv_aload_n hx hb dX4_callSound_71 rfl (lv_at hl 2 rfl) ?_
            refine xg_4_6 C0 hw zt0 wd189 dX4_callSound_72 ?_
            refine lv_if_lt (tgt := 115) hx hb dX4_callSound_75 (by decide) (fun zc14 => ?_) (fun zc14 => ?_)
            · have hf := ite_t hf zc14
              exact w4_callSound_115 C0 hr hz fl zI12 _ _ _ zb9 tzb9 hw (lv_sub hl [0] rfl) hf
            · have hf := ite_f hf zc14
              refine lv_aload_n hx hb dX4_callSound_78 rfl (lv_at hl 2 rfl) ?_
              refine xg_4_6 C0 hw zt0 wd189 dX4_callSound_79 ?_
              refine lv_aload_n hx hb dX4_callSound_82 rfl (lv_at hl 2 rfl) ?_
              obtain ⟨zv15, ezv15, hf⟩ := nn_some hf
              have tzv15 : okA E G 11 zv15 := wt_r hw ezv15
              refine xg_4_5 C0 hw zt0 wd156 ezv15 dX4_callSound_83 ?_
              refine x_alen C0 hw 11 tzv15 (by decide) rfl dX4_callSound_86 ?_
              refine lv_icmp_ge (tgt := 115) hx hb dX4_callSound_87 (by decide) (fun zc16 => ?_) (fun zc16 => ?_)
              · have hf := ite_t hf zc16
                exact w4_callSound_115 C0 hr hz fl zI12 _ _ _ zb9 tzb9 hw (lv_sub hl [0] rfl) hf
              · have hf := ite_f hf zc16
                refine lv_aload_n hx hb dX4_callSound_90 rfl (lv_at hl 2 rfl) ?_
                refine xg_4_5 C0 hw zt0 wd156 ezv15 dX4_callSound_91 ?_
                refine lv_aload_n hx hb dX4_callSound_94 rfl (lv_at hl 2 rfl) ?_
                refine xg_4_6 C0 hw zt0 wd189 dX4_callSound_95 ?_
                refine lv_iload_n hx hb dX4_callSound_98 rfl (lv_at hl 3 rfl) ?_
                refine lv_bipush (v := (6 : Int32)) hx hb dX4_callSound_99 (by decide) ?_
                refine lv_imul hx hb dX4_callSound_101 ?_
                refine lv_iload_n hx hb dX4_callSound_102 rfl (lv_at hl 4 rfl) ?_
                refine lv_iadd hx hb dX4_callSound_103 ?_
                obtain ⟨zhb17, hf⟩ := ck_some hf
                obtain ⟨zI18, ezI18⟩ : ∃ y : Im, y = pA zI12 zv15 ((gF zI12 70 zx0)).toNatClampNeg ((zx1 * (6 : Int32)) + zx2) := ⟨_, rfl⟩
                have hf := lt_at hf ezI18
                refine x_iast C0 hz hw tzv15 zhb17 dX4_callSound_104 ezI18 (fun H locs hw => ?_)
                refine lv_aload_n hx hb dX4_callSound_105 rfl (lv_at hl 2 rfl) ?_
                refine lv_dup hx hb dX4_callSound_106 rfl ?_
                refine xg_4_6 C0 hw zt0 wd189 dX4_callSound_107 ?_
                refine lv_iconst (v := (1 : Int32)) hx hb dX4_callSound_110 (by decide) ?_
                refine lv_iadd hx hb dX4_callSound_111 ?_
                obtain ⟨zI19, ezI19⟩ : ∃ y : Im, y = pF zI18 70 zx0 ((gF zI18 70 zx0) + (1 : Int32)) := ⟨_, rfl⟩
                have hf := lt_at hf ezI19
                refine xp_4_6 C0 hz hw zt0 rfl rfl wd189 dX4_callSound_112 ezI19 (fun H locs hw => ?_)
                exact w4_callSound_115 C0 hr hz fl zI19 _ _ _ zb9 tzb9 hw (lv_sub hl [0] rfl) hf
        · have hf := ite_f hf zc10
          exact w4_callSound_47 C0 hr hz fl I _ _ _ hw (lv_sub hl [] rfl) hf
    · have hf := ite_f hf zc5
      refine lv_iconst (v := (2 : Int32)) hx hb dX4_callSound_21 (by decide) ?_
      obtain rfl := Option.some.inj hf
      exact x_iret C0 hr hw dX4_callSound_22
  · have hf := ite_t hf zc3
    refine lv_iconst (v := (3 : Int32)) hx hb dX4_callSound_10 (by decide) ?_
    obtain rfl := Option.some.inj hf
    exact x_iret C0 hr hw dX4_callSound_11
noncomputable def m2_slam_56 (fl : Nat) (len : Nat → Nat) (X : Xm) (I : Im) : Option (Im) :=
  some (I)
set_option maxHeartbeats 4000000 in
set_option maxRecDepth 100000 in
theorem w2_slam_56 {p : Program} {l : Launch} {e : Env} {s : State} {m : MethodId} {args : Array Value} {below : List Frame} {meth : Method} {c : Code} {E : EN} {G : GM} {X : Xm} (C0 : CX p s m args meth c E cX2_slam RX2 4) (hr : meth.sig.returnType = none) (hz : s.heap.size + 0 ≤ eB E + G.1) {rr : Im} (fl : Nat) : ∀ (I : Im) (H : Heap) (locs : List Loc) (ls : Array Slot) , WD E G I X s.heap H locs → lv_has ls 4 [] → m2_slam_56 fl G.2.2 X I = some rr → W p l e ({ frames := 0, cells := 0, slots := 0, locals := 0 } : Room) s m args below meth c H locs 0 0 (MQ below (QV E G rr X) args s 0 0 (eA E)) (F0 m 56 ls []) := by
  intro I H locs ls hw hl hf
  unfold m2_slam_56 at hf
  have hx := C0.1; have hb := C0.2.1; have hml := C0.2.2.1; have hown := C0.2.2.2.1; have hts := C0.2.2.2.2.1
  obtain rfl := Option.some.inj hf
  exact x_vret C0 hr hw dX2_slam_56
noncomputable def m2_slam (fl : Nat) (len : Nat → Nat) (X : Xm) (I : Im) (zx0 : Nat) (zx1 : Int32) (zx2 : Int32) (zx3 : Int32) : Option (Im) :=
  if (gF I 35 zx0) < 0 then
    m2_slam_56 fl len X I
  else
    if (24 : Int32) ≤ (gF I 35 zx0) then
      m2_slam_56 fl len X I
    else
      nn (gR X 32 zx0) fun zv3 =>
      ck (inb (gF I 35 zx0) (len zv3) = true) <|
      lt (pA I zv3 ((gF I 35 zx0)).toNatClampNeg zx1) fun zI5 =>
      nn (gR X 33 zx0) fun zv6 =>
      ck (inb (gF zI5 35 zx0) (len zv6) = true) <|
      lt (pA zI5 zv6 ((gF zI5 35 zx0)).toNatClampNeg zx2) fun zI8 =>
      nn (gR X 34 zx0) fun zv9 =>
      ck (inb (gF zI8 35 zx0) (len zv9) = true) <|
      lt (pA zI8 zv9 ((gF zI8 35 zx0)).toNatClampNeg zx3) fun zI11 =>
      lt (pF zI11 35 zx0 ((gF zI11 35 zx0) + (1 : Int32))) fun zI12 =>
      m2_slam_56 fl len X zI12
theorem hy2_slam : yX2_slam.cls = RX2 ∧ yX2_slam.cls ≠ "java/lang/invoke/MethodHandle" ∧ yX2_slam.cls ≠ "java/lang/invoke/VarHandle" ∧ (parseMethodDescriptor yX2_slam.desc).map (fun d => d.parameters.length) = some 3 := ⟨rfl, by decide +kernel, by decide +kernel, by decide +kernel⟩
set_option maxHeartbeats 4000000 in
set_option maxRecDepth 100000 in
theorem c2_slam (l : Launch) (E : EN) (G : GM) (fl : Nat) (X : Xm) (I : Im) (zx0 : Nat) (zx1 : Int32) (zx2 : Int32) (zx3 : Int32) (zt0 : okA E G 2 zx0) {rr : Im} (hf : m2_slam fl G.2.2 X I zx0 zx1 zx2 zx3 = some rr) : MT l yX2_slam cX2_slam 4 none ({ frames := 0, cells := 0, slots := 0, locals := 0 } : Room) E G I X [.ref zx0, .int zx1, .int zx2, .int zx3] (QV E G rr X) 0 0 := by
  refine Met.ofW (cc := cX2_slam) (maxL := 4) (ret := none) (by decide +kernel) rfl ?_
  intro p e s m args below meth c s₁ B hml hv
  obtain ⟨rfl, hw0, hSE⟩ := hv
  have C0 : CX p s m ([.ref zx0, .int zx1, .int zx2, .int zx3] : List Value).toArray meth c E cX2_slam RX2 4 := ⟨B.exec, B.bytes, hml, findClass_of_methodNamed B.named, fun w hw => atoms_spec (ws := WS yX2_slam cX2_slam 4 none) B.pre w (List.mem_cons_of_mem _ hw), B.notSynchronized, hSE⟩
  have hz : s.heap.size + 0 ≤ eB E + G.1 := Nat.le_of_eq hw0.2.1
  have hw : WD E G I X s.heap s.heap [] := ⟨hw0, va_S.rf⟩
  have hr := B.returns
  have hx := C0.1; have hb := C0.2.1; have hml := C0.2.2.1; have hown := C0.2.2.2.1; have hts := C0.2.2.2.2.1
  have hl := lv_entry ([.ref zx0, .int zx1, .int zx2, .int zx3]) (n := 4) (Nat.le_of_ble_eq_true rfl)
  rw [lg_entry_eq]
  generalize (lg_sl ([.ref zx0, .int zx1, .int zx2, .int zx3]) ++ List.replicate (4 - (lg_sl ([.ref zx0, .int zx1, .int zx2, .int zx3])).length) Slot.unset).toArray = ls at hl ⊢
  have hl : lv_has ls 4 [(0, .ref zx0), (1, .int zx1), (2, .int zx2), (3, .int zx3)] := hl
  unfold m2_slam at hf
  refine lv_aload_n hx hb dX2_slam_0 rfl (lv_at hl 0 rfl) ?_
  refine xg_2_3 C0 hw zt0 wd119 dX2_slam_1 ?_
  refine lv_if_lt (tgt := 56) hx hb dX2_slam_4 (by decide) (fun zc1 => ?_) (fun zc1 => ?_)
  · have hf := ite_t hf zc1
    exact w2_slam_56 C0 hr hz fl I _ _ _ hw (lv_sub hl [] rfl) hf
  · have hf := ite_f hf zc1
    refine lv_aload_n hx hb dX2_slam_7 rfl (lv_at hl 0 rfl) ?_
    refine xg_2_3 C0 hw zt0 wd119 dX2_slam_8 ?_
    refine lv_bipush (v := (24 : Int32)) hx hb dX2_slam_11 (by decide) ?_
    refine lv_icmp_ge (tgt := 56) hx hb dX2_slam_13 (by decide) (fun zc2 => ?_) (fun zc2 => ?_)
    · have hf := ite_t hf zc2
      exact w2_slam_56 C0 hr hz fl I _ _ _ hw (lv_sub hl [] rfl) hf
    · have hf := ite_f hf zc2
      refine lv_aload_n hx hb dX2_slam_16 rfl (lv_at hl 0 rfl) ?_
      obtain ⟨zv3, ezv3, hf⟩ := nn_some hf
      have tzv3 : okA E G 11 zv3 := wt_r hw ezv3
      refine xg_2_0 C0 hw zt0 wd116 ezv3 dX2_slam_17 ?_
      refine lv_aload_n hx hb dX2_slam_20 rfl (lv_at hl 0 rfl) ?_
      refine xg_2_3 C0 hw zt0 wd119 dX2_slam_21 ?_
      refine lv_iload_n hx hb dX2_slam_24 rfl (lv_at hl 1 rfl) ?_
      obtain ⟨zhb4, hf⟩ := ck_some hf
      obtain ⟨zI5, ezI5⟩ : ∃ y : Im, y = pA I zv3 ((gF I 35 zx0)).toNatClampNeg zx1 := ⟨_, rfl⟩
      have hf := lt_at hf ezI5
      refine x_iast C0 hz hw tzv3 zhb4 dX2_slam_25 ezI5 (fun H locs hw => ?_)
      refine lv_aload_n hx hb dX2_slam_26 rfl (lv_at hl 0 rfl) ?_
      obtain ⟨zv6, ezv6, hf⟩ := nn_some hf
      have tzv6 : okA E G 11 zv6 := wt_r hw ezv6
      refine xg_2_1 C0 hw zt0 wd117 ezv6 dX2_slam_27 ?_
      refine lv_aload_n hx hb dX2_slam_30 rfl (lv_at hl 0 rfl) ?_
      refine xg_2_3 C0 hw zt0 wd119 dX2_slam_31 ?_
      refine lv_iload_n hx hb dX2_slam_34 rfl (lv_at hl 2 rfl) ?_
      obtain ⟨zhb7, hf⟩ := ck_some hf
      obtain ⟨zI8, ezI8⟩ : ∃ y : Im, y = pA zI5 zv6 ((gF zI5 35 zx0)).toNatClampNeg zx2 := ⟨_, rfl⟩
      have hf := lt_at hf ezI8
      refine x_iast C0 hz hw tzv6 zhb7 dX2_slam_35 ezI8 (fun H locs hw => ?_)
      refine lv_aload_n hx hb dX2_slam_36 rfl (lv_at hl 0 rfl) ?_
      obtain ⟨zv9, ezv9, hf⟩ := nn_some hf
      have tzv9 : okA E G 11 zv9 := wt_r hw ezv9
      refine xg_2_2 C0 hw zt0 wd118 ezv9 dX2_slam_37 ?_
      refine lv_aload_n hx hb dX2_slam_40 rfl (lv_at hl 0 rfl) ?_
      refine xg_2_3 C0 hw zt0 wd119 dX2_slam_41 ?_
      refine lv_iload_n hx hb dX2_slam_44 rfl (lv_at hl 3 rfl) ?_
      obtain ⟨zhb10, hf⟩ := ck_some hf
      obtain ⟨zI11, ezI11⟩ : ∃ y : Im, y = pA zI8 zv9 ((gF zI8 35 zx0)).toNatClampNeg zx3 := ⟨_, rfl⟩
      have hf := lt_at hf ezI11
      refine x_iast C0 hz hw tzv9 zhb10 dX2_slam_45 ezI11 (fun H locs hw => ?_)
      refine lv_aload_n hx hb dX2_slam_46 rfl (lv_at hl 0 rfl) ?_
      refine lv_dup hx hb dX2_slam_47 rfl ?_
      refine xg_2_3 C0 hw zt0 wd119 dX2_slam_48 ?_
      refine lv_iconst (v := (1 : Int32)) hx hb dX2_slam_51 (by decide) ?_
      refine lv_iadd hx hb dX2_slam_52 ?_
      obtain ⟨zI12, ezI12⟩ : ∃ y : Im, y = pF zI11 35 zx0 ((gF zI11 35 zx0) + (1 : Int32)) := ⟨_, rfl⟩
      have hf := lt_at hf ezI12
      refine xp_2_3 C0 hz hw zt0 rfl rfl wd119 dX2_slam_53 ezI12 (fun H locs hw => ?_)
      exact w2_slam_56 C0 hr hz fl zI12 _ _ _ hw (lv_sub hl [] rfl) hf
noncomputable def m4_channelAt_23 (fl : Nat) (len : Nat → Nat) (X : Xm) (I : Im) (zs0 : Option Nat) : Option (Option Nat) :=
  some (zs0)
set_option maxHeartbeats 4000000 in
set_option maxRecDepth 100000 in
theorem w4_channelAt_23 {p : Program} {l : Launch} {e : Env} {s : State} {m : MethodId} {args : Array Value} {below : List Frame} {meth : Method} {c : Code} {E : EN} {G : GM} {X : Xm} {I : Im} (C0 : CX p s m args meth c E cX4_channelAt RX4 2) (hr : meth.sig.returnType = (some (.object "RadioCues$Channel"))) (hz : s.heap.size + 0 ≤ eB E + G.1) {rr : Option Nat} (fl : Nat) : ∀ (H : Heap) (locs : List Loc) (ls : Array Slot) (zs0 : Option Nat) (zts0 : ∀ a, zs0 = some a → okA E G 0 a), WD E G I X s.heap H locs → lv_has ls 2 [] → m4_channelAt_23 fl G.2.2 X I zs0 = some rr → W p l e ({ frames := 0, cells := 0, slots := 0, locals := 0 } : Room) s m args below meth c H locs 0 0 (MQ below (QO E G 0 rr I X) args s 0 0 (eA E)) (F0 m 23 ls [va_rf zs0]) := by
  intro H locs ls zs0 zts0 hw hl hf
  unfold m4_channelAt_23 at hf
  have hx := C0.1; have hb := C0.2.1; have hml := C0.2.2.1; have hown := C0.2.2.2.1; have hts := C0.2.2.2.2.1
  obtain rfl := Option.some.inj hf
  exact x_oret (r := zs0) (k := 0) C0 hr zts0 hw dX4_channelAt_23
noncomputable def m4_channelAt_13 (fl : Nat) (len : Nat → Nat) (X : Xm) (I : Im) : Option (Option Nat) :=
  m4_channelAt_23 fl len X I none
set_option maxHeartbeats 4000000 in
set_option maxRecDepth 100000 in
theorem w4_channelAt_13 {p : Program} {l : Launch} {e : Env} {s : State} {m : MethodId} {args : Array Value} {below : List Frame} {meth : Method} {c : Code} {E : EN} {G : GM} {X : Xm} {I : Im} (C0 : CX p s m args meth c E cX4_channelAt RX4 2) (hr : meth.sig.returnType = (some (.object "RadioCues$Channel"))) (hz : s.heap.size + 0 ≤ eB E + G.1) {rr : Option Nat} (fl : Nat) : ∀ (H : Heap) (locs : List Loc) (ls : Array Slot) , WD E G I X s.heap H locs → lv_has ls 2 [] → m4_channelAt_13 fl G.2.2 X I = some rr → W p l e ({ frames := 0, cells := 0, slots := 0, locals := 0 } : Room) s m args below meth c H locs 0 0 (MQ below (QO E G 0 rr I X) args s 0 0 (eA E)) (F0 m 13 ls []) := by
  intro H locs ls hw hl hf
  unfold m4_channelAt_13 at hf
  have hx := C0.1; have hb := C0.2.1; have hml := C0.2.2.1; have hown := C0.2.2.2.1; have hts := C0.2.2.2.2.1
  refine lv_null hx hb dX4_channelAt_13 ?_
  refine lv_goto (tgt := 23) hx hb dX4_channelAt_14 (by decide) ?_
  exact w4_channelAt_23 C0 hr hz fl _ _ _ none (fun a h => by cases h) hw (lv_sub hl [] rfl) hf
noncomputable def m4_channelAt (fl : Nat) (len : Nat → Nat) (X : Xm) (I : Im) (zx0 : Nat) (zx1 : Int32) : Option (Option Nat) :=
  if zx1 < 0 then
    m4_channelAt_13 fl len X I 
  else
    nn (gR X 67 zx0) fun zv2 =>
    if zx1 < (nI (len zv2)) then
      ck (inb zx1 (len zv2) = true) <|
      nn (gQ X zv2 (zx1).toNatClampNeg) fun zv5 =>
      m4_channelAt_23 fl len X I (some zv5)
    else
      m4_channelAt_13 fl len X I 
theorem hy4_channelAt : yX4_channelAt.cls = RX4 ∧ yX4_channelAt.cls ≠ "java/lang/invoke/MethodHandle" ∧ yX4_channelAt.cls ≠ "java/lang/invoke/VarHandle" ∧ (parseMethodDescriptor yX4_channelAt.desc).map (fun d => d.parameters.length) = some 1 := ⟨rfl, by decide +kernel, by decide +kernel, by decide +kernel⟩
set_option maxHeartbeats 4000000 in
set_option maxRecDepth 100000 in
theorem c4_channelAt (l : Launch) (E : EN) (G : GM) (fl : Nat) (X : Xm) (I : Im) (zx0 : Nat) (zx1 : Int32) (zt0 : okA E G 4 zx0) {rr : Option Nat} (hf : m4_channelAt fl G.2.2 X I zx0 zx1 = some rr) : MT l yX4_channelAt cX4_channelAt 2 (some (.object "RadioCues$Channel")) ({ frames := 0, cells := 0, slots := 0, locals := 0 } : Room) E G I X [.ref zx0, .int zx1] (QO E G 0 rr I X) 0 0 := by
  refine Met.ofW (cc := cX4_channelAt) (maxL := 2) (ret := (some (.object "RadioCues$Channel"))) (by decide +kernel) rfl ?_
  intro p e s m args below meth c s₁ B hml hv
  obtain ⟨rfl, hw0, hSE⟩ := hv
  have C0 : CX p s m ([.ref zx0, .int zx1] : List Value).toArray meth c E cX4_channelAt RX4 2 := ⟨B.exec, B.bytes, hml, findClass_of_methodNamed B.named, fun w hw => atoms_spec (ws := WS yX4_channelAt cX4_channelAt 2 (some (.object "RadioCues$Channel"))) B.pre w (List.mem_cons_of_mem _ hw), B.notSynchronized, hSE⟩
  have hz : s.heap.size + 0 ≤ eB E + G.1 := Nat.le_of_eq hw0.2.1
  have hw : WD E G I X s.heap s.heap [] := ⟨hw0, va_S.rf⟩
  have hr := B.returns
  have hx := C0.1; have hb := C0.2.1; have hml := C0.2.2.1; have hown := C0.2.2.2.1; have hts := C0.2.2.2.2.1
  have hl := lv_entry ([.ref zx0, .int zx1]) (n := 2) (Nat.le_of_ble_eq_true rfl)
  rw [lg_entry_eq]
  generalize (lg_sl ([.ref zx0, .int zx1]) ++ List.replicate (2 - (lg_sl ([.ref zx0, .int zx1])).length) Slot.unset).toArray = ls at hl ⊢
  have hl : lv_has ls 2 [(0, .ref zx0), (1, .int zx1)] := hl
  unfold m4_channelAt at hf
  refine lv_iload_n hx hb dX4_channelAt_0 rfl (lv_at hl 1 rfl) ?_
  refine lv_if_lt (tgt := 13) hx hb dX4_channelAt_1 (by decide) (fun zc1 => ?_) (fun zc1 => ?_)
  · have hf := ite_t hf zc1
    exact w4_channelAt_13 C0 hr hz fl _ _ _ hw (lv_sub hl [] rfl) hf
  · have hf := ite_f hf zc1
    refine lv_iload_n hx hb dX4_channelAt_4 rfl (lv_at hl 1 rfl) ?_
    refine lv_aload_n hx hb dX4_channelAt_5 rfl (lv_at hl 0 rfl) ?_
    obtain ⟨zv2, ezv2, hf⟩ := nn_some hf
    have tzv2 : okA E G 13 zv2 := wt_r hw ezv2
    refine xg_4_3 C0 hw zt0 wd151 ezv2 dX4_channelAt_6 ?_
    refine x_alen C0 hw 13 tzv2 (by decide) rfl dX4_channelAt_9 ?_
    refine lv_icmp_lt (tgt := 17) hx hb dX4_channelAt_10 (by decide) (fun zc3 => ?_) (fun zc3 => ?_)
    · have hf := ite_t hf zc3
      refine lv_aload_n hx hb dX4_channelAt_17 rfl (lv_at hl 0 rfl) ?_
      refine xg_4_3 C0 hw zt0 wd151 ezv2 dX4_channelAt_18 ?_
      refine lv_iload_n hx hb dX4_channelAt_21 rfl (lv_at hl 1 rfl) ?_
      obtain ⟨zhb4, hf⟩ := ck_some hf
      obtain ⟨zv5, ezv5, hf⟩ := nn_some hf
      have tzv5 : okA E G 0 zv5 := wt_q hw tzv2 ezv5
      refine x_qald C0 hw 13 tzv2 (by decide) rfl zhb4 ezv5 dX4_channelAt_22 ?_
      exact w4_channelAt_23 C0 hr hz fl _ _ _ (some zv5) (fun a h => by cases h; exact tzv5) hw (lv_sub hl [] rfl) hf
    · have hf := ite_f hf zc3
      exact w4_channelAt_13 C0 hr hz fl _ _ _ hw (lv_sub hl [] rfl) hf
noncomputable def m8_within_15 (fl : Nat) (len : Nat → Nat) (X : Xm) (I : Im) (zs0 : Int32) : Option (Int32) :=
  ck (isbl zs0 = true) <|
  some (zs0)
set_option maxHeartbeats 4000000 in
set_option maxRecDepth 100000 in
theorem w8_within_15 {p : Program} {l : Launch} {e : Env} {s : State} {m : MethodId} {args : Array Value} {below : List Frame} {meth : Method} {c : Code} {E : EN} {G : GM} {X : Xm} {I : Im} (C0 : CX p s m args meth c E cX8_within RX8 3) (hr : meth.sig.returnType = (some .boolean)) (hz : s.heap.size + 0 ≤ eB E + G.1) {rr : Int32} (fl : Nat) : ∀ (H : Heap) (locs : List Loc) (ls : Array Slot) (zs0 : Int32) , WD E G I X s.heap H locs → lv_has ls 3 [] → m8_within_15 fl G.2.2 X I zs0 = some rr → W p l e ({ frames := 0, cells := 0, slots := 0, locals := 0 } : Room) s m args below meth c H locs 0 0 (MQ below (QI E G rr I X) args s 0 0 (eA E)) (F0 m 15 ls [.int zs0]) := by
  intro H locs ls zs0 hw hl hf
  unfold m8_within_15 at hf
  have hx := C0.1; have hb := C0.2.1; have hml := C0.2.2.1; have hown := C0.2.2.2.1; have hts := C0.2.2.2.2.1
  obtain ⟨zhn1, hf⟩ := ck_some hf
  obtain rfl := Option.some.inj hf
  exact x_zret C0 hr (isbl_nar zhn1) hw dX8_within_15
noncomputable def m8_within_14 (fl : Nat) (len : Nat → Nat) (X : Xm) (I : Im) : Option (Int32) :=
  m8_within_15 fl len X I (0 : Int32)
set_option maxHeartbeats 4000000 in
set_option maxRecDepth 100000 in
theorem w8_within_14 {p : Program} {l : Launch} {e : Env} {s : State} {m : MethodId} {args : Array Value} {below : List Frame} {meth : Method} {c : Code} {E : EN} {G : GM} {X : Xm} {I : Im} (C0 : CX p s m args meth c E cX8_within RX8 3) (hr : meth.sig.returnType = (some .boolean)) (hz : s.heap.size + 0 ≤ eB E + G.1) {rr : Int32} (fl : Nat) : ∀ (H : Heap) (locs : List Loc) (ls : Array Slot) , WD E G I X s.heap H locs → lv_has ls 3 [] → m8_within_14 fl G.2.2 X I = some rr → W p l e ({ frames := 0, cells := 0, slots := 0, locals := 0 } : Room) s m args below meth c H locs 0 0 (MQ below (QI E G rr I X) args s 0 0 (eA E)) (F0 m 14 ls []) := by
  intro H locs ls hw hl hf
  unfold m8_within_14 at hf
  have hx := C0.1; have hb := C0.2.1; have hml := C0.2.2.1; have hown := C0.2.2.2.1; have hts := C0.2.2.2.2.1
  refine lv_iconst (v := (0 : Int32)) hx hb dX8_within_14 (by decide) ?_
  exact w8_within_15 C0 hr hz fl _ _ _ (0 : Int32) hw (lv_sub hl [] rfl) hf
noncomputable def m8_within (fl : Nat) (len : Nat → Nat) (X : Xm) (I : Im) (zx0 : Int32) (zx1 : Int32) (zx2 : Int32) : Option (Int32) :=
  if zx0 < zx1 then
    m8_within_14 fl len X I 
  else
    if zx2 < zx0 then
      m8_within_14 fl len X I 
    else
      m8_within_15 fl len X I (1 : Int32)
theorem hy8_within : yX8_within.cls = RX8 ∧ yX8_within.cls ≠ "java/lang/invoke/MethodHandle" ∧ yX8_within.cls ≠ "java/lang/invoke/VarHandle" ∧ (parseMethodDescriptor yX8_within.desc).map (fun d => d.parameters.length) = some 3 := ⟨rfl, by decide +kernel, by decide +kernel, by decide +kernel⟩
set_option maxHeartbeats 4000000 in
set_option maxRecDepth 100000 in
theorem c8_within (l : Launch) (E : EN) (G : GM) (fl : Nat) (X : Xm) (I : Im) (zx0 : Int32) (zx1 : Int32) (zx2 : Int32) {rr : Int32} (hf : m8_within fl G.2.2 X I zx0 zx1 zx2 = some rr) : MT l yX8_within cX8_within 3 (some .boolean) ({ frames := 0, cells := 0, slots := 0, locals := 0 } : Room) E G I X [.int zx0, .int zx1, .int zx2] (QI E G rr I X) 0 0 := by
  refine Met.ofW (cc := cX8_within) (maxL := 3) (ret := (some .boolean)) (by decide +kernel) rfl ?_
  intro p e s m args below meth c s₁ B hml hv
  obtain ⟨rfl, hw0, hSE⟩ := hv
  have C0 : CX p s m ([.int zx0, .int zx1, .int zx2] : List Value).toArray meth c E cX8_within RX8 3 := ⟨B.exec, B.bytes, hml, findClass_of_methodNamed B.named, fun w hw => atoms_spec (ws := WS yX8_within cX8_within 3 (some .boolean)) B.pre w (List.mem_cons_of_mem _ hw), B.notSynchronized, hSE⟩
  have hz : s.heap.size + 0 ≤ eB E + G.1 := Nat.le_of_eq hw0.2.1
  have hw : WD E G I X s.heap s.heap [] := ⟨hw0, va_S.rf⟩
  have hr := B.returns
  have hx := C0.1; have hb := C0.2.1; have hml := C0.2.2.1; have hown := C0.2.2.2.1; have hts := C0.2.2.2.2.1
  have hl := lv_entry ([.int zx0, .int zx1, .int zx2]) (n := 3) (Nat.le_of_ble_eq_true rfl)
  rw [lg_entry_eq]
  generalize (lg_sl ([.int zx0, .int zx1, .int zx2]) ++ List.replicate (3 - (lg_sl ([.int zx0, .int zx1, .int zx2])).length) Slot.unset).toArray = ls at hl ⊢
  have hl : lv_has ls 3 [(0, .int zx0), (1, .int zx1), (2, .int zx2)] := hl
  unfold m8_within at hf
  refine lv_iload_n hx hb dX8_within_0 rfl (lv_at hl 0 rfl) ?_
  refine lv_iload_n hx hb dX8_within_1 rfl (lv_at hl 1 rfl) ?_
  refine lv_icmp_lt (tgt := 14) hx hb dX8_within_2 (by decide) (fun zc1 => ?_) (fun zc1 => ?_)
  · have hf := ite_t hf zc1
    exact w8_within_14 C0 hr hz fl _ _ _ hw (lv_sub hl [] rfl) hf
  · have hf := ite_f hf zc1
    refine lv_iload_n hx hb dX8_within_5 rfl (lv_at hl 0 rfl) ?_
    refine lv_iload_n hx hb dX8_within_6 rfl (lv_at hl 2 rfl) ?_
    refine lv_icmp_gt (tgt := 14) hx hb dX8_within_7 (by decide) (fun zc2 => ?_) (fun zc2 => ?_)
    · have hf := ite_t hf zc2
      exact w8_within_14 C0 hr hz fl _ _ _ hw (lv_sub hl [] rfl) hf
    · have hf := ite_f hf zc2
      refine lv_iconst (v := (1 : Int32)) hx hb dX8_within_10 (by decide) ?_
      refine lv_goto (tgt := 15) hx hb dX8_within_11 (by decide) ?_
      exact w8_within_15 C0 hr hz fl _ _ _ (1 : Int32) hw (lv_sub hl [] rfl) hf
noncomputable def m4_putGoal (fl : Nat) (len : Nat → Nat) (X : Xm) (I : Im) (zx0 : Nat) (zx1 : Int32) (zx2 : Int32) : Option (Int32 × Im) :=
  nn (m4_channelAt fl len X I zx0 zx1) fun zv1 =>
  if zv1 = none then
    some ((-1 : Int32), I)
  else
    nn (m8_within fl len X I zx2 (0 : Int32) (100 : Int32)) fun zv4 =>
    if zv4 = 0 then
      some ((-2 : Int32), I)
    else
      nn zv1 fun zb7 =>
      lt ((gF I 1 zb7)) fun zv8 =>
      lt (pF I 1 zb7 zx2) fun zI9 =>
      some (zv8, zI9)
theorem hy4_putGoal : yX4_putGoal.cls = RX4 ∧ yX4_putGoal.cls ≠ "java/lang/invoke/MethodHandle" ∧ yX4_putGoal.cls ≠ "java/lang/invoke/VarHandle" ∧ (parseMethodDescriptor yX4_putGoal.desc).map (fun d => d.parameters.length) = some 2 := ⟨rfl, by decide +kernel, by decide +kernel, by decide +kernel⟩
set_option maxHeartbeats 4000000 in
set_option maxRecDepth 100000 in
theorem c4_putGoal (l : Launch) (E : EN) (G : GM) (fl : Nat) (X : Xm) (I : Im) (zx0 : Nat) (zx1 : Int32) (zx2 : Int32) (zt0 : okA E G 4 zx0) {rr : Int32 × Im} (hf : m4_putGoal fl G.2.2 X I zx0 zx1 zx2 = some rr) : MT l yX4_putGoal cX4_putGoal 5 (some .int) ({ frames := 1, cells := 0, slots := 0, locals := 22 } : Room) E G I X [.ref zx0, .int zx1, .int zx2] (QI E G rr.1 rr.2 X) 0 0 := by
  refine Met.ofW (cc := cX4_putGoal) (maxL := 5) (ret := (some .int)) (by decide +kernel) rfl ?_
  intro p e s m args below meth c s₁ B hml hv
  obtain ⟨rfl, hw0, hSE⟩ := hv
  have C0 : CX p s m ([.ref zx0, .int zx1, .int zx2] : List Value).toArray meth c E cX4_putGoal RX4 5 := ⟨B.exec, B.bytes, hml, findClass_of_methodNamed B.named, fun w hw => atoms_spec (ws := WS yX4_putGoal cX4_putGoal 5 (some .int)) B.pre w (List.mem_cons_of_mem _ hw), B.notSynchronized, hSE⟩
  have hz : s.heap.size + 0 ≤ eB E + G.1 := Nat.le_of_eq hw0.2.1
  have hw : WD E G I X s.heap s.heap [] := ⟨hw0, va_S.rf⟩
  have hr := B.returns
  have hx := C0.1; have hb := C0.2.1; have hml := C0.2.2.1; have hown := C0.2.2.2.1; have hts := C0.2.2.2.2.1
  have hl := lv_entry ([.ref zx0, .int zx1, .int zx2]) (n := 5) (Nat.le_of_ble_eq_true rfl)
  rw [lg_entry_eq]
  generalize (lg_sl ([.ref zx0, .int zx1, .int zx2]) ++ List.replicate (5 - (lg_sl ([.ref zx0, .int zx1, .int zx2])).length) Slot.unset).toArray = ls at hl ⊢
  have hl : lv_has ls 5 [(0, .ref zx0), (1, .int zx1), (2, .int zx2)] := hl
  unfold m4_putGoal at hf
  refine lv_aload_n hx hb dX4_putGoal_0 rfl (lv_at hl 0 rfl) ?_
  refine lv_iload_n hx hb dX4_putGoal_1 rfl (lv_at hl 1 rfl) ?_
  obtain ⟨zv1, ze2, hf⟩ := nn_some hf
  refine x_co (r := zv1) (I1 := I) (X1 := X) (x_runV (As := [.int zx1]) (rest := []) C0 (c4_channelAt l E G fl X I zx0 zx1 zt0 ze2) hw 4 zt0 (by decide) rfl wd34 wd246 wd247 wd248 wd202 ⟨rfl, rfl⟩ hy4_channelAt ⟨Nat.le_of_ble_eq_true rfl, Nat.le_of_ble_eq_true rfl⟩ rfl hl.1 (Nat.le_of_ble_eq_true rfl) ⟨Nat.zero_le _, Nat.zero_le _⟩ dX4_putGoal_2) hw (fun H locs hw tzv1 => ?_)
  refine x_astore_n (lv' := [(3, va_rf zv1), (0, .ref zx0), (1, .int zx1), (2, .int zx2)]) C0 dX4_putGoal_5 rfl hl (by decide) rfl (fun ls hl => ?_)
  refine x_aload_n C0 dX4_putGoal_6 rfl (lv_at hl 0 rfl) ?_
  refine x_ifnonnull (tgt := 12) C0 dX4_putGoal_7 (by decide) (fun zc3 => ?_) (fun zc3 => ?_)
  · have hf := ite_f hf zc3
    refine lv_iload_n hx hb dX4_putGoal_12 rfl (lv_at hl 3 rfl) ?_
    refine lv_iconst (v := (0 : Int32)) hx hb dX4_putGoal_13 (by decide) ?_
    refine lv_bipush (v := (100 : Int32)) hx hb dX4_putGoal_14 (by decide) ?_
    obtain ⟨zv4, ze5, hf⟩ := nn_some hf
    refine x_ci (r := zv4) (I1 := I) (X1 := X) (x_runSN (As := [.int zx2, .int (0 : Int32), .int (100 : Int32)]) (rest := []) (host := "RadioCues") C0 (c8_within l E G fl X I zx2 (0 : Int32) (100 : Int32) ze5) hw wd20 (List.mem_of_getElem? (i := 5) rfl) wd203 wd107 ⟨rfl, rfl⟩ hy8_within.2 ⟨Nat.le_of_ble_eq_true rfl, Nat.le_of_ble_eq_true rfl⟩ rfl hl.1 (Nat.le_of_ble_eq_true rfl) ⟨Nat.zero_le _, Nat.zero_le _⟩ dX4_putGoal_16) hw (fun H locs hw => ?_)
    refine lv_if_ne (tgt := 25) hx hb dX4_putGoal_19 (by decide) (fun zc6 => ?_) (fun zc6 => ?_)
    · have hf := ite_f hf zc6
      refine x_aload_n C0 dX4_putGoal_25 rfl (lv_at hl 0 rfl) ?_
      obtain ⟨zb7, ezb7, hfzb7⟩ := nn_some hf
      have tzb7 : okA E G 0 zb7 := tzv1 _ ezb7
      subst ezb7
      have hf := hfzb7
      refine xg_0_1 C0 hw tzb7 wd188 dX4_putGoal_26 ?_
      refine lv_topi (fun zv8 ezv8 => ?_)
      have hf := lt_at hf ezv8
      refine lv_istore (lv' := [(4, .int zv8), (3, .ref zb7), (0, .ref zx0), (1, .int zx1), (2, .int zx2)]) hx hb dX4_putGoal_29 hl (by decide) rfl (fun ls hl => ?_)
      refine lv_aload_n hx hb dX4_putGoal_31 rfl (lv_at hl 1 rfl) ?_
      refine lv_iload_n hx hb dX4_putGoal_32 rfl (lv_at hl 4 rfl) ?_
      obtain ⟨zI9, ezI9⟩ : ∃ y : Im, y = pF I 1 zb7 zx2 := ⟨_, rfl⟩
      have hf := lt_at hf ezI9
      refine xp_0_1 C0 hz hw tzb7 rfl rfl wd188 dX4_putGoal_33 ezI9 (fun H locs hw => ?_)
      refine lv_iload hx hb dX4_putGoal_36 (lv_at hl 0 rfl) ?_
      obtain rfl := Option.some.inj hf
      exact x_iret C0 hr hw dX4_putGoal_38
    · have hf := ite_t hf zc6
      refine lv_bipush (v := (-2 : Int32)) hx hb dX4_putGoal_22 (by decide) ?_
      obtain rfl := Option.some.inj hf
      exact x_iret C0 hr hw dX4_putGoal_24
  · have hf := ite_t hf zc3
    refine lv_iconst (v := (-1 : Int32)) hx hb dX4_putGoal_10 (by decide) ?_
    obtain rfl := Option.some.inj hf
    exact x_iret C0 hr hw dX4_putGoal_11
noncomputable def m4_letCuesCome_130 (fl : Nat) (len : Nat → Nat) (X : Xm) (zr8 : Im → Nat → Int32 → Nat → Option (Im)) (I : Im) (zx0 : Nat) (zx1 : Int32) (p_65 : Nat) : Option (Im) :=
  lt (zx1 + 1) fun zv1 =>
  zr8 I zx0 zv1 p_65
set_option maxHeartbeats 4000000 in
set_option maxRecDepth 100000 in
theorem w4_letCuesCome_130 {p : Program} {l : Launch} {e : Env} {s : State} {m : MethodId} {args : Array Value} {below : List Frame} {meth : Method} {c : Code} {E : EN} {G : GM} {X : Xm} (C0 : CX p s m args meth c E cX4_letCuesCome RX4 3) (hr : meth.sig.returnType = none) (hz : s.heap.size + 0 ≤ eB E + G.1) {rr : Im} (fl : Nat) (zr8 : Im → Nat → Int32 → Nat → Option (Im)) (zhr8 : ∀ (I : Im) (H : Heap) (locs : List Loc) (ls : Array Slot) (zx0 : Nat) (zx1 : Int32) (p_65 : Nat) (zt0 : okA E G 4 zx0) (ep_65 : gR X 65 zx0 = some p_65) (tp_65 : okA E G 6 p_65), WD E G I X s.heap H locs → lv_has ls 3 [(0, .ref zx0), (1, .int zx1)] → zr8 I zx0 zx1 p_65 = some rr → W p l e ({ frames := 2, cells := 0, slots := 0, locals := 46 } : Room) s m args below meth c H locs 0 0 (MQ below (QV E G rr X) args s 0 0 (eA E)) (F0 m 8 ls [])) : ∀ (I : Im) (H : Heap) (locs : List Loc) (ls : Array Slot) (zx0 : Nat) (zx1 : Int32) (p_65 : Nat) (zt0 : okA E G 4 zx0) (ep_65 : gR X 65 zx0 = some p_65) (tp_65 : okA E G 6 p_65), WD E G I X s.heap H locs → lv_has ls 3 [(0, .ref zx0), (1, .int zx1)] → m4_letCuesCome_130 fl G.2.2 X zr8 I zx0 zx1 p_65 = some rr → W p l e ({ frames := 2, cells := 0, slots := 0, locals := 46 } : Room) s m args below meth c H locs 0 0 (MQ below (QV E G rr X) args s 0 0 (eA E)) (F0 m 130 ls []) := by
  intro I H locs ls zx0 zx1 p_65 zt0 ep_65 tp_65 hw hl hf
  unfold m4_letCuesCome_130 at hf
  have hx := C0.1; have hb := C0.2.1; have hml := C0.2.2.1; have hown := C0.2.2.2.1; have hts := C0.2.2.2.2.1
  obtain ⟨zv1, ezv1⟩ : ∃ y : Int32, y = zx1 + 1 := ⟨_, rfl⟩
  have hf := lt_at hf ezv1
  refine lv_iinc (v := zv1) (lv' := [(1, .int zv1), (0, .ref zx0)]) hx hb dX4_letCuesCome_130 hl (k := 1) rfl (by rw [ezv1]; rfl) (by decide) rfl (fun ls hl => ?_)
  refine lv_goto (tgt := 8) hx hb dX4_letCuesCome_133 (by decide) ?_
  exact zhr8 I _ _ _ zx0 zv1 p_65 zt0 ep_65 tp_65 hw (lv_sub hl [1, 0] rfl) hf
noncomputable def m4_letCuesCome_43 (fl : Nat) (len : Nat → Nat) (X : Xm) (I : Im) : Option (Im) :=
  some (I)
set_option maxHeartbeats 4000000 in
set_option maxRecDepth 100000 in
theorem w4_letCuesCome_43 {p : Program} {l : Launch} {e : Env} {s : State} {m : MethodId} {args : Array Value} {below : List Frame} {meth : Method} {c : Code} {E : EN} {G : GM} {X : Xm} (C0 : CX p s m args meth c E cX4_letCuesCome RX4 3) (hr : meth.sig.returnType = none) (hz : s.heap.size + 0 ≤ eB E + G.1) {rr : Im} (fl : Nat) : ∀ (I : Im) (H : Heap) (locs : List Loc) (ls : Array Slot) , WD E G I X s.heap H locs → lv_has ls 3 [] → m4_letCuesCome_43 fl G.2.2 X I = some rr → W p l e ({ frames := 2, cells := 0, slots := 0, locals := 46 } : Room) s m args below meth c H locs 0 0 (MQ below (QV E G rr X) args s 0 0 (eA E)) (F0 m 43 ls []) := by
  intro I H locs ls hw hl hf
  unfold m4_letCuesCome_43 at hf
  have hx := C0.1; have hb := C0.2.1; have hml := C0.2.2.1; have hown := C0.2.2.2.1; have hts := C0.2.2.2.2.1
  obtain rfl := Option.some.inj hf
  exact x_vret C0 hr hw dX4_letCuesCome_43
noncomputable def m4_letCuesCome_8b (fl : Nat) (len : Nat → Nat) (X : Xm) (zr8 : Im → Nat → Int32 → Nat → Option (Im)) (I : Im) (zx0 : Nat) (zx1 : Int32) (p_65 : Nat) : Option (Im) :=
  if (gF I 97 p_65) ≤ zx1 then
    some (I)
  else
    nn (m6_cueAt fl len X I p_65 zx1) fun zv2 =>
    if zv2 = none then
      m4_letCuesCome_43 fl len X I
    else
      nn zv2 fun zb5 =>
      if (gF I 16 zb5) ≤ (gF I 72 zx0) then
        lt (pF I 98 p_65 (zx1 + (1 : Int32))) fun zI7 =>
        lt (pF zI7 20 zb5 (1 : Int32)) fun zI8 =>
        if (gF zI8 17 zb5) = 0 then
          nn (m4_callSound fl len X zI8 zx0 (gF zI8 18 zb5) (gF zI8 19 zb5)) fun ⟨zv19, zI20⟩ =>
          lt (pF zI20 20 zb5 zv19) fun zI22 =>
          m4_letCuesCome_130 fl len X zr8 zI22 zx0 zx1 p_65
        else
          if (gF zI8 17 zb5) = (1 : Int32) then
            nn (gR X 68 zx0) fun zv14 =>
            nn (gR X 64 zx0) fun zv15 =>
            ck (inb (1 : Int32) (len zv15) = true) <|
            nn (m2_slam fl len X zI8 zv14 (gF zI8 18 zb5) (gF zI8 19 zb5) (gA zI8 zv15 ((1 : Int32)).toNatClampNeg)) fun zI17 =>
            m4_letCuesCome_130 fl len X zr8 zI17 zx0 zx1 p_65
          else
            nn (m4_putGoal fl len X zI8 zx0 (gF zI8 18 zb5) (gF zI8 19 zb5)) fun ⟨zv11, zI12⟩ =>
            m4_letCuesCome_130 fl len X zr8 zI12 zx0 zx1 p_65
      else
        m4_letCuesCome_43 fl len X I
noncomputable def m4_letCuesCome_8 (fl : Nat) (len : Nat → Nat) (X : Xm) (n : Nat) : Im → Nat → Int32 → Nat → Option (Im) :=
  Nat.rec (fun _ _ _ _ => none) (fun _ r => m4_letCuesCome_8b fl len X r) n
set_option maxHeartbeats 4000000 in
set_option maxRecDepth 100000 in
theorem w4_letCuesCome_8b {p : Program} {l : Launch} {e : Env} {s : State} {m : MethodId} {args : Array Value} {below : List Frame} {meth : Method} {c : Code} {E : EN} {G : GM} {X : Xm} (C0 : CX p s m args meth c E cX4_letCuesCome RX4 3) (hr : meth.sig.returnType = none) (hz : s.heap.size + 0 ≤ eB E + G.1) {rr : Im} (fl : Nat) (zr8 : Im → Nat → Int32 → Nat → Option (Im)) (zhr8 : ∀ (I : Im) (H : Heap) (locs : List Loc) (ls : Array Slot) (zx0 : Nat) (zx1 : Int32) (p_65 : Nat) (zt0 : okA E G 4 zx0) (ep_65 : gR X 65 zx0 = some p_65) (tp_65 : okA E G 6 p_65), WD E G I X s.heap H locs → lv_has ls 3 [(0, .ref zx0), (1, .int zx1)] → zr8 I zx0 zx1 p_65 = some rr → W p l e ({ frames := 2, cells := 0, slots := 0, locals := 46 } : Room) s m args below meth c H locs 0 0 (MQ below (QV E G rr X) args s 0 0 (eA E)) (F0 m 8 ls [])) : ∀ (I : Im) (H : Heap) (locs : List Loc) (ls : Array Slot) (zx0 : Nat) (zx1 : Int32) (p_65 : Nat) (zt0 : okA E G 4 zx0) (ep_65 : gR X 65 zx0 = some p_65) (tp_65 : okA E G 6 p_65), WD E G I X s.heap H locs → lv_has ls 3 [(0, .ref zx0), (1, .int zx1)] → m4_letCuesCome_8b fl G.2.2 X zr8 I zx0 zx1 p_65 = some rr → W p l e ({ frames := 2, cells := 0, slots := 0, locals := 46 } : Room) s m args below meth c H locs 0 0 (MQ below (QV E G rr X) args s 0 0 (eA E)) (F0 m 8 ls []) := by
  intro I H locs ls zx0 zx1 p_65 zt0 ep_65 tp_65 hw hl hf
  unfold m4_letCuesCome_8b at hf
  have hx := C0.1; have hb := C0.2.1; have hml := C0.2.2.1; have hown := C0.2.2.2.1; have hts := C0.2.2.2.2.1
  refine lv_iload_n hx hb dX4_letCuesCome_8 rfl (lv_at hl 1 rfl) ?_
  refine lv_aload_n hx hb dX4_letCuesCome_9 rfl (lv_at hl 0 rfl) ?_
  refine xg_4_1 C0 hw zt0 wd147 ep_65 dX4_letCuesCome_10 ?_
  refine xg_6_1 C0 hw tp_65 wd266 dX4_letCuesCome_13 ?_
  refine lv_icmp_ge (tgt := 136) hx hb dX4_letCuesCome_16 (by decide) (fun zc1 => ?_) (fun zc1 => ?_)
  · have hf := ite_t hf zc1
    obtain rfl := Option.some.inj hf
    exact x_vret C0 hr hw dX4_letCuesCome_136
  · have hf := ite_f hf zc1
    refine lv_aload_n hx hb dX4_letCuesCome_19 rfl (lv_at hl 0 rfl) ?_
    refine xg_4_1 C0 hw zt0 wd147 ep_65 dX4_letCuesCome_20 ?_
    refine lv_iload_n hx hb dX4_letCuesCome_23 rfl (lv_at hl 1 rfl) ?_
    obtain ⟨zv2, ze3, hf⟩ := nn_some hf
    refine x_co (r := zv2) (I1 := I) (X1 := X) (x_runV (As := [.int zx1]) (rest := []) C0 (c6_cueAt l E G fl X I p_65 zx1 tp_65 ze3) hw 6 tp_65 (by decide) rfl wd28 wd241 wd223 wd224 wd146 ⟨rfl, rfl⟩ hy6_cueAt ⟨Nat.le_of_ble_eq_true rfl, Nat.le_of_ble_eq_true rfl⟩ rfl hl.1 (Nat.le_of_ble_eq_true rfl) ⟨Nat.zero_le _, Nat.zero_le _⟩ dX4_letCuesCome_24) hw (fun H locs hw tzv2 => ?_)
    refine x_astore_n (lv' := [(2, va_rf zv2), (0, .ref zx0), (1, .int zx1)]) C0 dX4_letCuesCome_27 rfl hl (by decide) rfl (fun ls hl => ?_)
    refine x_aload_n C0 dX4_letCuesCome_28 rfl (lv_at hl 0 rfl) ?_
    refine x_ifnull (tgt := 43) C0 dX4_letCuesCome_29 (by decide) (fun zc4 => ?_) (fun zc4 => ?_)
    · have hf := ite_t hf zc4
      exact w4_letCuesCome_43 C0 hr hz fl I _ _ _ hw (lv_sub hl [] rfl) hf
    · have hf := ite_f hf zc4
      refine x_aload_n C0 dX4_letCuesCome_32 rfl (lv_at hl 0 rfl) ?_
      obtain ⟨zb5, ezb5, hfzb5⟩ := nn_some hf
      have tzb5 : okA E G 1 zb5 := tzv2 _ ezb5
      subst ezb5
      have hf := hfzb5
      refine xg_1_0 C0 hw tzb5 wd240 dX4_letCuesCome_33 ?_
      refine lv_aload_n hx hb dX4_letCuesCome_36 rfl (lv_at hl 1 rfl) ?_
      refine xg_4_8 C0 hw zt0 wd183 dX4_letCuesCome_37 ?_
      refine lv_icmp_le (tgt := 44) hx hb dX4_letCuesCome_40 (by decide) (fun zc6 => ?_) (fun zc6 => ?_)
      · have hf := ite_t hf zc6
        refine lv_aload_n hx hb dX4_letCuesCome_44 rfl (lv_at hl 1 rfl) ?_
        refine xg_4_1 C0 hw zt0 wd147 ep_65 dX4_letCuesCome_45 ?_
        refine lv_iload_n hx hb dX4_letCuesCome_48 rfl (lv_at hl 2 rfl) ?_
        refine lv_iconst (v := (1 : Int32)) hx hb dX4_letCuesCome_49 (by decide) ?_
        refine lv_iadd hx hb dX4_letCuesCome_50 ?_
        obtain ⟨zI7, ezI7⟩ : ∃ y : Im, y = pF I 98 p_65 (zx1 + (1 : Int32)) := ⟨_, rfl⟩
        have hf := lt_at hf ezI7
        refine xp_6_2 C0 hz hw tp_65 rfl rfl wd265 dX4_letCuesCome_51 ezI7 (fun H locs hw => ?_)
        refine lv_aload_n hx hb dX4_letCuesCome_54 rfl (lv_at hl 0 rfl) ?_
        refine lv_iconst (v := (1 : Int32)) hx hb dX4_letCuesCome_55 (by decide) ?_
        obtain ⟨zI8, ezI8⟩ : ∃ y : Im, y = pF zI7 20 zb5 (1 : Int32) := ⟨_, rfl⟩
        have hf := lt_at hf ezI8
        refine xp_1_4 C0 hz hw tzb5 rfl rfl wd239 dX4_letCuesCome_56 ezI8 (fun H locs hw => ?_)
        refine lv_aload_n hx hb dX4_letCuesCome_59 rfl (lv_at hl 0 rfl) ?_
        refine xg_1_1 C0 hw tzb5 wd267 dX4_letCuesCome_60 ?_
        refine lv_if_ne (tgt := 85) hx hb dX4_letCuesCome_63 (by decide) (fun zc9 => ?_) (fun zc9 => ?_)
        · have hf := ite_f hf zc9
          refine lv_aload_n hx hb dX4_letCuesCome_85 rfl (lv_at hl 0 rfl) ?_
          refine xg_1_1 C0 hw tzb5 wd267 dX4_letCuesCome_86 ?_
          refine lv_iconst (v := (1 : Int32)) hx hb dX4_letCuesCome_89 (by decide) ?_
          refine lv_icmp_ne (tgt := 117) hx hb dX4_letCuesCome_90 (by decide) (fun zc10 => ?_) (fun zc10 => ?_)
          · have hf := ite_f hf zc10
            refine lv_aload_n hx hb dX4_letCuesCome_117 rfl (lv_at hl 1 rfl) ?_
            refine lv_aload_n hx hb dX4_letCuesCome_118 rfl (lv_at hl 0 rfl) ?_
            refine xg_1_2 C0 hw tzb5 wd268 dX4_letCuesCome_119 ?_
            refine lv_aload_n hx hb dX4_letCuesCome_122 rfl (lv_at hl 0 rfl) ?_
            refine xg_1_3 C0 hw tzb5 wd269 dX4_letCuesCome_123 ?_
            obtain ⟨⟨zv11, zI12⟩, ze13, hf⟩ := nn_some hf
            refine x_ci (r := zv11) (I1 := zI12) (X1 := X) (x_runV (As := [.int (gF zI8 18 zb5), .int (gF zI8 19 zb5)]) (rest := []) C0 (c4_putGoal l E G fl X zI8 zx0 (gF zI8 18 zb5) (gF zI8 19 zb5) zt0 ze13) hw 4 zt0 (by decide) rfl wd35 wd276 wd277 wd278 wd202 ⟨rfl, rfl⟩ hy4_putGoal ⟨Nat.le_of_ble_eq_true rfl, Nat.le_of_ble_eq_true rfl⟩ rfl hl.1 (Nat.le_of_ble_eq_true rfl) ⟨Nat.zero_le _, Nat.zero_le _⟩ dX4_letCuesCome_126) hw (fun H locs hw => ?_)
            refine lv_pop hx hb dX4_letCuesCome_129 rfl ?_
            exact w4_letCuesCome_130 C0 hr hz fl zr8 zhr8 zI12 _ _ _ zx0 zx1 p_65 zt0 ep_65 tp_65 hw (lv_sub hl [1, 2] rfl) hf
          · have hf := ite_t hf zc10
            refine lv_aload_n hx hb dX4_letCuesCome_93 rfl (lv_at hl 1 rfl) ?_
            obtain ⟨zv14, ezv14, hf⟩ := nn_some hf
            have tzv14 : okA E G 2 zv14 := wt_r hw ezv14
            refine xg_4_4 C0 hw zt0 wd155 ezv14 dX4_letCuesCome_94 ?_
            refine lv_aload_n hx hb dX4_letCuesCome_97 rfl (lv_at hl 0 rfl) ?_
            refine xg_1_2 C0 hw tzb5 wd268 dX4_letCuesCome_98 ?_
            refine lv_aload_n hx hb dX4_letCuesCome_101 rfl (lv_at hl 0 rfl) ?_
            refine xg_1_3 C0 hw tzb5 wd269 dX4_letCuesCome_102 ?_
            refine lv_aload_n hx hb dX4_letCuesCome_105 rfl (lv_at hl 1 rfl) ?_
            obtain ⟨zv15, ezv15, hf⟩ := nn_some hf
            have tzv15 : okA E G 11 zv15 := wt_r hw ezv15
            refine xg_4_0 C0 hw zt0 wd143 ezv15 dX4_letCuesCome_106 ?_
            refine lv_iconst (v := (1 : Int32)) hx hb dX4_letCuesCome_109 (by decide) ?_
            obtain ⟨zhb16, hf⟩ := ck_some hf
            refine x_iald C0 hw tzv15 zhb16 dX4_letCuesCome_110 ?_
            obtain ⟨zI17, ze18, hf⟩ := nn_some hf
            refine x_cv (I1 := zI17) (X1 := X) (x_runV (As := [.int (gF zI8 18 zb5), .int (gF zI8 19 zb5), .int (gA zI8 zv15 ((1 : Int32)).toNatClampNeg)]) (rest := []) C0 (c2_slam l E G fl X zI8 zv14 (gF zI8 18 zb5) (gF zI8 19 zb5) (gA zI8 zv15 ((1 : Int32)).toNatClampNeg) tzv14 ze18) hw 2 tzv14 (by decide) rfl wd7 wd273 wd274 wd275 wd154 ⟨rfl, rfl⟩ hy2_slam ⟨Nat.le_of_ble_eq_true rfl, Nat.le_of_ble_eq_true rfl⟩ rfl hl.1 (Nat.le_of_ble_eq_true rfl) ⟨Nat.zero_le _, Nat.zero_le _⟩ dX4_letCuesCome_111) hw (fun H locs hw => ?_)
            refine lv_goto (tgt := 130) hx hb dX4_letCuesCome_114 (by decide) ?_
            exact w4_letCuesCome_130 C0 hr hz fl zr8 zhr8 zI17 _ _ _ zx0 zx1 p_65 zt0 ep_65 tp_65 hw (lv_sub hl [1, 2] rfl) hf
        · have hf := ite_t hf zc9
          refine lv_aload_n hx hb dX4_letCuesCome_66 rfl (lv_at hl 0 rfl) ?_
          refine lv_aload_n hx hb dX4_letCuesCome_67 rfl (lv_at hl 1 rfl) ?_
          refine lv_aload_n hx hb dX4_letCuesCome_68 rfl (lv_at hl 0 rfl) ?_
          refine xg_1_2 C0 hw tzb5 wd268 dX4_letCuesCome_69 ?_
          refine lv_aload_n hx hb dX4_letCuesCome_72 rfl (lv_at hl 0 rfl) ?_
          refine xg_1_3 C0 hw tzb5 wd269 dX4_letCuesCome_73 ?_
          obtain ⟨⟨zv19, zI20⟩, ze21, hf⟩ := nn_some hf
          refine x_ci (r := zv19) (I1 := zI20) (X1 := X) (x_runV (As := [.int (gF zI8 18 zb5), .int (gF zI8 19 zb5)]) (rest := [.ref zb5]) C0 (c4_callSound l E G fl X zI8 zx0 (gF zI8 18 zb5) (gF zI8 19 zb5) zt0 ze21) hw 4 zt0 (by decide) rfl wd41 wd270 wd271 wd272 wd202 ⟨rfl, rfl⟩ hy4_callSound ⟨Nat.le_of_ble_eq_true rfl, Nat.le_of_ble_eq_true rfl⟩ rfl hl.1 (Nat.le_of_ble_eq_true rfl) ⟨Nat.zero_le _, Nat.zero_le _⟩ dX4_letCuesCome_76) hw (fun H locs hw => ?_)
          obtain ⟨zI22, ezI22⟩ : ∃ y : Im, y = pF zI20 20 zb5 zv19 := ⟨_, rfl⟩
          have hf := lt_at hf ezI22
          refine xp_1_4 C0 hz hw tzb5 rfl rfl wd239 dX4_letCuesCome_79 ezI22 (fun H locs hw => ?_)
          refine lv_goto (tgt := 130) hx hb dX4_letCuesCome_82 (by decide) ?_
          exact w4_letCuesCome_130 C0 hr hz fl zr8 zhr8 zI22 _ _ _ zx0 zx1 p_65 zt0 ep_65 tp_65 hw (lv_sub hl [1, 2] rfl) hf
      · have hf := ite_f hf zc6
        exact w4_letCuesCome_43 C0 hr hz fl I _ _ _ hw (lv_sub hl [] rfl) hf
theorem w4_letCuesCome_8 {p : Program} {l : Launch} {e : Env} {s : State} {m : MethodId} {args : Array Value} {below : List Frame} {meth : Method} {c : Code} {E : EN} {G : GM} {X : Xm} (C0 : CX p s m args meth c E cX4_letCuesCome RX4 3) (hr : meth.sig.returnType = none) (hz : s.heap.size + 0 ≤ eB E + G.1) {rr : Im} (fl : Nat) : ∀ (n : Nat) (I : Im) (H : Heap) (locs : List Loc) (ls : Array Slot) (zx0 : Nat) (zx1 : Int32) (p_65 : Nat) (zt0 : okA E G 4 zx0) (ep_65 : gR X 65 zx0 = some p_65) (tp_65 : okA E G 6 p_65), WD E G I X s.heap H locs → lv_has ls 3 [(0, .ref zx0), (1, .int zx1)] → m4_letCuesCome_8 fl G.2.2 X n I zx0 zx1 p_65 = some rr → W p l e ({ frames := 2, cells := 0, slots := 0, locals := 46 } : Room) s m args below meth c H locs 0 0 (MQ below (QV E G rr X) args s 0 0 (eA E)) (F0 m 8 ls []) := by
  intro n
  induction n with
  | zero => intro I H locs ls zx0 zx1 p_65 zt0 ep_65 tp_65 hw hl hf; exact absurd (show (none : Option (Im)) = some rr from hf) (by simp)
  | succ n ih => intro I H locs ls zx0 zx1 p_65 zt0 ep_65 tp_65 hw hl hf; exact w4_letCuesCome_8b C0 hr hz fl _ ih I H locs ls zx0 zx1 p_65 zt0 ep_65 tp_65 hw hl hf
noncomputable def m4_letCuesCome (fl : Nat) (len : Nat → Nat) (X : Xm) (I : Im) (zx0 : Nat) : Option (Im) :=
  nn (gR X 65 zx0) fun zv1 =>
  lt ((gF I 98 zv1)) fun zv2 =>
  m4_letCuesCome_8 fl len X fl I zx0 zv2 zv1
theorem hy4_letCuesCome : yX4_letCuesCome.cls = RX4 ∧ yX4_letCuesCome.cls ≠ "java/lang/invoke/MethodHandle" ∧ yX4_letCuesCome.cls ≠ "java/lang/invoke/VarHandle" ∧ (parseMethodDescriptor yX4_letCuesCome.desc).map (fun d => d.parameters.length) = some 0 := ⟨rfl, by decide +kernel, by decide +kernel, by decide +kernel⟩
set_option maxHeartbeats 4000000 in
set_option maxRecDepth 100000 in
theorem c4_letCuesCome (l : Launch) (E : EN) (G : GM) (fl : Nat) (X : Xm) (I : Im) (zx0 : Nat) (zt0 : okA E G 4 zx0) {rr : Im} (hf : m4_letCuesCome fl G.2.2 X I zx0 = some rr) : MT l yX4_letCuesCome cX4_letCuesCome 3 none ({ frames := 2, cells := 0, slots := 0, locals := 46 } : Room) E G I X [.ref zx0] (QV E G rr X) 0 0 := by
  refine Met.ofW (cc := cX4_letCuesCome) (maxL := 3) (ret := none) (by decide +kernel) rfl ?_
  intro p e s m args below meth c s₁ B hml hv
  obtain ⟨rfl, hw0, hSE⟩ := hv
  have C0 : CX p s m ([.ref zx0] : List Value).toArray meth c E cX4_letCuesCome RX4 3 := ⟨B.exec, B.bytes, hml, findClass_of_methodNamed B.named, fun w hw => atoms_spec (ws := WS yX4_letCuesCome cX4_letCuesCome 3 none) B.pre w (List.mem_cons_of_mem _ hw), B.notSynchronized, hSE⟩
  have hz : s.heap.size + 0 ≤ eB E + G.1 := Nat.le_of_eq hw0.2.1
  have hw : WD E G I X s.heap s.heap [] := ⟨hw0, va_S.rf⟩
  have hr := B.returns
  have hx := C0.1; have hb := C0.2.1; have hml := C0.2.2.1; have hown := C0.2.2.2.1; have hts := C0.2.2.2.2.1
  have hl := lv_entry ([.ref zx0]) (n := 3) (Nat.le_of_ble_eq_true rfl)
  rw [lg_entry_eq]
  generalize (lg_sl ([.ref zx0]) ++ List.replicate (3 - (lg_sl ([.ref zx0])).length) Slot.unset).toArray = ls at hl ⊢
  have hl : lv_has ls 3 [(0, .ref zx0)] := hl
  unfold m4_letCuesCome at hf
  refine lv_aload_n hx hb dX4_letCuesCome_0 rfl (lv_at hl 0 rfl) ?_
  obtain ⟨zv1, ezv1, hf⟩ := nn_some hf
  have tzv1 : okA E G 6 zv1 := wt_r hw ezv1
  refine xg_4_1 C0 hw zt0 wd147 ezv1 dX4_letCuesCome_1 ?_
  refine xg_6_2 C0 hw tzv1 wd265 dX4_letCuesCome_4 ?_
  refine lv_topi (fun zv2 ezv2 => ?_)
  have hf := lt_at hf ezv2
  refine lv_istore_n (lv' := [(1, .int zv2), (0, .ref zx0)]) hx hb dX4_letCuesCome_7 rfl hl (by decide) rfl (fun ls hl => ?_)
  exact w4_letCuesCome_8 C0 hr hz fl fl I _ _ _ zx0 zv2 zv1 zt0 ezv1 tzv1 hw (lv_sub hl [1, 0] rfl) hf
noncomputable def m8_nearer_22 (fl : Nat) (len : Nat → Nat) (X : Xm) (I : Im) (zs0 : Int32) : Option (Int32) :=
  some (zs0)
set_option maxHeartbeats 4000000 in
set_option maxRecDepth 100000 in
theorem w8_nearer_22 {p : Program} {l : Launch} {e : Env} {s : State} {m : MethodId} {args : Array Value} {below : List Frame} {meth : Method} {c : Code} {E : EN} {G : GM} {X : Xm} {I : Im} (C0 : CX p s m args meth c E cX8_nearer RX8 3) (hr : meth.sig.returnType = (some .int)) (hz : s.heap.size + 0 ≤ eB E + G.1) {rr : Int32} (fl : Nat) : ∀ (H : Heap) (locs : List Loc) (ls : Array Slot) (zs0 : Int32) , WD E G I X s.heap H locs → lv_has ls 3 [] → m8_nearer_22 fl G.2.2 X I zs0 = some rr → W p l e ({ frames := 1, cells := 0, slots := 0, locals := 21 } : Room) s m args below meth c H locs 0 0 (MQ below (QI E G rr I X) args s 0 0 (eA E)) (F0 m 22 ls [.int zs0]) := by
  intro H locs ls zs0 hw hl hf
  unfold m8_nearer_22 at hf
  have hx := C0.1; have hb := C0.2.1; have hml := C0.2.2.1; have hown := C0.2.2.2.1; have hts := C0.2.2.2.2.1
  obtain rfl := Option.some.inj hf
  exact x_iret C0 hr hw dX8_nearer_22
noncomputable def m8_nearer (fl : Nat) (len : Nat → Nat) (X : Xm) (I : Im) (zx0 : Int32) (zx1 : Int32) (zx2 : Int32) : Option (Int32) :=
  if zx1 ≤ zx0 then
    m8_nearer_22 fl len X I (if zx1 < (zx0 - zx2) then (zx0 - zx2) else zx1)
  else
    m8_nearer_22 fl len X I (if (zx0 + zx2) < zx1 then (zx0 + zx2) else zx1)
theorem hy8_nearer : yX8_nearer.cls = RX8 ∧ yX8_nearer.cls ≠ "java/lang/invoke/MethodHandle" ∧ yX8_nearer.cls ≠ "java/lang/invoke/VarHandle" ∧ (parseMethodDescriptor yX8_nearer.desc).map (fun d => d.parameters.length) = some 3 := ⟨rfl, by decide +kernel, by decide +kernel, by decide +kernel⟩
set_option maxHeartbeats 4000000 in
set_option maxRecDepth 100000 in
theorem c8_nearer (l : Launch) (E : EN) (G : GM) (fl : Nat) (X : Xm) (I : Im) (zx0 : Int32) (zx1 : Int32) (zx2 : Int32) {rr : Int32} (hf : m8_nearer fl G.2.2 X I zx0 zx1 zx2 = some rr) : MT l yX8_nearer cX8_nearer 3 (some .int) ({ frames := 1, cells := 0, slots := 0, locals := 21 } : Room) E G I X [.int zx0, .int zx1, .int zx2] (QI E G rr I X) 0 0 := by
  refine Met.ofW (cc := cX8_nearer) (maxL := 3) (ret := (some .int)) (by decide +kernel) rfl ?_
  intro p e s m args below meth c s₁ B hml hv
  obtain ⟨rfl, hw0, hSE⟩ := hv
  have C0 : CX p s m ([.int zx0, .int zx1, .int zx2] : List Value).toArray meth c E cX8_nearer RX8 3 := ⟨B.exec, B.bytes, hml, findClass_of_methodNamed B.named, fun w hw => atoms_spec (ws := WS yX8_nearer cX8_nearer 3 (some .int)) B.pre w (List.mem_cons_of_mem _ hw), B.notSynchronized, hSE⟩
  have hz : s.heap.size + 0 ≤ eB E + G.1 := Nat.le_of_eq hw0.2.1
  have hw : WD E G I X s.heap s.heap [] := ⟨hw0, va_S.rf⟩
  have hr := B.returns
  have hx := C0.1; have hb := C0.2.1; have hml := C0.2.2.1; have hown := C0.2.2.2.1; have hts := C0.2.2.2.2.1
  have hl := lv_entry ([.int zx0, .int zx1, .int zx2]) (n := 3) (Nat.le_of_ble_eq_true rfl)
  rw [lg_entry_eq]
  generalize (lg_sl ([.int zx0, .int zx1, .int zx2]) ++ List.replicate (3 - (lg_sl ([.int zx0, .int zx1, .int zx2])).length) Slot.unset).toArray = ls at hl ⊢
  have hl : lv_has ls 3 [(0, .int zx0), (1, .int zx1), (2, .int zx2)] := hl
  unfold m8_nearer at hf
  refine lv_iload_n hx hb dX8_nearer_0 rfl (lv_at hl 0 rfl) ?_
  refine lv_iload_n hx hb dX8_nearer_1 rfl (lv_at hl 1 rfl) ?_
  refine lv_icmp_ge (tgt := 15) hx hb dX8_nearer_2 (by decide) (fun zc1 => ?_) (fun zc1 => ?_)
  · have hf := ite_t hf zc1
    refine lv_iload_n hx hb dX8_nearer_15 rfl (lv_at hl 1 rfl) ?_
    refine lv_iload_n hx hb dX8_nearer_16 rfl (lv_at hl 0 rfl) ?_
    refine lv_iload_n hx hb dX8_nearer_17 rfl (lv_at hl 2 rfl) ?_
    refine lv_isub hx hb dX8_nearer_18 ?_
    refine va_mmax hx hb (hml.trans hl.1.symm) hown (hts _ wd103) (hts _ wd104) (hts _ wd101) (hts _ wd105) (Nat.le_of_ble_eq_true rfl) (Nat.le_of_ble_eq_true rfl) (Nat.zero_le _) (Nat.zero_le _) dX8_nearer_19 ?_
    exact w8_nearer_22 C0 hr hz fl _ _ _ (if zx1 < (zx0 - zx2) then (zx0 - zx2) else zx1) hw (lv_sub hl [] rfl) hf
  · have hf := ite_f hf zc1
    refine lv_iload_n hx hb dX8_nearer_5 rfl (lv_at hl 1 rfl) ?_
    refine lv_iload_n hx hb dX8_nearer_6 rfl (lv_at hl 0 rfl) ?_
    refine lv_iload_n hx hb dX8_nearer_7 rfl (lv_at hl 2 rfl) ?_
    refine lv_iadd hx hb dX8_nearer_8 ?_
    refine va_mmin hx hb (hml.trans hl.1.symm) hown (hts _ wd99) (hts _ wd100) (hts _ wd101) (hts _ wd102) (Nat.le_of_ble_eq_true rfl) (Nat.le_of_ble_eq_true rfl) (Nat.zero_le _) (Nat.zero_le _) dX8_nearer_9 ?_
    refine lv_goto (tgt := 22) hx hb dX8_nearer_12 (by decide) ?_
    exact w8_nearer_22 C0 hr hz fl _ _ _ (if (zx0 + zx2) < zx1 then (zx0 + zx2) else zx1) hw (lv_sub hl [] rfl) hf
noncomputable def m0_fade (fl : Nat) (len : Nat → Nat) (X : Xm) (I : Im) (zx0 : Nat) (zx1 : Int32) : Option (Im) :=
  nn (m8_nearer fl len X I (gF I 0 zx0) (gF I 1 zx0) zx1) fun zv1 =>
  lt (pF I 0 zx0 zv1) fun zI3 =>
  some (zI3)
theorem hy0_fade : yX0_fade.cls = RX0 ∧ yX0_fade.cls ≠ "java/lang/invoke/MethodHandle" ∧ yX0_fade.cls ≠ "java/lang/invoke/VarHandle" ∧ (parseMethodDescriptor yX0_fade.desc).map (fun d => d.parameters.length) = some 1 := ⟨rfl, by decide +kernel, by decide +kernel, by decide +kernel⟩
set_option maxHeartbeats 4000000 in
set_option maxRecDepth 100000 in
theorem c0_fade (l : Launch) (E : EN) (G : GM) (fl : Nat) (X : Xm) (I : Im) (zx0 : Nat) (zx1 : Int32) (zt0 : okA E G 0 zx0) {rr : Im} (hf : m0_fade fl G.2.2 X I zx0 zx1 = some rr) : MT l yX0_fade cX0_fade 2 none ({ frames := 2, cells := 0, slots := 0, locals := 43 } : Room) E G I X [.ref zx0, .int zx1] (QV E G rr X) 0 0 := by
  refine Met.ofW (cc := cX0_fade) (maxL := 2) (ret := none) (by decide +kernel) rfl ?_
  intro p e s m args below meth c s₁ B hml hv
  obtain ⟨rfl, hw0, hSE⟩ := hv
  have C0 : CX p s m ([.ref zx0, .int zx1] : List Value).toArray meth c E cX0_fade RX0 2 := ⟨B.exec, B.bytes, hml, findClass_of_methodNamed B.named, fun w hw => atoms_spec (ws := WS yX0_fade cX0_fade 2 none) B.pre w (List.mem_cons_of_mem _ hw), B.notSynchronized, hSE⟩
  have hz : s.heap.size + 0 ≤ eB E + G.1 := Nat.le_of_eq hw0.2.1
  have hw : WD E G I X s.heap s.heap [] := ⟨hw0, va_S.rf⟩
  have hr := B.returns
  have hx := C0.1; have hb := C0.2.1; have hml := C0.2.2.1; have hown := C0.2.2.2.1; have hts := C0.2.2.2.2.1
  have hl := lv_entry ([.ref zx0, .int zx1]) (n := 2) (Nat.le_of_ble_eq_true rfl)
  rw [lg_entry_eq]
  generalize (lg_sl ([.ref zx0, .int zx1]) ++ List.replicate (2 - (lg_sl ([.ref zx0, .int zx1])).length) Slot.unset).toArray = ls at hl ⊢
  have hl : lv_has ls 2 [(0, .ref zx0), (1, .int zx1)] := hl
  unfold m0_fade at hf
  refine lv_aload_n hx hb dX0_fade_0 rfl (lv_at hl 0 rfl) ?_
  refine lv_aload_n hx hb dX0_fade_1 rfl (lv_at hl 0 rfl) ?_
  refine xg_0_0 C0 hw zt0 wd97 dX0_fade_2 ?_
  refine lv_aload_n hx hb dX0_fade_5 rfl (lv_at hl 0 rfl) ?_
  refine xg_0_1 C0 hw zt0 wd98 dX0_fade_6 ?_
  refine lv_iload_n hx hb dX0_fade_9 rfl (lv_at hl 1 rfl) ?_
  obtain ⟨zv1, ze2, hf⟩ := nn_some hf
  refine x_ci (r := zv1) (I1 := I) (X1 := X) (x_runSN (As := [.int (gF I 0 zx0), .int (gF I 1 zx0), .int zx1]) (rest := [.ref zx0]) (host := "RadioCues") C0 (c8_nearer l E G fl X I (gF I 0 zx0) (gF I 1 zx0) zx1 ze2) hw wd1 (List.mem_of_getElem? (i := 1) rfl) wd106 wd107 ⟨rfl, rfl⟩ hy8_nearer.2 ⟨Nat.le_of_ble_eq_true rfl, Nat.le_of_ble_eq_true rfl⟩ rfl hl.1 (Nat.le_of_ble_eq_true rfl) ⟨Nat.zero_le _, Nat.zero_le _⟩ dX0_fade_10) hw (fun H locs hw => ?_)
  obtain ⟨zI3, ezI3⟩ : ∃ y : Im, y = pF I 0 zx0 zv1 := ⟨_, rfl⟩
  have hf := lt_at hf ezI3
  refine xp_0_0 C0 hz hw zt0 rfl rfl wd97 dX0_fade_13 ezI3 (fun H locs hw => ?_)
  obtain rfl := Option.some.inj hf
  exact x_vret C0 hr hw dX0_fade_16
noncomputable def m4_heardOn_23 (fl : Nat) (len : Nat → Nat) (X : Xm) (I : Im) (zs0 : Int32) : Option (Int32) :=
  some (zs0)
set_option maxHeartbeats 4000000 in
set_option maxRecDepth 100000 in
theorem w4_heardOn_23 {p : Program} {l : Launch} {e : Env} {s : State} {m : MethodId} {args : Array Value} {below : List Frame} {meth : Method} {c : Code} {E : EN} {G : GM} {X : Xm} {I : Im} (C0 : CX p s m args meth c E cX4_heardOn RX4 4) (hr : meth.sig.returnType = (some .int)) (hz : s.heap.size + 0 ≤ eB E + G.1) {rr : Int32} (fl : Nat) : ∀ (H : Heap) (locs : List Loc) (ls : Array Slot) (zs0 : Int32) , WD E G I X s.heap H locs → lv_has ls 4 [] → m4_heardOn_23 fl G.2.2 X I zs0 = some rr → W p l e ({ frames := 1, cells := 0, slots := 0, locals := 21 } : Room) s m args below meth c H locs 0 0 (MQ below (QI E G rr I X) args s 0 0 (eA E)) (F0 m 23 ls [.int zs0]) := by
  intro H locs ls zs0 hw hl hf
  unfold m4_heardOn_23 at hf
  have hx := C0.1; have hb := C0.2.1; have hml := C0.2.2.1; have hown := C0.2.2.2.1; have hts := C0.2.2.2.2.1
  obtain rfl := Option.some.inj hf
  exact x_iret C0 hr hw dX4_heardOn_23
noncomputable def m4_heardOn (fl : Nat) (len : Nat → Nat) (X : Xm) (I : Im) (zx0 : Nat) (zx1 : Int32) (zx2 : Int32) : Option (Int32) :=
  nn (m4_channelAt fl len X I zx0 zx1) fun zv1 =>
  if zv1 = none then
    m4_heardOn_23 fl len X I (0 : Int32)
  else
    nn zv1 fun zb4 =>
    m4_heardOn_23 fl len X I ((zx2 * (gF I 0 zb4)) / (50 : Int32))
theorem hy4_heardOn : yX4_heardOn.cls = RX4 ∧ yX4_heardOn.cls ≠ "java/lang/invoke/MethodHandle" ∧ yX4_heardOn.cls ≠ "java/lang/invoke/VarHandle" ∧ (parseMethodDescriptor yX4_heardOn.desc).map (fun d => d.parameters.length) = some 2 := ⟨rfl, by decide +kernel, by decide +kernel, by decide +kernel⟩
set_option maxHeartbeats 4000000 in
set_option maxRecDepth 100000 in
theorem c4_heardOn (l : Launch) (E : EN) (G : GM) (fl : Nat) (X : Xm) (I : Im) (zx0 : Nat) (zx1 : Int32) (zx2 : Int32) (zt0 : okA E G 4 zx0) {rr : Int32} (hf : m4_heardOn fl G.2.2 X I zx0 zx1 zx2 = some rr) : MT l yX4_heardOn cX4_heardOn 4 (some .int) ({ frames := 1, cells := 0, slots := 0, locals := 21 } : Room) E G I X [.ref zx0, .int zx1, .int zx2] (QI E G rr I X) 0 0 := by
  refine Met.ofW (cc := cX4_heardOn) (maxL := 4) (ret := (some .int)) (by decide +kernel) rfl ?_
  intro p e s m args below meth c s₁ B hml hv
  obtain ⟨rfl, hw0, hSE⟩ := hv
  have C0 : CX p s m ([.ref zx0, .int zx1, .int zx2] : List Value).toArray meth c E cX4_heardOn RX4 4 := ⟨B.exec, B.bytes, hml, findClass_of_methodNamed B.named, fun w hw => atoms_spec (ws := WS yX4_heardOn cX4_heardOn 4 (some .int)) B.pre w (List.mem_cons_of_mem _ hw), B.notSynchronized, hSE⟩
  have hz : s.heap.size + 0 ≤ eB E + G.1 := Nat.le_of_eq hw0.2.1
  have hw : WD E G I X s.heap s.heap [] := ⟨hw0, va_S.rf⟩
  have hr := B.returns
  have hx := C0.1; have hb := C0.2.1; have hml := C0.2.2.1; have hown := C0.2.2.2.1; have hts := C0.2.2.2.2.1
  have hl := lv_entry ([.ref zx0, .int zx1, .int zx2]) (n := 4) (Nat.le_of_ble_eq_true rfl)
  rw [lg_entry_eq]
  generalize (lg_sl ([.ref zx0, .int zx1, .int zx2]) ++ List.replicate (4 - (lg_sl ([.ref zx0, .int zx1, .int zx2])).length) Slot.unset).toArray = ls at hl ⊢
  have hl : lv_has ls 4 [(0, .ref zx0), (1, .int zx1), (2, .int zx2)] := hl
  unfold m4_heardOn at hf
  refine lv_aload_n hx hb dX4_heardOn_0 rfl (lv_at hl 0 rfl) ?_
  refine lv_iload_n hx hb dX4_heardOn_1 rfl (lv_at hl 1 rfl) ?_
  obtain ⟨zv1, ze2, hf⟩ := nn_some hf
  refine x_co (r := zv1) (I1 := I) (X1 := X) (x_runV (As := [.int zx1]) (rest := []) C0 (c4_channelAt l E G fl X I zx0 zx1 zt0 ze2) hw 4 zt0 (by decide) rfl wd34 wd246 wd247 wd248 wd202 ⟨rfl, rfl⟩ hy4_channelAt ⟨Nat.le_of_ble_eq_true rfl, Nat.le_of_ble_eq_true rfl⟩ rfl hl.1 (Nat.le_of_ble_eq_true rfl) ⟨Nat.zero_le _, Nat.zero_le _⟩ dX4_heardOn_2) hw (fun H locs hw tzv1 => ?_)
  refine x_astore_n (lv' := [(3, va_rf zv1), (0, .ref zx0), (1, .int zx1), (2, .int zx2)]) C0 dX4_heardOn_5 rfl hl (by decide) rfl (fun ls hl => ?_)
  refine x_aload_n C0 dX4_heardOn_6 rfl (lv_at hl 0 rfl) ?_
  refine x_ifnonnull (tgt := 14) C0 dX4_heardOn_7 (by decide) (fun zc3 => ?_) (fun zc3 => ?_)
  · have hf := ite_f hf zc3
    refine lv_iload_n hx hb dX4_heardOn_14 rfl (lv_at hl 3 rfl) ?_
    refine x_aload_n C0 dX4_heardOn_15 rfl (lv_at hl 0 rfl) ?_
    obtain ⟨zb4, ezb4, hfzb4⟩ := nn_some hf
    have tzb4 : okA E G 0 zb4 := tzv1 _ ezb4
    subst ezb4
    have hf := hfzb4
    refine xg_0_0 C0 hw tzb4 wd187 dX4_heardOn_16 ?_
    refine lv_imul hx hb dX4_heardOn_19 ?_
    refine lv_bipush (v := (50 : Int32)) hx hb dX4_heardOn_20 (by decide) ?_
    refine lv_idiv hx hb dX4_heardOn_22 (by decide) ?_
    exact w4_heardOn_23 C0 hr hz fl _ _ _ ((zx2 * (gF I 0 zb4)) / (50 : Int32)) hw (lv_sub hl [] rfl) hf
  · have hf := ite_t hf zc3
    refine lv_iconst (v := (0 : Int32)) hx hb dX4_heardOn_10 (by decide) ?_
    refine lv_goto (tgt := 23) hx hb dX4_heardOn_11 (by decide) ?_
    exact w4_heardOn_23 C0 hr hz fl _ _ _ (0 : Int32) hw (lv_sub hl [] rfl) hf
noncomputable def m4_loudnessOfReels_48 (fl : Nat) (len : Nat → Nat) (X : Xm) (I : Im) (zr4 : Nat → Int32 → Int32 → Option (Int32)) (zx0 : Nat) (zx1 : Int32) (zx2 : Int32) (p_66 : Nat) : Option (Int32) :=
  lt (zx2 + 1) fun zv1 =>
  zr4 zx0 zx1 zv1
set_option maxHeartbeats 4000000 in
set_option maxRecDepth 100000 in
theorem w4_loudnessOfReels_48 {p : Program} {l : Launch} {e : Env} {s : State} {m : MethodId} {args : Array Value} {below : List Frame} {meth : Method} {c : Code} {E : EN} {G : GM} {X : Xm} {I : Im} (C0 : CX p s m args meth c E cX4_loudnessOfReels RX4 4) (hr : meth.sig.returnType = (some .int)) (hz : s.heap.size + 0 ≤ eB E + G.1) {rr : Int32} (fl : Nat) (zr4 : Nat → Int32 → Int32 → Option (Int32)) (zhr4 : ∀ (H : Heap) (locs : List Loc) (ls : Array Slot) (zx0 : Nat) (zx1 : Int32) (zx2 : Int32) (zt0 : okA E G 4 zx0), WD E G I X s.heap H locs → lv_has ls 4 [(0, .ref zx0), (1, .int zx1), (2, .int zx2)] → zr4 zx0 zx1 zx2 = some rr → W p l e ({ frames := 2, cells := 0, slots := 0, locals := 44 } : Room) s m args below meth c H locs 0 0 (MQ below (QI E G rr I X) args s 0 0 (eA E)) (F0 m 4 ls [])) : ∀ (H : Heap) (locs : List Loc) (ls : Array Slot) (zx0 : Nat) (zx1 : Int32) (zx2 : Int32) (p_66 : Nat) (zt0 : okA E G 4 zx0) (ep_66 : gR X 66 zx0 = some p_66) (tp_66 : okA E G 16 p_66), WD E G I X s.heap H locs → lv_has ls 4 [(0, .ref zx0), (1, .int zx1), (2, .int zx2)] → m4_loudnessOfReels_48 fl G.2.2 X I zr4 zx0 zx1 zx2 p_66 = some rr → W p l e ({ frames := 2, cells := 0, slots := 0, locals := 44 } : Room) s m args below meth c H locs 0 0 (MQ below (QI E G rr I X) args s 0 0 (eA E)) (F0 m 48 ls []) := by
  intro H locs ls zx0 zx1 zx2 p_66 zt0 ep_66 tp_66 hw hl hf
  unfold m4_loudnessOfReels_48 at hf
  have hx := C0.1; have hb := C0.2.1; have hml := C0.2.2.1; have hown := C0.2.2.2.1; have hts := C0.2.2.2.2.1
  obtain ⟨zv1, ezv1⟩ : ∃ y : Int32, y = zx2 + 1 := ⟨_, rfl⟩
  have hf := lt_at hf ezv1
  refine lv_iinc (v := zv1) (lv' := [(2, .int zv1), (0, .ref zx0), (1, .int zx1)]) hx hb dX4_loudnessOfReels_48 hl (k := 2) rfl (by rw [ezv1]; rfl) (by decide) rfl (fun ls hl => ?_)
  refine lv_goto (tgt := 4) hx hb dX4_loudnessOfReels_51 (by decide) ?_
  exact zhr4 _ _ _ zx0 zx1 zv1 zt0 hw (lv_sub hl [1, 2, 0] rfl) hf
noncomputable def m4_loudnessOfReels_4b (fl : Nat) (len : Nat → Nat) (X : Xm) (I : Im) (zr4 : Nat → Int32 → Int32 → Option (Int32)) (zx0 : Nat) (zx1 : Int32) (zx2 : Int32) : Option (Int32) :=
  nn (gR X 66 zx0) fun zv1 =>
  if (nI (len zv1)) ≤ zx2 then
    some (zx1)
  else
    ck (inb zx2 (len zv1) = true) <|
    nn (gQ X zv1 (zx2).toNatClampNeg) fun zv4 =>
    nn (gQ X zv1 (zx2).toNatClampNeg) fun zv5 =>
    nn (m5_soundNumbered fl len X I zv4 (gF I 83 zv5)) fun zv6 =>
    if zv6 = none then
      m4_loudnessOfReels_48 fl len X I zr4 zx0 zx1 zx2 zv1
    else
      nn zv6 fun zb9 =>
      nn (m4_heardOn fl len X I zx0 zx2 (gF I 113 zb9)) fun zv10 =>
      lt ((zx1 + zv10)) fun zv12 =>
      m4_loudnessOfReels_48 fl len X I zr4 zx0 zv12 zx2 zv1
noncomputable def m4_loudnessOfReels_4 (fl : Nat) (len : Nat → Nat) (X : Xm) (I : Im) (n : Nat) : Nat → Int32 → Int32 → Option (Int32) :=
  Nat.rec (fun _ _ _ => none) (fun _ r => m4_loudnessOfReels_4b fl len X I r) n
set_option maxHeartbeats 4000000 in
set_option maxRecDepth 100000 in
theorem w4_loudnessOfReels_4b {p : Program} {l : Launch} {e : Env} {s : State} {m : MethodId} {args : Array Value} {below : List Frame} {meth : Method} {c : Code} {E : EN} {G : GM} {X : Xm} {I : Im} (C0 : CX p s m args meth c E cX4_loudnessOfReels RX4 4) (hr : meth.sig.returnType = (some .int)) (hz : s.heap.size + 0 ≤ eB E + G.1) {rr : Int32} (fl : Nat) (zr4 : Nat → Int32 → Int32 → Option (Int32)) (zhr4 : ∀ (H : Heap) (locs : List Loc) (ls : Array Slot) (zx0 : Nat) (zx1 : Int32) (zx2 : Int32) (zt0 : okA E G 4 zx0), WD E G I X s.heap H locs → lv_has ls 4 [(0, .ref zx0), (1, .int zx1), (2, .int zx2)] → zr4 zx0 zx1 zx2 = some rr → W p l e ({ frames := 2, cells := 0, slots := 0, locals := 44 } : Room) s m args below meth c H locs 0 0 (MQ below (QI E G rr I X) args s 0 0 (eA E)) (F0 m 4 ls [])) : ∀ (H : Heap) (locs : List Loc) (ls : Array Slot) (zx0 : Nat) (zx1 : Int32) (zx2 : Int32) (zt0 : okA E G 4 zx0), WD E G I X s.heap H locs → lv_has ls 4 [(0, .ref zx0), (1, .int zx1), (2, .int zx2)] → m4_loudnessOfReels_4b fl G.2.2 X I zr4 zx0 zx1 zx2 = some rr → W p l e ({ frames := 2, cells := 0, slots := 0, locals := 44 } : Room) s m args below meth c H locs 0 0 (MQ below (QI E G rr I X) args s 0 0 (eA E)) (F0 m 4 ls []) := by
  intro H locs ls zx0 zx1 zx2 zt0 hw hl hf
  unfold m4_loudnessOfReels_4b at hf
  have hx := C0.1; have hb := C0.2.1; have hml := C0.2.2.1; have hown := C0.2.2.2.1; have hts := C0.2.2.2.2.1
  refine lv_iload_n hx hb dX4_loudnessOfReels_4 rfl (lv_at hl 2 rfl) ?_
  refine lv_aload_n hx hb dX4_loudnessOfReels_5 rfl (lv_at hl 0 rfl) ?_
  obtain ⟨zv1, ezv1, hf⟩ := nn_some hf
  have tzv1 : okA E G 16 zv1 := wt_r hw ezv1
  refine xg_4_2 C0 hw zt0 wd149 ezv1 dX4_loudnessOfReels_6 ?_
  refine x_alen C0 hw 16 tzv1 (by decide) rfl dX4_loudnessOfReels_9 ?_
  refine lv_icmp_ge (tgt := 54) hx hb dX4_loudnessOfReels_10 (by decide) (fun zc2 => ?_) (fun zc2 => ?_)
  · have hf := ite_t hf zc2
    refine lv_iload_n hx hb dX4_loudnessOfReels_54 rfl (lv_at hl 1 rfl) ?_
    obtain rfl := Option.some.inj hf
    exact x_iret C0 hr hw dX4_loudnessOfReels_55
  · have hf := ite_f hf zc2
    refine lv_aload_n hx hb dX4_loudnessOfReels_13 rfl (lv_at hl 0 rfl) ?_
    refine xg_4_2 C0 hw zt0 wd149 ezv1 dX4_loudnessOfReels_14 ?_
    refine lv_iload_n hx hb dX4_loudnessOfReels_17 rfl (lv_at hl 2 rfl) ?_
    obtain ⟨zhb3, hf⟩ := ck_some hf
    obtain ⟨zv4, ezv4, hf⟩ := nn_some hf
    have tzv4 : okA E G 5 zv4 := wt_q hw tzv1 ezv4
    refine x_qald C0 hw 16 tzv1 (by decide) rfl zhb3 ezv4 dX4_loudnessOfReels_18 ?_
    refine lv_aload_n hx hb dX4_loudnessOfReels_19 rfl (lv_at hl 0 rfl) ?_
    refine xg_4_2 C0 hw zt0 wd149 ezv1 dX4_loudnessOfReels_20 ?_
    refine lv_iload_n hx hb dX4_loudnessOfReels_23 rfl (lv_at hl 2 rfl) ?_
    obtain ⟨zv5, ezv5, hf⟩ := nn_some hf
    have tzv5 : okA E G 5 zv5 := wt_q hw tzv1 ezv5
    refine x_qald C0 hw 16 tzv1 (by decide) rfl zhb3 ezv5 dX4_loudnessOfReels_24 ?_
    refine xg_5_3 C0 hw tzv5 wd259 dX4_loudnessOfReels_25 ?_
    obtain ⟨zv6, ze7, hf⟩ := nn_some hf
    refine x_co (r := zv6) (I1 := I) (X1 := X) (x_runV (As := [.int (gF I 83 zv5)]) (rest := []) C0 (c5_soundNumbered l E G fl X I zv4 (gF I 83 zv5) tzv4 ze7) hw 5 tzv4 (by decide) rfl wd23 wd220 wd207 wd208 wd159 ⟨rfl, rfl⟩ hy5_soundNumbered ⟨Nat.le_of_ble_eq_true rfl, Nat.le_of_ble_eq_true rfl⟩ rfl hl.1 (Nat.le_of_ble_eq_true rfl) ⟨Nat.zero_le _, Nat.zero_le _⟩ dX4_loudnessOfReels_28) hw (fun H locs hw tzv6 => ?_)
    refine x_astore_n (lv' := [(3, va_rf zv6), (0, .ref zx0), (1, .int zx1), (2, .int zx2)]) C0 dX4_loudnessOfReels_31 rfl hl (by decide) rfl (fun ls hl => ?_)
    refine x_aload_n C0 dX4_loudnessOfReels_32 rfl (lv_at hl 0 rfl) ?_
    refine x_ifnull (tgt := 48) C0 dX4_loudnessOfReels_33 (by decide) (fun zc8 => ?_) (fun zc8 => ?_)
    · have hf := ite_t hf zc8
      exact w4_loudnessOfReels_48 C0 hr hz fl zr4 zhr4 _ _ _ zx0 zx1 zx2 zv1 zt0 ezv1 tzv1 hw (lv_sub hl [1, 2, 3] rfl) hf
    · have hf := ite_f hf zc8
      refine lv_iload_n hx hb dX4_loudnessOfReels_36 rfl (lv_at hl 2 rfl) ?_
      refine lv_aload_n hx hb dX4_loudnessOfReels_37 rfl (lv_at hl 1 rfl) ?_
      refine lv_iload_n hx hb dX4_loudnessOfReels_38 rfl (lv_at hl 3 rfl) ?_
      refine x_aload_n C0 dX4_loudnessOfReels_39 rfl (lv_at hl 0 rfl) ?_
      obtain ⟨zb9, ezb9, hfzb9⟩ := nn_some hf
      have tzb9 : okA E G 7 zb9 := tzv6 _ ezb9
      subst ezb9
      have hf := hfzb9
      refine xg_7_1 C0 hw tzb9 wd279 dX4_loudnessOfReels_40 ?_
      obtain ⟨zv10, ze11, hf⟩ := nn_some hf
      refine x_ci (r := zv10) (I1 := I) (X1 := X) (x_runV (As := [.int zx2, .int (gF I 113 zb9)]) (rest := [.int zx1]) C0 (c4_heardOn l E G fl X I zx0 zx2 (gF I 113 zb9) zt0 ze11) hw 4 zt0 (by decide) rfl wd43 wd280 wd281 wd282 wd202 ⟨rfl, rfl⟩ hy4_heardOn ⟨Nat.le_of_ble_eq_true rfl, Nat.le_of_ble_eq_true rfl⟩ rfl hl.1 (Nat.le_of_ble_eq_true rfl) ⟨Nat.zero_le _, Nat.zero_le _⟩ dX4_loudnessOfReels_43) hw (fun H locs hw => ?_)
      refine lv_iadd hx hb dX4_loudnessOfReels_46 ?_
      refine lv_topi (fun zv12 ezv12 => ?_)
      have hf := lt_at hf ezv12
      refine lv_istore_n (lv' := [(1, .int zv12), (3, .ref zb9), (0, .ref zx0), (2, .int zx2)]) hx hb dX4_loudnessOfReels_47 rfl hl (by decide) rfl (fun ls hl => ?_)
      exact w4_loudnessOfReels_48 C0 hr hz fl zr4 zhr4 _ _ _ zx0 zv12 zx2 zv1 zt0 ezv1 tzv1 hw (lv_sub hl [2, 0, 3] rfl) hf
theorem w4_loudnessOfReels_4 {p : Program} {l : Launch} {e : Env} {s : State} {m : MethodId} {args : Array Value} {below : List Frame} {meth : Method} {c : Code} {E : EN} {G : GM} {X : Xm} {I : Im} (C0 : CX p s m args meth c E cX4_loudnessOfReels RX4 4) (hr : meth.sig.returnType = (some .int)) (hz : s.heap.size + 0 ≤ eB E + G.1) {rr : Int32} (fl : Nat) : ∀ (n : Nat) (H : Heap) (locs : List Loc) (ls : Array Slot) (zx0 : Nat) (zx1 : Int32) (zx2 : Int32) (zt0 : okA E G 4 zx0), WD E G I X s.heap H locs → lv_has ls 4 [(0, .ref zx0), (1, .int zx1), (2, .int zx2)] → m4_loudnessOfReels_4 fl G.2.2 X I n zx0 zx1 zx2 = some rr → W p l e ({ frames := 2, cells := 0, slots := 0, locals := 44 } : Room) s m args below meth c H locs 0 0 (MQ below (QI E G rr I X) args s 0 0 (eA E)) (F0 m 4 ls []) := by
  intro n
  induction n with
  | zero => intro H locs ls zx0 zx1 zx2 zt0 hw hl hf; exact absurd (show (none : Option (Int32)) = some rr from hf) (by simp)
  | succ n ih => intro H locs ls zx0 zx1 zx2 zt0 hw hl hf; exact w4_loudnessOfReels_4b C0 hr hz fl _ ih H locs ls zx0 zx1 zx2 zt0 hw hl hf
noncomputable def m4_loudnessOfReels (fl : Nat) (len : Nat → Nat) (X : Xm) (I : Im) (zx0 : Nat) : Option (Int32) :=
  m4_loudnessOfReels_4 fl len X I fl zx0 (0 : Int32) (0 : Int32)
theorem hy4_loudnessOfReels : yX4_loudnessOfReels.cls = RX4 ∧ yX4_loudnessOfReels.cls ≠ "java/lang/invoke/MethodHandle" ∧ yX4_loudnessOfReels.cls ≠ "java/lang/invoke/VarHandle" ∧ (parseMethodDescriptor yX4_loudnessOfReels.desc).map (fun d => d.parameters.length) = some 0 := ⟨rfl, by decide +kernel, by decide +kernel, by decide +kernel⟩
set_option maxHeartbeats 4000000 in
set_option maxRecDepth 100000 in
theorem c4_loudnessOfReels (l : Launch) (E : EN) (G : GM) (fl : Nat) (X : Xm) (I : Im) (zx0 : Nat) (zt0 : okA E G 4 zx0) {rr : Int32} (hf : m4_loudnessOfReels fl G.2.2 X I zx0 = some rr) : MT l yX4_loudnessOfReels cX4_loudnessOfReels 4 (some .int) ({ frames := 2, cells := 0, slots := 0, locals := 44 } : Room) E G I X [.ref zx0] (QI E G rr I X) 0 0 := by
  refine Met.ofW (cc := cX4_loudnessOfReels) (maxL := 4) (ret := (some .int)) (by decide +kernel) rfl ?_
  intro p e s m args below meth c s₁ B hml hv
  obtain ⟨rfl, hw0, hSE⟩ := hv
  have C0 : CX p s m ([.ref zx0] : List Value).toArray meth c E cX4_loudnessOfReels RX4 4 := ⟨B.exec, B.bytes, hml, findClass_of_methodNamed B.named, fun w hw => atoms_spec (ws := WS yX4_loudnessOfReels cX4_loudnessOfReels 4 (some .int)) B.pre w (List.mem_cons_of_mem _ hw), B.notSynchronized, hSE⟩
  have hz : s.heap.size + 0 ≤ eB E + G.1 := Nat.le_of_eq hw0.2.1
  have hw : WD E G I X s.heap s.heap [] := ⟨hw0, va_S.rf⟩
  have hr := B.returns
  have hx := C0.1; have hb := C0.2.1; have hml := C0.2.2.1; have hown := C0.2.2.2.1; have hts := C0.2.2.2.2.1
  have hl := lv_entry ([.ref zx0]) (n := 4) (Nat.le_of_ble_eq_true rfl)
  rw [lg_entry_eq]
  generalize (lg_sl ([.ref zx0]) ++ List.replicate (4 - (lg_sl ([.ref zx0])).length) Slot.unset).toArray = ls at hl ⊢
  have hl : lv_has ls 4 [(0, .ref zx0)] := hl
  unfold m4_loudnessOfReels at hf
  refine lv_iconst (v := (0 : Int32)) hx hb dX4_loudnessOfReels_0 (by decide) ?_
  refine lv_istore_n (lv' := [(1, .int (0 : Int32)), (0, .ref zx0)]) hx hb dX4_loudnessOfReels_1 rfl hl (by decide) rfl (fun ls hl => ?_)
  refine lv_iconst (v := (0 : Int32)) hx hb dX4_loudnessOfReels_2 (by decide) ?_
  refine lv_istore_n (lv' := [(2, .int (0 : Int32)), (1, .int (0 : Int32)), (0, .ref zx0)]) hx hb dX4_loudnessOfReels_3 rfl hl (by decide) rfl (fun ls hl => ?_)
  exact w4_loudnessOfReels_4 C0 hr hz fl fl _ _ _ zx0 (0 : Int32) (0 : Int32) zt0 hw (lv_sub hl [2, 1, 0] rfl) hf
noncomputable def m4_loudnessOfDoors_52 (fl : Nat) (len : Nat → Nat) (X : Xm) (I : Im) (zx1 : Int32) : Option (Int32) :=
  some (zx1)
set_option maxHeartbeats 4000000 in
set_option maxRecDepth 100000 in
theorem w4_loudnessOfDoors_52 {p : Program} {l : Launch} {e : Env} {s : State} {m : MethodId} {args : Array Value} {below : List Frame} {meth : Method} {c : Code} {E : EN} {G : GM} {X : Xm} {I : Im} (C0 : CX p s m args meth c E cX4_loudnessOfDoors RX4 3) (hr : meth.sig.returnType = (some .int)) (hz : s.heap.size + 0 ≤ eB E + G.1) {rr : Int32} (fl : Nat) : ∀ (H : Heap) (locs : List Loc) (ls : Array Slot) (zx1 : Int32) , WD E G I X s.heap H locs → lv_has ls 3 [(1, .int zx1)] → m4_loudnessOfDoors_52 fl G.2.2 X I zx1 = some rr → W p l e ({ frames := 2, cells := 0, slots := 0, locals := 44 } : Room) s m args below meth c H locs 0 0 (MQ below (QI E G rr I X) args s 0 0 (eA E)) (F0 m 52 ls []) := by
  intro H locs ls zx1 hw hl hf
  unfold m4_loudnessOfDoors_52 at hf
  have hx := C0.1; have hb := C0.2.1; have hml := C0.2.2.1; have hown := C0.2.2.2.1; have hts := C0.2.2.2.2.1
  refine lv_iload_n hx hb dX4_loudnessOfDoors_52 rfl (lv_at hl 0 rfl) ?_
  obtain rfl := Option.some.inj hf
  exact x_iret C0 hr hw dX4_loudnessOfDoors_53
noncomputable def m4_loudnessOfDoors_4b (fl : Nat) (len : Nat → Nat) (X : Xm) (I : Im) (zr4 : Nat → Int32 → Int32 → Option (Int32)) (zx0 : Nat) (zx1 : Int32) (zx2 : Int32) : Option (Int32) :=
  nn (gR X 68 zx0) fun zv1 =>
  if (gF I 35 zv1) ≤ zx2 then
    m4_loudnessOfDoors_52 fl len X I zx1
  else
    if (24 : Int32) ≤ zx2 then
      m4_loudnessOfDoors_52 fl len X I zx1
    else
      nn (gR X 32 zv1) fun zv4 =>
      ck (inb zx2 (len zv4) = true) <|
      nn (gR X 33 zv1) fun zv6 =>
      ck (inb zx2 (len zv6) = true) <|
      nn (m4_heardOn fl len X I zx0 (gA I zv4 (zx2).toNatClampNeg) (gA I zv6 (zx2).toNatClampNeg)) fun zv8 =>
      lt ((zx1 + zv8)) fun zv10 =>
      lt (zx2 + 1) fun zv11 =>
      zr4 zx0 zv10 zv11
noncomputable def m4_loudnessOfDoors_4 (fl : Nat) (len : Nat → Nat) (X : Xm) (I : Im) (n : Nat) : Nat → Int32 → Int32 → Option (Int32) :=
  Nat.rec (fun _ _ _ => none) (fun _ r => m4_loudnessOfDoors_4b fl len X I r) n
set_option maxHeartbeats 4000000 in
set_option maxRecDepth 100000 in
theorem w4_loudnessOfDoors_4b {p : Program} {l : Launch} {e : Env} {s : State} {m : MethodId} {args : Array Value} {below : List Frame} {meth : Method} {c : Code} {E : EN} {G : GM} {X : Xm} {I : Im} (C0 : CX p s m args meth c E cX4_loudnessOfDoors RX4 3) (hr : meth.sig.returnType = (some .int)) (hz : s.heap.size + 0 ≤ eB E + G.1) {rr : Int32} (fl : Nat) (zr4 : Nat → Int32 → Int32 → Option (Int32)) (zhr4 : ∀ (H : Heap) (locs : List Loc) (ls : Array Slot) (zx0 : Nat) (zx1 : Int32) (zx2 : Int32) (zt0 : okA E G 4 zx0), WD E G I X s.heap H locs → lv_has ls 3 [(0, .ref zx0), (1, .int zx1), (2, .int zx2)] → zr4 zx0 zx1 zx2 = some rr → W p l e ({ frames := 2, cells := 0, slots := 0, locals := 44 } : Room) s m args below meth c H locs 0 0 (MQ below (QI E G rr I X) args s 0 0 (eA E)) (F0 m 4 ls [])) : ∀ (H : Heap) (locs : List Loc) (ls : Array Slot) (zx0 : Nat) (zx1 : Int32) (zx2 : Int32) (zt0 : okA E G 4 zx0), WD E G I X s.heap H locs → lv_has ls 3 [(0, .ref zx0), (1, .int zx1), (2, .int zx2)] → m4_loudnessOfDoors_4b fl G.2.2 X I zr4 zx0 zx1 zx2 = some rr → W p l e ({ frames := 2, cells := 0, slots := 0, locals := 44 } : Room) s m args below meth c H locs 0 0 (MQ below (QI E G rr I X) args s 0 0 (eA E)) (F0 m 4 ls []) := by
  intro H locs ls zx0 zx1 zx2 zt0 hw hl hf
  unfold m4_loudnessOfDoors_4b at hf
  have hx := C0.1; have hb := C0.2.1; have hml := C0.2.2.1; have hown := C0.2.2.2.1; have hts := C0.2.2.2.2.1
  refine lv_iload_n hx hb dX4_loudnessOfDoors_4 rfl (lv_at hl 2 rfl) ?_
  refine lv_aload_n hx hb dX4_loudnessOfDoors_5 rfl (lv_at hl 0 rfl) ?_
  obtain ⟨zv1, ezv1, hf⟩ := nn_some hf
  have tzv1 : okA E G 2 zv1 := wt_r hw ezv1
  refine xg_4_4 C0 hw zt0 wd155 ezv1 dX4_loudnessOfDoors_6 ?_
  refine xg_2_3 C0 hw tzv1 wd249 dX4_loudnessOfDoors_9 ?_
  refine lv_icmp_ge (tgt := 52) hx hb dX4_loudnessOfDoors_12 (by decide) (fun zc2 => ?_) (fun zc2 => ?_)
  · have hf := ite_t hf zc2
    exact w4_loudnessOfDoors_52 C0 hr hz fl _ _ _ zx1 hw (lv_sub hl [1] rfl) hf
  · have hf := ite_f hf zc2
    refine lv_iload_n hx hb dX4_loudnessOfDoors_15 rfl (lv_at hl 2 rfl) ?_
    refine lv_bipush (v := (24 : Int32)) hx hb dX4_loudnessOfDoors_16 (by decide) ?_
    refine lv_icmp_ge (tgt := 52) hx hb dX4_loudnessOfDoors_18 (by decide) (fun zc3 => ?_) (fun zc3 => ?_)
    · have hf := ite_t hf zc3
      exact w4_loudnessOfDoors_52 C0 hr hz fl _ _ _ zx1 hw (lv_sub hl [1] rfl) hf
    · have hf := ite_f hf zc3
      refine lv_iload_n hx hb dX4_loudnessOfDoors_21 rfl (lv_at hl 1 rfl) ?_
      refine lv_aload_n hx hb dX4_loudnessOfDoors_22 rfl (lv_at hl 0 rfl) ?_
      refine lv_aload_n hx hb dX4_loudnessOfDoors_23 rfl (lv_at hl 0 rfl) ?_
      refine xg_4_4 C0 hw zt0 wd155 ezv1 dX4_loudnessOfDoors_24 ?_
      obtain ⟨zv4, ezv4, hf⟩ := nn_some hf
      have tzv4 : okA E G 11 zv4 := wt_r hw ezv4
      refine xg_2_0 C0 hw tzv1 wd283 ezv4 dX4_loudnessOfDoors_27 ?_
      refine lv_iload_n hx hb dX4_loudnessOfDoors_30 rfl (lv_at hl 2 rfl) ?_
      obtain ⟨zhb5, hf⟩ := ck_some hf
      refine x_iald C0 hw tzv4 zhb5 dX4_loudnessOfDoors_31 ?_
      refine lv_aload_n hx hb dX4_loudnessOfDoors_32 rfl (lv_at hl 0 rfl) ?_
      refine xg_4_4 C0 hw zt0 wd155 ezv1 dX4_loudnessOfDoors_33 ?_
      obtain ⟨zv6, ezv6, hf⟩ := nn_some hf
      have tzv6 : okA E G 11 zv6 := wt_r hw ezv6
      refine xg_2_1 C0 hw tzv1 wd284 ezv6 dX4_loudnessOfDoors_36 ?_
      refine lv_iload_n hx hb dX4_loudnessOfDoors_39 rfl (lv_at hl 2 rfl) ?_
      obtain ⟨zhb7, hf⟩ := ck_some hf
      refine x_iald C0 hw tzv6 zhb7 dX4_loudnessOfDoors_40 ?_
      obtain ⟨zv8, ze9, hf⟩ := nn_some hf
      refine x_ci (r := zv8) (I1 := I) (X1 := X) (x_runV (As := [.int (gA I zv4 (zx2).toNatClampNeg), .int (gA I zv6 (zx2).toNatClampNeg)]) (rest := [.int zx1]) C0 (c4_heardOn l E G fl X I zx0 (gA I zv4 (zx2).toNatClampNeg) (gA I zv6 (zx2).toNatClampNeg) zt0 ze9) hw 4 zt0 (by decide) rfl wd43 wd280 wd281 wd282 wd202 ⟨rfl, rfl⟩ hy4_heardOn ⟨Nat.le_of_ble_eq_true rfl, Nat.le_of_ble_eq_true rfl⟩ rfl hl.1 (Nat.le_of_ble_eq_true rfl) ⟨Nat.zero_le _, Nat.zero_le _⟩ dX4_loudnessOfDoors_41) hw (fun H locs hw => ?_)
      refine lv_iadd hx hb dX4_loudnessOfDoors_44 ?_
      refine lv_topi (fun zv10 ezv10 => ?_)
      have hf := lt_at hf ezv10
      refine lv_istore_n (lv' := [(1, .int zv10), (0, .ref zx0), (2, .int zx2)]) hx hb dX4_loudnessOfDoors_45 rfl hl (by decide) rfl (fun ls hl => ?_)
      obtain ⟨zv11, ezv11⟩ : ∃ y : Int32, y = zx2 + 1 := ⟨_, rfl⟩
      have hf := lt_at hf ezv11
      refine lv_iinc (v := zv11) (lv' := [(2, .int zv11), (1, .int zv10), (0, .ref zx0)]) hx hb dX4_loudnessOfDoors_46 hl (k := 2) rfl (by rw [ezv11]; rfl) (by decide) rfl (fun ls hl => ?_)
      refine lv_goto (tgt := 4) hx hb dX4_loudnessOfDoors_49 (by decide) ?_
      exact zhr4 _ _ _ zx0 zv10 zv11 zt0 hw (lv_sub hl [2, 1, 0] rfl) hf
theorem w4_loudnessOfDoors_4 {p : Program} {l : Launch} {e : Env} {s : State} {m : MethodId} {args : Array Value} {below : List Frame} {meth : Method} {c : Code} {E : EN} {G : GM} {X : Xm} {I : Im} (C0 : CX p s m args meth c E cX4_loudnessOfDoors RX4 3) (hr : meth.sig.returnType = (some .int)) (hz : s.heap.size + 0 ≤ eB E + G.1) {rr : Int32} (fl : Nat) : ∀ (n : Nat) (H : Heap) (locs : List Loc) (ls : Array Slot) (zx0 : Nat) (zx1 : Int32) (zx2 : Int32) (zt0 : okA E G 4 zx0), WD E G I X s.heap H locs → lv_has ls 3 [(0, .ref zx0), (1, .int zx1), (2, .int zx2)] → m4_loudnessOfDoors_4 fl G.2.2 X I n zx0 zx1 zx2 = some rr → W p l e ({ frames := 2, cells := 0, slots := 0, locals := 44 } : Room) s m args below meth c H locs 0 0 (MQ below (QI E G rr I X) args s 0 0 (eA E)) (F0 m 4 ls []) := by
  intro n
  induction n with
  | zero => intro H locs ls zx0 zx1 zx2 zt0 hw hl hf; exact absurd (show (none : Option (Int32)) = some rr from hf) (by simp)
  | succ n ih => intro H locs ls zx0 zx1 zx2 zt0 hw hl hf; exact w4_loudnessOfDoors_4b C0 hr hz fl _ ih H locs ls zx0 zx1 zx2 zt0 hw hl hf
noncomputable def m4_loudnessOfDoors (fl : Nat) (len : Nat → Nat) (X : Xm) (I : Im) (zx0 : Nat) : Option (Int32) :=
  m4_loudnessOfDoors_4 fl len X I fl zx0 (0 : Int32) (0 : Int32)
theorem hy4_loudnessOfDoors : yX4_loudnessOfDoors.cls = RX4 ∧ yX4_loudnessOfDoors.cls ≠ "java/lang/invoke/MethodHandle" ∧ yX4_loudnessOfDoors.cls ≠ "java/lang/invoke/VarHandle" ∧ (parseMethodDescriptor yX4_loudnessOfDoors.desc).map (fun d => d.parameters.length) = some 0 := ⟨rfl, by decide +kernel, by decide +kernel, by decide +kernel⟩
set_option maxHeartbeats 4000000 in
set_option maxRecDepth 100000 in
theorem c4_loudnessOfDoors (l : Launch) (E : EN) (G : GM) (fl : Nat) (X : Xm) (I : Im) (zx0 : Nat) (zt0 : okA E G 4 zx0) {rr : Int32} (hf : m4_loudnessOfDoors fl G.2.2 X I zx0 = some rr) : MT l yX4_loudnessOfDoors cX4_loudnessOfDoors 3 (some .int) ({ frames := 2, cells := 0, slots := 0, locals := 44 } : Room) E G I X [.ref zx0] (QI E G rr I X) 0 0 := by
  refine Met.ofW (cc := cX4_loudnessOfDoors) (maxL := 3) (ret := (some .int)) (by decide +kernel) rfl ?_
  intro p e s m args below meth c s₁ B hml hv
  obtain ⟨rfl, hw0, hSE⟩ := hv
  have C0 : CX p s m ([.ref zx0] : List Value).toArray meth c E cX4_loudnessOfDoors RX4 3 := ⟨B.exec, B.bytes, hml, findClass_of_methodNamed B.named, fun w hw => atoms_spec (ws := WS yX4_loudnessOfDoors cX4_loudnessOfDoors 3 (some .int)) B.pre w (List.mem_cons_of_mem _ hw), B.notSynchronized, hSE⟩
  have hz : s.heap.size + 0 ≤ eB E + G.1 := Nat.le_of_eq hw0.2.1
  have hw : WD E G I X s.heap s.heap [] := ⟨hw0, va_S.rf⟩
  have hr := B.returns
  have hx := C0.1; have hb := C0.2.1; have hml := C0.2.2.1; have hown := C0.2.2.2.1; have hts := C0.2.2.2.2.1
  have hl := lv_entry ([.ref zx0]) (n := 3) (Nat.le_of_ble_eq_true rfl)
  rw [lg_entry_eq]
  generalize (lg_sl ([.ref zx0]) ++ List.replicate (3 - (lg_sl ([.ref zx0])).length) Slot.unset).toArray = ls at hl ⊢
  have hl : lv_has ls 3 [(0, .ref zx0)] := hl
  unfold m4_loudnessOfDoors at hf
  refine lv_iconst (v := (0 : Int32)) hx hb dX4_loudnessOfDoors_0 (by decide) ?_
  refine lv_istore_n (lv' := [(1, .int (0 : Int32)), (0, .ref zx0)]) hx hb dX4_loudnessOfDoors_1 rfl hl (by decide) rfl (fun ls hl => ?_)
  refine lv_iconst (v := (0 : Int32)) hx hb dX4_loudnessOfDoors_2 (by decide) ?_
  refine lv_istore_n (lv' := [(2, .int (0 : Int32)), (1, .int (0 : Int32)), (0, .ref zx0)]) hx hb dX4_loudnessOfDoors_3 rfl hl (by decide) rfl (fun ls hl => ?_)
  exact w4_loudnessOfDoors_4 C0 hr hz fl fl _ _ _ zx0 (0 : Int32) (0 : Int32) zt0 hw (lv_sub hl [2, 1, 0] rfl) hf
noncomputable def m5_playSecond_43 (fl : Nat) (len : Nat → Nat) (X : Xm) (I : Im) : Option (Im) :=
  some (I)
set_option maxHeartbeats 4000000 in
set_option maxRecDepth 100000 in
theorem w5_playSecond_43 {p : Program} {l : Launch} {e : Env} {s : State} {m : MethodId} {args : Array Value} {below : List Frame} {meth : Method} {c : Code} {E : EN} {G : GM} {X : Xm} (C0 : CX p s m args meth c E cX5_playSecond RX5 1) (hr : meth.sig.returnType = none) (hz : s.heap.size + 0 ≤ eB E + G.1) {rr : Im} (fl : Nat) : ∀ (I : Im) (H : Heap) (locs : List Loc) (ls : Array Slot) , WD E G I X s.heap H locs → lv_has ls 1 [] → m5_playSecond_43 fl G.2.2 X I = some rr → W p l e ({ frames := 0, cells := 0, slots := 0, locals := 0 } : Room) s m args below meth c H locs 0 0 (MQ below (QV E G rr X) args s 0 0 (eA E)) (F0 m 43 ls []) := by
  intro I H locs ls hw hl hf
  unfold m5_playSecond_43 at hf
  have hx := C0.1; have hb := C0.2.1; have hml := C0.2.2.1; have hown := C0.2.2.2.1; have hts := C0.2.2.2.2.1
  obtain rfl := Option.some.inj hf
  exact x_vret C0 hr hw dX5_playSecond_43
noncomputable def m5_playSecond (fl : Nat) (len : Nat → Nat) (X : Xm) (I : Im) (zx0 : Nat) : Option (Im) :=
  if (gF I 83 zx0) = (-6 : Int32) then
    some (I)
  else
    lt (pF I 82 zx0 ((gF I 82 zx0) + (1 : Int32))) fun zI2 =>
    lt (pF zI2 84 zx0 ((gF zI2 84 zx0) - (1 : Int32))) fun zI3 =>
    if 0 < (gF zI3 84 zx0) then
      m5_playSecond_43 fl len X zI3
    else
      lt (pF zI3 83 zx0 (-6 : Int32)) fun zI5 =>
      m5_playSecond_43 fl len X zI5
theorem hy5_playSecond : yX5_playSecond.cls = RX5 ∧ yX5_playSecond.cls ≠ "java/lang/invoke/MethodHandle" ∧ yX5_playSecond.cls ≠ "java/lang/invoke/VarHandle" ∧ (parseMethodDescriptor yX5_playSecond.desc).map (fun d => d.parameters.length) = some 0 := ⟨rfl, by decide +kernel, by decide +kernel, by decide +kernel⟩
set_option maxHeartbeats 4000000 in
set_option maxRecDepth 100000 in
theorem c5_playSecond (l : Launch) (E : EN) (G : GM) (fl : Nat) (X : Xm) (I : Im) (zx0 : Nat) (zt0 : okA E G 5 zx0) {rr : Im} (hf : m5_playSecond fl G.2.2 X I zx0 = some rr) : MT l yX5_playSecond cX5_playSecond 1 none ({ frames := 0, cells := 0, slots := 0, locals := 0 } : Room) E G I X [.ref zx0] (QV E G rr X) 0 0 := by
  refine Met.ofW (cc := cX5_playSecond) (maxL := 1) (ret := none) (by decide +kernel) rfl ?_
  intro p e s m args below meth c s₁ B hml hv
  obtain ⟨rfl, hw0, hSE⟩ := hv
  have C0 : CX p s m ([.ref zx0] : List Value).toArray meth c E cX5_playSecond RX5 1 := ⟨B.exec, B.bytes, hml, findClass_of_methodNamed B.named, fun w hw => atoms_spec (ws := WS yX5_playSecond cX5_playSecond 1 none) B.pre w (List.mem_cons_of_mem _ hw), B.notSynchronized, hSE⟩
  have hz : s.heap.size + 0 ≤ eB E + G.1 := Nat.le_of_eq hw0.2.1
  have hw : WD E G I X s.heap s.heap [] := ⟨hw0, va_S.rf⟩
  have hr := B.returns
  have hx := C0.1; have hb := C0.2.1; have hml := C0.2.2.1; have hown := C0.2.2.2.1; have hts := C0.2.2.2.2.1
  have hl := lv_entry ([.ref zx0]) (n := 1) (Nat.le_of_ble_eq_true rfl)
  rw [lg_entry_eq]
  generalize (lg_sl ([.ref zx0]) ++ List.replicate (1 - (lg_sl ([.ref zx0])).length) Slot.unset).toArray = ls at hl ⊢
  have hl : lv_has ls 1 [(0, .ref zx0)] := hl
  unfold m5_playSecond at hf
  refine lv_aload_n hx hb dX5_playSecond_0 rfl (lv_at hl 0 rfl) ?_
  refine xg_5_3 C0 hw zt0 wd138 dX5_playSecond_1 ?_
  refine lv_bipush (v := (-6 : Int32)) hx hb dX5_playSecond_4 (by decide) ?_
  refine lv_icmp_ne (tgt := 10) hx hb dX5_playSecond_6 (by decide) (fun zc1 => ?_) (fun zc1 => ?_)
  · have hf := ite_f hf zc1
    refine lv_aload_n hx hb dX5_playSecond_10 rfl (lv_at hl 0 rfl) ?_
    refine lv_dup hx hb dX5_playSecond_11 rfl ?_
    refine xg_5_2 C0 hw zt0 wd178 dX5_playSecond_12 ?_
    refine lv_iconst (v := (1 : Int32)) hx hb dX5_playSecond_15 (by decide) ?_
    refine lv_iadd hx hb dX5_playSecond_16 ?_
    obtain ⟨zI2, ezI2⟩ : ∃ y : Im, y = pF I 82 zx0 ((gF I 82 zx0) + (1 : Int32)) := ⟨_, rfl⟩
    have hf := lt_at hf ezI2
    refine xp_5_2 C0 hz hw zt0 rfl rfl wd178 dX5_playSecond_17 ezI2 (fun H locs hw => ?_)
    refine lv_aload_n hx hb dX5_playSecond_20 rfl (lv_at hl 0 rfl) ?_
    refine lv_dup hx hb dX5_playSecond_21 rfl ?_
    refine xg_5_4 C0 hw zt0 wd179 dX5_playSecond_22 ?_
    refine lv_iconst (v := (1 : Int32)) hx hb dX5_playSecond_25 (by decide) ?_
    refine lv_isub hx hb dX5_playSecond_26 ?_
    obtain ⟨zI3, ezI3⟩ : ∃ y : Im, y = pF zI2 84 zx0 ((gF zI2 84 zx0) - (1 : Int32)) := ⟨_, rfl⟩
    have hf := lt_at hf ezI3
    refine xp_5_4 C0 hz hw zt0 rfl rfl wd179 dX5_playSecond_27 ezI3 (fun H locs hw => ?_)
    refine lv_aload_n hx hb dX5_playSecond_30 rfl (lv_at hl 0 rfl) ?_
    refine xg_5_4 C0 hw zt0 wd179 dX5_playSecond_31 ?_
    refine lv_if_gt (tgt := 43) hx hb dX5_playSecond_34 (by decide) (fun zc4 => ?_) (fun zc4 => ?_)
    · have hf := ite_t hf zc4
      exact w5_playSecond_43 C0 hr hz fl zI3 _ _ _ hw (lv_sub hl [] rfl) hf
    · have hf := ite_f hf zc4
      refine lv_aload_n hx hb dX5_playSecond_37 rfl (lv_at hl 0 rfl) ?_
      refine lv_bipush (v := (-6 : Int32)) hx hb dX5_playSecond_38 (by decide) ?_
      obtain ⟨zI5, ezI5⟩ : ∃ y : Im, y = pF zI3 83 zx0 (-6 : Int32) := ⟨_, rfl⟩
      have hf := lt_at hf ezI5
      refine xp_5_3 C0 hz hw zt0 rfl rfl wd138 dX5_playSecond_40 ezI5 (fun H locs hw => ?_)
      exact w5_playSecond_43 C0 hr hz fl zI5 _ _ _ hw (lv_sub hl [] rfl) hf
  · have hf := ite_t hf zc1
    obtain rfl := Option.some.inj hf
    exact x_vret C0 hr hw dX5_playSecond_9
noncomputable def m2_hearSecond_75 (fl : Nat) (len : Nat → Nat) (X : Xm) (I : Im) (zx0 : Nat) (zx1 : Int32) : Option (Im) :=
  lt (pF I 35 zx0 zx1) fun zI1 =>
  some (zI1)
set_option maxHeartbeats 4000000 in
set_option maxRecDepth 100000 in
theorem w2_hearSecond_75 {p : Program} {l : Launch} {e : Env} {s : State} {m : MethodId} {args : Array Value} {below : List Frame} {meth : Method} {c : Code} {E : EN} {G : GM} {X : Xm} (C0 : CX p s m args meth c E cX2_hearSecond RX2 3) (hr : meth.sig.returnType = none) (hz : s.heap.size + 0 ≤ eB E + G.1) {rr : Im} (fl : Nat) : ∀ (I : Im) (H : Heap) (locs : List Loc) (ls : Array Slot) (zx0 : Nat) (zx1 : Int32) (zt0 : okA E G 2 zx0), WD E G I X s.heap H locs → lv_has ls 3 [(0, .ref zx0), (1, .int zx1)] → m2_hearSecond_75 fl G.2.2 X I zx0 zx1 = some rr → W p l e ({ frames := 0, cells := 0, slots := 0, locals := 0 } : Room) s m args below meth c H locs 0 0 (MQ below (QV E G rr X) args s 0 0 (eA E)) (F0 m 75 ls []) := by
  intro I H locs ls zx0 zx1 zt0 hw hl hf
  unfold m2_hearSecond_75 at hf
  have hx := C0.1; have hb := C0.2.1; have hml := C0.2.2.1; have hown := C0.2.2.2.1; have hts := C0.2.2.2.2.1
  refine lv_aload_n hx hb dX2_hearSecond_75 rfl (lv_at hl 0 rfl) ?_
  refine lv_iload_n hx hb dX2_hearSecond_76 rfl (lv_at hl 1 rfl) ?_
  obtain ⟨zI1, ezI1⟩ : ∃ y : Im, y = pF I 35 zx0 zx1 := ⟨_, rfl⟩
  have hf := lt_at hf ezI1
  refine xp_2_3 C0 hz hw zt0 rfl rfl wd119 dX2_hearSecond_77 ezI1 (fun H locs hw => ?_)
  obtain rfl := Option.some.inj hf
  exact x_vret C0 hr hw dX2_hearSecond_80
noncomputable def m2_hearSecond_69 (fl : Nat) (len : Nat → Nat) (X : Xm) (zr4 : Im → Nat → Int32 → Int32 → Option (Im)) (I : Im) (zx0 : Nat) (zx1 : Int32) (zx2 : Int32) (p_34 : Nat) : Option (Im) :=
  lt (zx2 + 1) fun zv1 =>
  zr4 I zx0 zx1 zv1
set_option maxHeartbeats 4000000 in
set_option maxRecDepth 100000 in
theorem w2_hearSecond_69 {p : Program} {l : Launch} {e : Env} {s : State} {m : MethodId} {args : Array Value} {below : List Frame} {meth : Method} {c : Code} {E : EN} {G : GM} {X : Xm} (C0 : CX p s m args meth c E cX2_hearSecond RX2 3) (hr : meth.sig.returnType = none) (hz : s.heap.size + 0 ≤ eB E + G.1) {rr : Im} (fl : Nat) (zr4 : Im → Nat → Int32 → Int32 → Option (Im)) (zhr4 : ∀ (I : Im) (H : Heap) (locs : List Loc) (ls : Array Slot) (zx0 : Nat) (zx1 : Int32) (zx2 : Int32) (zt0 : okA E G 2 zx0), WD E G I X s.heap H locs → lv_has ls 3 [(0, .ref zx0), (1, .int zx1), (2, .int zx2)] → zr4 I zx0 zx1 zx2 = some rr → W p l e ({ frames := 0, cells := 0, slots := 0, locals := 0 } : Room) s m args below meth c H locs 0 0 (MQ below (QV E G rr X) args s 0 0 (eA E)) (F0 m 4 ls [])) : ∀ (I : Im) (H : Heap) (locs : List Loc) (ls : Array Slot) (zx0 : Nat) (zx1 : Int32) (zx2 : Int32) (p_34 : Nat) (zt0 : okA E G 2 zx0) (ep_34 : gR X 34 zx0 = some p_34) (tp_34 : okA E G 11 p_34), WD E G I X s.heap H locs → lv_has ls 3 [(0, .ref zx0), (1, .int zx1), (2, .int zx2)] → m2_hearSecond_69 fl G.2.2 X zr4 I zx0 zx1 zx2 p_34 = some rr → W p l e ({ frames := 0, cells := 0, slots := 0, locals := 0 } : Room) s m args below meth c H locs 0 0 (MQ below (QV E G rr X) args s 0 0 (eA E)) (F0 m 69 ls []) := by
  intro I H locs ls zx0 zx1 zx2 p_34 zt0 ep_34 tp_34 hw hl hf
  unfold m2_hearSecond_69 at hf
  have hx := C0.1; have hb := C0.2.1; have hml := C0.2.2.1; have hown := C0.2.2.2.1; have hts := C0.2.2.2.2.1
  obtain ⟨zv1, ezv1⟩ : ∃ y : Int32, y = zx2 + 1 := ⟨_, rfl⟩
  have hf := lt_at hf ezv1
  refine lv_iinc (v := zv1) (lv' := [(2, .int zv1), (0, .ref zx0), (1, .int zx1)]) hx hb dX2_hearSecond_69 hl (k := 2) rfl (by rw [ezv1]; rfl) (by decide) rfl (fun ls hl => ?_)
  refine lv_goto (tgt := 4) hx hb dX2_hearSecond_72 (by decide) ?_
  exact zhr4 I _ _ _ zx0 zx1 zv1 zt0 hw (lv_sub hl [1, 2, 0] rfl) hf
noncomputable def m2_hearSecond_4b (fl : Nat) (len : Nat → Nat) (X : Xm) (zr4 : Im → Nat → Int32 → Int32 → Option (Im)) (I : Im) (zx0 : Nat) (zx1 : Int32) (zx2 : Int32) : Option (Im) :=
  if (gF I 35 zx0) ≤ zx2 then
    m2_hearSecond_75 fl len X I zx0 zx1
  else
    if (24 : Int32) ≤ zx2 then
      m2_hearSecond_75 fl len X I zx0 zx1
    else
      nn (gR X 34 zx0) fun zv3 =>
      ck (inb zx2 (len zv3) = true) <|
      if (gA I zv3 (zx2).toNatClampNeg) ≤ (1 : Int32) then
        m2_hearSecond_69 fl len X zr4 I zx0 zx1 zx2 zv3
      else
        nn (gR X 32 zx0) fun zv6 =>
        ck (inb zx2 (len zv6) = true) <|
        ck (inb zx1 (len zv6) = true) <|
        lt (pA I zv6 (zx1).toNatClampNeg (gA I zv6 (zx2).toNatClampNeg)) fun zI9 =>
        nn (gR X 33 zx0) fun zv10 =>
        ck (inb zx2 (len zv10) = true) <|
        ck (inb zx1 (len zv10) = true) <|
        lt (pA zI9 zv10 (zx1).toNatClampNeg (gA zI9 zv10 (zx2).toNatClampNeg)) fun zI13 =>
        ck (inb zx1 (len zv3) = true) <|
        lt (pA zI13 zv3 (zx1).toNatClampNeg ((gA zI13 zv3 (zx2).toNatClampNeg) - (1 : Int32))) fun zI15 =>
        lt (zx1 + 1) fun zv16 =>
        m2_hearSecond_69 fl len X zr4 zI15 zx0 zv16 zx2 zv3
noncomputable def m2_hearSecond_4 (fl : Nat) (len : Nat → Nat) (X : Xm) (n : Nat) : Im → Nat → Int32 → Int32 → Option (Im) :=
  Nat.rec (fun _ _ _ _ => none) (fun _ r => m2_hearSecond_4b fl len X r) n
set_option maxHeartbeats 4000000 in
set_option maxRecDepth 100000 in
theorem w2_hearSecond_4b {p : Program} {l : Launch} {e : Env} {s : State} {m : MethodId} {args : Array Value} {below : List Frame} {meth : Method} {c : Code} {E : EN} {G : GM} {X : Xm} (C0 : CX p s m args meth c E cX2_hearSecond RX2 3) (hr : meth.sig.returnType = none) (hz : s.heap.size + 0 ≤ eB E + G.1) {rr : Im} (fl : Nat) (zr4 : Im → Nat → Int32 → Int32 → Option (Im)) (zhr4 : ∀ (I : Im) (H : Heap) (locs : List Loc) (ls : Array Slot) (zx0 : Nat) (zx1 : Int32) (zx2 : Int32) (zt0 : okA E G 2 zx0), WD E G I X s.heap H locs → lv_has ls 3 [(0, .ref zx0), (1, .int zx1), (2, .int zx2)] → zr4 I zx0 zx1 zx2 = some rr → W p l e ({ frames := 0, cells := 0, slots := 0, locals := 0 } : Room) s m args below meth c H locs 0 0 (MQ below (QV E G rr X) args s 0 0 (eA E)) (F0 m 4 ls [])) : ∀ (I : Im) (H : Heap) (locs : List Loc) (ls : Array Slot) (zx0 : Nat) (zx1 : Int32) (zx2 : Int32) (zt0 : okA E G 2 zx0), WD E G I X s.heap H locs → lv_has ls 3 [(0, .ref zx0), (1, .int zx1), (2, .int zx2)] → m2_hearSecond_4b fl G.2.2 X zr4 I zx0 zx1 zx2 = some rr → W p l e ({ frames := 0, cells := 0, slots := 0, locals := 0 } : Room) s m args below meth c H locs 0 0 (MQ below (QV E G rr X) args s 0 0 (eA E)) (F0 m 4 ls []) := by
  intro I H locs ls zx0 zx1 zx2 zt0 hw hl hf
  unfold m2_hearSecond_4b at hf
  have hx := C0.1; have hb := C0.2.1; have hml := C0.2.2.1; have hown := C0.2.2.2.1; have hts := C0.2.2.2.2.1
  refine lv_iload_n hx hb dX2_hearSecond_4 rfl (lv_at hl 2 rfl) ?_
  refine lv_aload_n hx hb dX2_hearSecond_5 rfl (lv_at hl 0 rfl) ?_
  refine xg_2_3 C0 hw zt0 wd119 dX2_hearSecond_6 ?_
  refine lv_icmp_ge (tgt := 75) hx hb dX2_hearSecond_9 (by decide) (fun zc1 => ?_) (fun zc1 => ?_)
  · have hf := ite_t hf zc1
    exact w2_hearSecond_75 C0 hr hz fl I _ _ _ zx0 zx1 zt0 hw (lv_sub hl [0, 1] rfl) hf
  · have hf := ite_f hf zc1
    refine lv_iload_n hx hb dX2_hearSecond_12 rfl (lv_at hl 2 rfl) ?_
    refine lv_bipush (v := (24 : Int32)) hx hb dX2_hearSecond_13 (by decide) ?_
    refine lv_icmp_ge (tgt := 75) hx hb dX2_hearSecond_15 (by decide) (fun zc2 => ?_) (fun zc2 => ?_)
    · have hf := ite_t hf zc2
      exact w2_hearSecond_75 C0 hr hz fl I _ _ _ zx0 zx1 zt0 hw (lv_sub hl [0, 1] rfl) hf
    · have hf := ite_f hf zc2
      refine lv_aload_n hx hb dX2_hearSecond_18 rfl (lv_at hl 0 rfl) ?_
      obtain ⟨zv3, ezv3, hf⟩ := nn_some hf
      have tzv3 : okA E G 11 zv3 := wt_r hw ezv3
      refine xg_2_2 C0 hw zt0 wd118 ezv3 dX2_hearSecond_19 ?_
      refine lv_iload_n hx hb dX2_hearSecond_22 rfl (lv_at hl 2 rfl) ?_
      obtain ⟨zhb4, hf⟩ := ck_some hf
      refine x_iald C0 hw tzv3 zhb4 dX2_hearSecond_23 ?_
      refine lv_iconst (v := (1 : Int32)) hx hb dX2_hearSecond_24 (by decide) ?_
      refine lv_icmp_le (tgt := 69) hx hb dX2_hearSecond_25 (by decide) (fun zc5 => ?_) (fun zc5 => ?_)
      · have hf := ite_t hf zc5
        exact w2_hearSecond_69 C0 hr hz fl zr4 zhr4 I _ _ _ zx0 zx1 zx2 zv3 zt0 ezv3 tzv3 hw (lv_sub hl [0, 1, 2] rfl) hf
      · have hf := ite_f hf zc5
        refine lv_aload_n hx hb dX2_hearSecond_28 rfl (lv_at hl 0 rfl) ?_
        obtain ⟨zv6, ezv6, hf⟩ := nn_some hf
        have tzv6 : okA E G 11 zv6 := wt_r hw ezv6
        refine xg_2_0 C0 hw zt0 wd116 ezv6 dX2_hearSecond_29 ?_
        refine lv_iload_n hx hb dX2_hearSecond_32 rfl (lv_at hl 1 rfl) ?_
        refine lv_aload_n hx hb dX2_hearSecond_33 rfl (lv_at hl 0 rfl) ?_
        refine xg_2_0 C0 hw zt0 wd116 ezv6 dX2_hearSecond_34 ?_
        refine lv_iload_n hx hb dX2_hearSecond_37 rfl (lv_at hl 2 rfl) ?_
        obtain ⟨zhb7, hf⟩ := ck_some hf
        refine x_iald C0 hw tzv6 zhb7 dX2_hearSecond_38 ?_
        obtain ⟨zhb8, hf⟩ := ck_some hf
        obtain ⟨zI9, ezI9⟩ : ∃ y : Im, y = pA I zv6 (zx1).toNatClampNeg (gA I zv6 (zx2).toNatClampNeg) := ⟨_, rfl⟩
        have hf := lt_at hf ezI9
        refine x_iast C0 hz hw tzv6 zhb8 dX2_hearSecond_39 ezI9 (fun H locs hw => ?_)
        refine lv_aload_n hx hb dX2_hearSecond_40 rfl (lv_at hl 0 rfl) ?_
        obtain ⟨zv10, ezv10, hf⟩ := nn_some hf
        have tzv10 : okA E G 11 zv10 := wt_r hw ezv10
        refine xg_2_1 C0 hw zt0 wd117 ezv10 dX2_hearSecond_41 ?_
        refine lv_iload_n hx hb dX2_hearSecond_44 rfl (lv_at hl 1 rfl) ?_
        refine lv_aload_n hx hb dX2_hearSecond_45 rfl (lv_at hl 0 rfl) ?_
        refine xg_2_1 C0 hw zt0 wd117 ezv10 dX2_hearSecond_46 ?_
        refine lv_iload_n hx hb dX2_hearSecond_49 rfl (lv_at hl 2 rfl) ?_
        obtain ⟨zhb11, hf⟩ := ck_some hf
        refine x_iald C0 hw tzv10 zhb11 dX2_hearSecond_50 ?_
        obtain ⟨zhb12, hf⟩ := ck_some hf
        obtain ⟨zI13, ezI13⟩ : ∃ y : Im, y = pA zI9 zv10 (zx1).toNatClampNeg (gA zI9 zv10 (zx2).toNatClampNeg) := ⟨_, rfl⟩
        have hf := lt_at hf ezI13
        refine x_iast C0 hz hw tzv10 zhb12 dX2_hearSecond_51 ezI13 (fun H locs hw => ?_)
        refine lv_aload_n hx hb dX2_hearSecond_52 rfl (lv_at hl 0 rfl) ?_
        refine xg_2_2 C0 hw zt0 wd118 ezv3 dX2_hearSecond_53 ?_
        refine lv_iload_n hx hb dX2_hearSecond_56 rfl (lv_at hl 1 rfl) ?_
        refine lv_aload_n hx hb dX2_hearSecond_57 rfl (lv_at hl 0 rfl) ?_
        refine xg_2_2 C0 hw zt0 wd118 ezv3 dX2_hearSecond_58 ?_
        refine lv_iload_n hx hb dX2_hearSecond_61 rfl (lv_at hl 2 rfl) ?_
        refine x_iald C0 hw tzv3 zhb4 dX2_hearSecond_62 ?_
        refine lv_iconst (v := (1 : Int32)) hx hb dX2_hearSecond_63 (by decide) ?_
        refine lv_isub hx hb dX2_hearSecond_64 ?_
        obtain ⟨zhb14, hf⟩ := ck_some hf
        obtain ⟨zI15, ezI15⟩ : ∃ y : Im, y = pA zI13 zv3 (zx1).toNatClampNeg ((gA zI13 zv3 (zx2).toNatClampNeg) - (1 : Int32)) := ⟨_, rfl⟩
        have hf := lt_at hf ezI15
        refine x_iast C0 hz hw tzv3 zhb14 dX2_hearSecond_65 ezI15 (fun H locs hw => ?_)
        obtain ⟨zv16, ezv16⟩ : ∃ y : Int32, y = zx1 + 1 := ⟨_, rfl⟩
        have hf := lt_at hf ezv16
        refine lv_iinc (v := zv16) (lv' := [(1, .int zv16), (0, .ref zx0), (2, .int zx2)]) hx hb dX2_hearSecond_66 hl (k := 1) rfl (by rw [ezv16]; rfl) (by decide) rfl (fun ls hl => ?_)
        exact w2_hearSecond_69 C0 hr hz fl zr4 zhr4 zI15 _ _ _ zx0 zv16 zx2 zv3 zt0 ezv3 tzv3 hw (lv_sub hl [1, 0, 2] rfl) hf
theorem w2_hearSecond_4 {p : Program} {l : Launch} {e : Env} {s : State} {m : MethodId} {args : Array Value} {below : List Frame} {meth : Method} {c : Code} {E : EN} {G : GM} {X : Xm} (C0 : CX p s m args meth c E cX2_hearSecond RX2 3) (hr : meth.sig.returnType = none) (hz : s.heap.size + 0 ≤ eB E + G.1) {rr : Im} (fl : Nat) : ∀ (n : Nat) (I : Im) (H : Heap) (locs : List Loc) (ls : Array Slot) (zx0 : Nat) (zx1 : Int32) (zx2 : Int32) (zt0 : okA E G 2 zx0), WD E G I X s.heap H locs → lv_has ls 3 [(0, .ref zx0), (1, .int zx1), (2, .int zx2)] → m2_hearSecond_4 fl G.2.2 X n I zx0 zx1 zx2 = some rr → W p l e ({ frames := 0, cells := 0, slots := 0, locals := 0 } : Room) s m args below meth c H locs 0 0 (MQ below (QV E G rr X) args s 0 0 (eA E)) (F0 m 4 ls []) := by
  intro n
  induction n with
  | zero => intro I H locs ls zx0 zx1 zx2 zt0 hw hl hf; exact absurd (show (none : Option (Im)) = some rr from hf) (by simp)
  | succ n ih => intro I H locs ls zx0 zx1 zx2 zt0 hw hl hf; exact w2_hearSecond_4b C0 hr hz fl _ ih I H locs ls zx0 zx1 zx2 zt0 hw hl hf
noncomputable def m2_hearSecond (fl : Nat) (len : Nat → Nat) (X : Xm) (I : Im) (zx0 : Nat) : Option (Im) :=
  m2_hearSecond_4 fl len X fl I zx0 (0 : Int32) (0 : Int32)
theorem hy2_hearSecond : yX2_hearSecond.cls = RX2 ∧ yX2_hearSecond.cls ≠ "java/lang/invoke/MethodHandle" ∧ yX2_hearSecond.cls ≠ "java/lang/invoke/VarHandle" ∧ (parseMethodDescriptor yX2_hearSecond.desc).map (fun d => d.parameters.length) = some 0 := ⟨rfl, by decide +kernel, by decide +kernel, by decide +kernel⟩
set_option maxHeartbeats 4000000 in
set_option maxRecDepth 100000 in
theorem c2_hearSecond (l : Launch) (E : EN) (G : GM) (fl : Nat) (X : Xm) (I : Im) (zx0 : Nat) (zt0 : okA E G 2 zx0) {rr : Im} (hf : m2_hearSecond fl G.2.2 X I zx0 = some rr) : MT l yX2_hearSecond cX2_hearSecond 3 none ({ frames := 0, cells := 0, slots := 0, locals := 0 } : Room) E G I X [.ref zx0] (QV E G rr X) 0 0 := by
  refine Met.ofW (cc := cX2_hearSecond) (maxL := 3) (ret := none) (by decide +kernel) rfl ?_
  intro p e s m args below meth c s₁ B hml hv
  obtain ⟨rfl, hw0, hSE⟩ := hv
  have C0 : CX p s m ([.ref zx0] : List Value).toArray meth c E cX2_hearSecond RX2 3 := ⟨B.exec, B.bytes, hml, findClass_of_methodNamed B.named, fun w hw => atoms_spec (ws := WS yX2_hearSecond cX2_hearSecond 3 none) B.pre w (List.mem_cons_of_mem _ hw), B.notSynchronized, hSE⟩
  have hz : s.heap.size + 0 ≤ eB E + G.1 := Nat.le_of_eq hw0.2.1
  have hw : WD E G I X s.heap s.heap [] := ⟨hw0, va_S.rf⟩
  have hr := B.returns
  have hx := C0.1; have hb := C0.2.1; have hml := C0.2.2.1; have hown := C0.2.2.2.1; have hts := C0.2.2.2.2.1
  have hl := lv_entry ([.ref zx0]) (n := 3) (Nat.le_of_ble_eq_true rfl)
  rw [lg_entry_eq]
  generalize (lg_sl ([.ref zx0]) ++ List.replicate (3 - (lg_sl ([.ref zx0])).length) Slot.unset).toArray = ls at hl ⊢
  have hl : lv_has ls 3 [(0, .ref zx0)] := hl
  unfold m2_hearSecond at hf
  refine lv_iconst (v := (0 : Int32)) hx hb dX2_hearSecond_0 (by decide) ?_
  refine lv_istore_n (lv' := [(1, .int (0 : Int32)), (0, .ref zx0)]) hx hb dX2_hearSecond_1 rfl hl (by decide) rfl (fun ls hl => ?_)
  refine lv_iconst (v := (0 : Int32)) hx hb dX2_hearSecond_2 (by decide) ?_
  refine lv_istore_n (lv' := [(2, .int (0 : Int32)), (1, .int (0 : Int32)), (0, .ref zx0)]) hx hb dX2_hearSecond_3 rfl hl (by decide) rfl (fun ls hl => ?_)
  exact w2_hearSecond_4 C0 hr hz fl fl I _ _ _ zx0 (0 : Int32) (0 : Int32) zt0 hw (lv_sub hl [2, 1, 0] rfl) hf
noncomputable def m6_nextFor_59 (fl : Nat) (len : Nat → Nat) (X : Xm) (I : Im) : Option (Int32) :=
  some ((-6 : Int32))
set_option maxHeartbeats 4000000 in
set_option maxRecDepth 100000 in
theorem w6_nextFor_59 {p : Program} {l : Launch} {e : Env} {s : State} {m : MethodId} {args : Array Value} {below : List Frame} {meth : Method} {c : Code} {E : EN} {G : GM} {X : Xm} {I : Im} (C0 : CX p s m args meth c E cX6_nextFor RX6 3) (hr : meth.sig.returnType = (some .int)) (hz : s.heap.size + 0 ≤ eB E + G.1) {rr : Int32} (fl : Nat) : ∀ (H : Heap) (locs : List Loc) (ls : Array Slot) , WD E G I X s.heap H locs → lv_has ls 3 [] → m6_nextFor_59 fl G.2.2 X I = some rr → W p l e ({ frames := 1, cells := 0, slots := 0, locals := 21 } : Room) s m args below meth c H locs 0 0 (MQ below (QI E G rr I X) args s 0 0 (eA E)) (F0 m 59 ls []) := by
  intro H locs ls hw hl hf
  unfold m6_nextFor_59 at hf
  have hx := C0.1; have hb := C0.2.1; have hml := C0.2.2.1; have hown := C0.2.2.2.1; have hts := C0.2.2.2.2.1
  refine lv_bipush (v := (-6 : Int32)) hx hb dX6_nextFor_59 (by decide) ?_
  obtain rfl := Option.some.inj hf
  exact x_iret C0 hr hw dX6_nextFor_61
noncomputable def m6_nextFor_53 (fl : Nat) (len : Nat → Nat) (X : Xm) (I : Im) (zr9 : Nat → Int32 → Int32 → Option (Int32)) (zx0 : Nat) (zx1 : Int32) (zx2 : Int32) (p_96 : Nat) : Option (Int32) :=
  lt (zx2 + 1) fun zv1 =>
  zr9 zx0 zx1 zv1
set_option maxHeartbeats 4000000 in
set_option maxRecDepth 100000 in
theorem w6_nextFor_53 {p : Program} {l : Launch} {e : Env} {s : State} {m : MethodId} {args : Array Value} {below : List Frame} {meth : Method} {c : Code} {E : EN} {G : GM} {X : Xm} {I : Im} (C0 : CX p s m args meth c E cX6_nextFor RX6 3) (hr : meth.sig.returnType = (some .int)) (hz : s.heap.size + 0 ≤ eB E + G.1) {rr : Int32} (fl : Nat) (zr9 : Nat → Int32 → Int32 → Option (Int32)) (zhr9 : ∀ (H : Heap) (locs : List Loc) (ls : Array Slot) (zx0 : Nat) (zx1 : Int32) (zx2 : Int32) (zt0 : okA E G 6 zx0), WD E G I X s.heap H locs → lv_has ls 3 [(0, .ref zx0), (1, .int zx1), (2, .int zx2)] → zr9 zx0 zx1 zx2 = some rr → W p l e ({ frames := 1, cells := 0, slots := 0, locals := 21 } : Room) s m args below meth c H locs 0 0 (MQ below (QI E G rr I X) args s 0 0 (eA E)) (F0 m 9 ls [])) : ∀ (H : Heap) (locs : List Loc) (ls : Array Slot) (zx0 : Nat) (zx1 : Int32) (zx2 : Int32) (p_96 : Nat) (zt0 : okA E G 6 zx0) (ep_96 : gR X 96 zx0 = some p_96) (tp_96 : okA E G 14 p_96), WD E G I X s.heap H locs → lv_has ls 3 [(0, .ref zx0), (1, .int zx1), (2, .int zx2)] → m6_nextFor_53 fl G.2.2 X I zr9 zx0 zx1 zx2 p_96 = some rr → W p l e ({ frames := 1, cells := 0, slots := 0, locals := 21 } : Room) s m args below meth c H locs 0 0 (MQ below (QI E G rr I X) args s 0 0 (eA E)) (F0 m 53 ls []) := by
  intro H locs ls zx0 zx1 zx2 p_96 zt0 ep_96 tp_96 hw hl hf
  unfold m6_nextFor_53 at hf
  have hx := C0.1; have hb := C0.2.1; have hml := C0.2.2.1; have hown := C0.2.2.2.1; have hts := C0.2.2.2.2.1
  obtain ⟨zv1, ezv1⟩ : ∃ y : Int32, y = zx2 + 1 := ⟨_, rfl⟩
  have hf := lt_at hf ezv1
  refine lv_iinc (v := zv1) (lv' := [(2, .int zv1), (0, .ref zx0), (1, .int zx1)]) hx hb dX6_nextFor_53 hl (k := 2) rfl (by rw [ezv1]; rfl) (by decide) rfl (fun ls hl => ?_)
  refine lv_goto (tgt := 9) hx hb dX6_nextFor_56 (by decide) ?_
  exact zhr9 _ _ _ zx0 zx1 zv1 zt0 hw (lv_sub hl [1, 2, 0] rfl) hf
noncomputable def m6_nextFor_9b (fl : Nat) (len : Nat → Nat) (X : Xm) (I : Im) (zr9 : Nat → Int32 → Int32 → Option (Int32)) (zx0 : Nat) (zx1 : Int32) (zx2 : Int32) : Option (Int32) :=
  if (gF I 97 zx0) ≤ zx2 then
    m6_nextFor_59 fl len X I 
  else
    nn (gR X 96 zx0) fun zv2 =>
    if (nI (len zv2)) ≤ zx2 then
      m6_nextFor_59 fl len X I 
    else
      ck (inb zx2 (len zv2) = true) <|
      nn (gQ X zv2 (zx2).toNatClampNeg) fun zv5 =>
      if (gF I 17 zv5) = 0 then
        nn (gQ X zv2 (zx2).toNatClampNeg) fun zv7 =>
        if (gF I 18 zv7) = zx1 then
          some (zx2)
        else
          m6_nextFor_53 fl len X I zr9 zx0 zx1 zx2 zv2
      else
        m6_nextFor_53 fl len X I zr9 zx0 zx1 zx2 zv2
noncomputable def m6_nextFor_9 (fl : Nat) (len : Nat → Nat) (X : Xm) (I : Im) (n : Nat) : Nat → Int32 → Int32 → Option (Int32) :=
  Nat.rec (fun _ _ _ => none) (fun _ r => m6_nextFor_9b fl len X I r) n
set_option maxHeartbeats 4000000 in
set_option maxRecDepth 100000 in
theorem w6_nextFor_9b {p : Program} {l : Launch} {e : Env} {s : State} {m : MethodId} {args : Array Value} {below : List Frame} {meth : Method} {c : Code} {E : EN} {G : GM} {X : Xm} {I : Im} (C0 : CX p s m args meth c E cX6_nextFor RX6 3) (hr : meth.sig.returnType = (some .int)) (hz : s.heap.size + 0 ≤ eB E + G.1) {rr : Int32} (fl : Nat) (zr9 : Nat → Int32 → Int32 → Option (Int32)) (zhr9 : ∀ (H : Heap) (locs : List Loc) (ls : Array Slot) (zx0 : Nat) (zx1 : Int32) (zx2 : Int32) (zt0 : okA E G 6 zx0), WD E G I X s.heap H locs → lv_has ls 3 [(0, .ref zx0), (1, .int zx1), (2, .int zx2)] → zr9 zx0 zx1 zx2 = some rr → W p l e ({ frames := 1, cells := 0, slots := 0, locals := 21 } : Room) s m args below meth c H locs 0 0 (MQ below (QI E G rr I X) args s 0 0 (eA E)) (F0 m 9 ls [])) : ∀ (H : Heap) (locs : List Loc) (ls : Array Slot) (zx0 : Nat) (zx1 : Int32) (zx2 : Int32) (zt0 : okA E G 6 zx0), WD E G I X s.heap H locs → lv_has ls 3 [(0, .ref zx0), (1, .int zx1), (2, .int zx2)] → m6_nextFor_9b fl G.2.2 X I zr9 zx0 zx1 zx2 = some rr → W p l e ({ frames := 1, cells := 0, slots := 0, locals := 21 } : Room) s m args below meth c H locs 0 0 (MQ below (QI E G rr I X) args s 0 0 (eA E)) (F0 m 9 ls []) := by
  intro H locs ls zx0 zx1 zx2 zt0 hw hl hf
  unfold m6_nextFor_9b at hf
  have hx := C0.1; have hb := C0.2.1; have hml := C0.2.2.1; have hown := C0.2.2.2.1; have hts := C0.2.2.2.2.1
  refine lv_iload_n hx hb dX6_nextFor_9 rfl (lv_at hl 2 rfl) ?_
  refine lv_aload_n hx hb dX6_nextFor_10 rfl (lv_at hl 0 rfl) ?_
  refine xg_6_1 C0 hw zt0 wd168 dX6_nextFor_11 ?_
  refine lv_icmp_ge (tgt := 59) hx hb dX6_nextFor_14 (by decide) (fun zc1 => ?_) (fun zc1 => ?_)
  · have hf := ite_t hf zc1
    exact w6_nextFor_59 C0 hr hz fl _ _ _ hw (lv_sub hl [] rfl) hf
  · have hf := ite_f hf zc1
    refine lv_iload_n hx hb dX6_nextFor_17 rfl (lv_at hl 2 rfl) ?_
    refine lv_aload_n hx hb dX6_nextFor_18 rfl (lv_at hl 0 rfl) ?_
    obtain ⟨zv2, ezv2, hf⟩ := nn_some hf
    have tzv2 : okA E G 14 zv2 := wt_r hw ezv2
    refine xg_6_0 C0 hw zt0 wd130 ezv2 dX6_nextFor_19 ?_
    refine x_alen C0 hw 14 tzv2 (by decide) rfl dX6_nextFor_22 ?_
    refine lv_icmp_ge (tgt := 59) hx hb dX6_nextFor_23 (by decide) (fun zc3 => ?_) (fun zc3 => ?_)
    · have hf := ite_t hf zc3
      exact w6_nextFor_59 C0 hr hz fl _ _ _ hw (lv_sub hl [] rfl) hf
    · have hf := ite_f hf zc3
      refine lv_aload_n hx hb dX6_nextFor_26 rfl (lv_at hl 0 rfl) ?_
      refine xg_6_0 C0 hw zt0 wd130 ezv2 dX6_nextFor_27 ?_
      refine lv_iload_n hx hb dX6_nextFor_30 rfl (lv_at hl 2 rfl) ?_
      obtain ⟨zhb4, hf⟩ := ck_some hf
      obtain ⟨zv5, ezv5, hf⟩ := nn_some hf
      have tzv5 : okA E G 1 zv5 := wt_q hw tzv2 ezv5
      refine x_qald C0 hw 14 tzv2 (by decide) rfl zhb4 ezv5 dX6_nextFor_31 ?_
      refine xg_1_1 C0 hw tzv5 wd225 dX6_nextFor_32 ?_
      refine lv_if_ne (tgt := 53) hx hb dX6_nextFor_35 (by decide) (fun zc6 => ?_) (fun zc6 => ?_)
      · have hf := ite_f hf zc6
        exact w6_nextFor_53 C0 hr hz fl zr9 zhr9 _ _ _ zx0 zx1 zx2 zv2 zt0 ezv2 tzv2 hw (lv_sub hl [0, 1, 2] rfl) hf
      · have hf := ite_t hf zc6
        refine lv_aload_n hx hb dX6_nextFor_38 rfl (lv_at hl 0 rfl) ?_
        refine xg_6_0 C0 hw zt0 wd130 ezv2 dX6_nextFor_39 ?_
        refine lv_iload_n hx hb dX6_nextFor_42 rfl (lv_at hl 2 rfl) ?_
        obtain ⟨zv7, ezv7, hf⟩ := nn_some hf
        have tzv7 : okA E G 1 zv7 := wt_q hw tzv2 ezv7
        refine x_qald C0 hw 14 tzv2 (by decide) rfl zhb4 ezv7 dX6_nextFor_43 ?_
        refine xg_1_2 C0 hw tzv7 wd226 dX6_nextFor_44 ?_
        refine lv_iload_n hx hb dX6_nextFor_47 rfl (lv_at hl 1 rfl) ?_
        refine lv_icmp_ne (tgt := 53) hx hb dX6_nextFor_48 (by decide) (fun zc8 => ?_) (fun zc8 => ?_)
        · have hf := ite_f hf zc8
          exact w6_nextFor_53 C0 hr hz fl zr9 zhr9 _ _ _ zx0 zx1 zx2 zv2 zt0 ezv2 tzv2 hw (lv_sub hl [0, 1, 2] rfl) hf
        · have hf := ite_t hf zc8
          refine lv_iload_n hx hb dX6_nextFor_51 rfl (lv_at hl 2 rfl) ?_
          obtain rfl := Option.some.inj hf
          exact x_iret C0 hr hw dX6_nextFor_52
theorem w6_nextFor_9 {p : Program} {l : Launch} {e : Env} {s : State} {m : MethodId} {args : Array Value} {below : List Frame} {meth : Method} {c : Code} {E : EN} {G : GM} {X : Xm} {I : Im} (C0 : CX p s m args meth c E cX6_nextFor RX6 3) (hr : meth.sig.returnType = (some .int)) (hz : s.heap.size + 0 ≤ eB E + G.1) {rr : Int32} (fl : Nat) : ∀ (n : Nat) (H : Heap) (locs : List Loc) (ls : Array Slot) (zx0 : Nat) (zx1 : Int32) (zx2 : Int32) (zt0 : okA E G 6 zx0), WD E G I X s.heap H locs → lv_has ls 3 [(0, .ref zx0), (1, .int zx1), (2, .int zx2)] → m6_nextFor_9 fl G.2.2 X I n zx0 zx1 zx2 = some rr → W p l e ({ frames := 1, cells := 0, slots := 0, locals := 21 } : Room) s m args below meth c H locs 0 0 (MQ below (QI E G rr I X) args s 0 0 (eA E)) (F0 m 9 ls []) := by
  intro n
  induction n with
  | zero => intro H locs ls zx0 zx1 zx2 zt0 hw hl hf; exact absurd (show (none : Option (Int32)) = some rr from hf) (by simp)
  | succ n ih => intro H locs ls zx0 zx1 zx2 zt0 hw hl hf; exact w6_nextFor_9b C0 hr hz fl _ ih H locs ls zx0 zx1 zx2 zt0 hw hl hf
noncomputable def m6_nextFor (fl : Nat) (len : Nat → Nat) (X : Xm) (I : Im) (zx0 : Nat) (zx1 : Int32) : Option (Int32) :=
  lt ((if (0 : Int32) < (gF I 98 zx0) then (gF I 98 zx0) else (0 : Int32))) fun zv1 =>
  m6_nextFor_9 fl len X I fl zx0 zx1 zv1
theorem hy6_nextFor : yX6_nextFor.cls = RX6 ∧ yX6_nextFor.cls ≠ "java/lang/invoke/MethodHandle" ∧ yX6_nextFor.cls ≠ "java/lang/invoke/VarHandle" ∧ (parseMethodDescriptor yX6_nextFor.desc).map (fun d => d.parameters.length) = some 1 := ⟨rfl, by decide +kernel, by decide +kernel, by decide +kernel⟩
set_option maxHeartbeats 4000000 in
set_option maxRecDepth 100000 in
theorem c6_nextFor (l : Launch) (E : EN) (G : GM) (fl : Nat) (X : Xm) (I : Im) (zx0 : Nat) (zx1 : Int32) (zt0 : okA E G 6 zx0) {rr : Int32} (hf : m6_nextFor fl G.2.2 X I zx0 zx1 = some rr) : MT l yX6_nextFor cX6_nextFor 3 (some .int) ({ frames := 1, cells := 0, slots := 0, locals := 21 } : Room) E G I X [.ref zx0, .int zx1] (QI E G rr I X) 0 0 := by
  refine Met.ofW (cc := cX6_nextFor) (maxL := 3) (ret := (some .int)) (by decide +kernel) rfl ?_
  intro p e s m args below meth c s₁ B hml hv
  obtain ⟨rfl, hw0, hSE⟩ := hv
  have C0 : CX p s m ([.ref zx0, .int zx1] : List Value).toArray meth c E cX6_nextFor RX6 3 := ⟨B.exec, B.bytes, hml, findClass_of_methodNamed B.named, fun w hw => atoms_spec (ws := WS yX6_nextFor cX6_nextFor 3 (some .int)) B.pre w (List.mem_cons_of_mem _ hw), B.notSynchronized, hSE⟩
  have hz : s.heap.size + 0 ≤ eB E + G.1 := Nat.le_of_eq hw0.2.1
  have hw : WD E G I X s.heap s.heap [] := ⟨hw0, va_S.rf⟩
  have hr := B.returns
  have hx := C0.1; have hb := C0.2.1; have hml := C0.2.2.1; have hown := C0.2.2.2.1; have hts := C0.2.2.2.2.1
  have hl := lv_entry ([.ref zx0, .int zx1]) (n := 3) (Nat.le_of_ble_eq_true rfl)
  rw [lg_entry_eq]
  generalize (lg_sl ([.ref zx0, .int zx1]) ++ List.replicate (3 - (lg_sl ([.ref zx0, .int zx1])).length) Slot.unset).toArray = ls at hl ⊢
  have hl : lv_has ls 3 [(0, .ref zx0), (1, .int zx1)] := hl
  unfold m6_nextFor at hf
  refine lv_iconst (v := (0 : Int32)) hx hb dX6_nextFor_0 (by decide) ?_
  refine lv_aload_n hx hb dX6_nextFor_1 rfl (lv_at hl 0 rfl) ?_
  refine xg_6_2 C0 hw zt0 wd169 dX6_nextFor_2 ?_
  refine va_mmax hx hb (hml.trans hl.1.symm) hown (hts _ wd238) (hts _ wd104) (hts _ wd101) (hts _ wd105) (Nat.le_of_ble_eq_true rfl) (Nat.le_of_ble_eq_true rfl) (Nat.zero_le _) (Nat.zero_le _) dX6_nextFor_5 ?_
  refine lv_topi (fun zv1 ezv1 => ?_)
  have hf := lt_at hf ezv1
  refine lv_istore_n (lv' := [(2, .int zv1), (0, .ref zx0), (1, .int zx1)]) hx hb dX6_nextFor_8 rfl hl (by decide) rfl (fun ls hl => ?_)
  exact w6_nextFor_9 C0 hr hz fl fl _ _ _ zx0 zx1 zv1 zt0 hw (lv_sub hl [1, 2, 0] rfl) hf
noncomputable def m4_windReels_98 (fl : Nat) (len : Nat → Nat) (X : Xm) (zr2 : Im → Nat → Int32 → Option (Im)) (I : Im) (zx0 : Nat) (zx1 : Int32) (p_66 : Nat) : Option (Im) :=
  lt (zx1 + 1) fun zv1 =>
  zr2 I zx0 zv1
set_option maxHeartbeats 4000000 in
set_option maxRecDepth 100000 in
theorem w4_windReels_98 {p : Program} {l : Launch} {e : Env} {s : State} {m : MethodId} {args : Array Value} {below : List Frame} {meth : Method} {c : Code} {E : EN} {G : GM} {X : Xm} (C0 : CX p s m args meth c E cX4_windReels RX4 4) (hr : meth.sig.returnType = none) (hz : s.heap.size + 0 ≤ eB E + G.1) {rr : Im} (fl : Nat) (zr2 : Im → Nat → Int32 → Option (Im)) (zhr2 : ∀ (I : Im) (H : Heap) (locs : List Loc) (ls : Array Slot) (zx0 : Nat) (zx1 : Int32) (zt0 : okA E G 4 zx0), WD E G I X s.heap H locs → lv_has ls 4 [(0, .ref zx0), (1, .int zx1)] → zr2 I zx0 zx1 = some rr → W p l e ({ frames := 2, cells := 0, slots := 0, locals := 43 } : Room) s m args below meth c H locs 0 0 (MQ below (QV E G rr X) args s 0 0 (eA E)) (F0 m 2 ls [])) : ∀ (I : Im) (H : Heap) (locs : List Loc) (ls : Array Slot) (zx0 : Nat) (zx1 : Int32) (p_66 : Nat) (zt0 : okA E G 4 zx0) (ep_66 : gR X 66 zx0 = some p_66) (tp_66 : okA E G 16 p_66), WD E G I X s.heap H locs → lv_has ls 4 [(0, .ref zx0), (1, .int zx1)] → m4_windReels_98 fl G.2.2 X zr2 I zx0 zx1 p_66 = some rr → W p l e ({ frames := 2, cells := 0, slots := 0, locals := 43 } : Room) s m args below meth c H locs 0 0 (MQ below (QV E G rr X) args s 0 0 (eA E)) (F0 m 98 ls []) := by
  intro I H locs ls zx0 zx1 p_66 zt0 ep_66 tp_66 hw hl hf
  unfold m4_windReels_98 at hf
  have hx := C0.1; have hb := C0.2.1; have hml := C0.2.2.1; have hown := C0.2.2.2.1; have hts := C0.2.2.2.2.1
  obtain ⟨zv1, ezv1⟩ : ∃ y : Int32, y = zx1 + 1 := ⟨_, rfl⟩
  have hf := lt_at hf ezv1
  refine lv_iinc (v := zv1) (lv' := [(1, .int zv1), (0, .ref zx0)]) hx hb dX4_windReels_98 hl (k := 1) rfl (by rw [ezv1]; rfl) (by decide) rfl (fun ls hl => ?_)
  refine lv_goto (tgt := 2) hx hb dX4_windReels_101 (by decide) ?_
  exact zhr2 I _ _ _ zx0 zv1 zt0 hw (lv_sub hl [1, 0] rfl) hf
noncomputable def m4_windReels_62 (fl : Nat) (len : Nat → Nat) (X : Xm) (zr2 : Im → Nat → Int32 → Option (Im)) (I : Im) (zx0 : Nat) (zx1 : Int32) (zs0 : Option Nat) (p_65 : Nat) (p_66 : Nat) : Option (Im) :=
  if zs0 = none then
    m4_windReels_98 fl len X zr2 I zx0 zx1 p_66
  else
    ck (inb zx1 (len p_66) = true) <|
    nn (gQ X p_66 (zx1).toNatClampNeg) fun zv3 =>
    nn (gQ X p_66 (zx1).toNatClampNeg) fun zv4 =>
    nn zs0 fun zb5 =>
    nn (gR X 64 zx0) fun zv6 =>
    ck (inb (0 : Int32) (len zv6) = true) <|
    nn (m8_nearer fl len X I (gF I 82 zv4) (gF I 114 zb5) (gA I zv6 ((0 : Int32)).toNatClampNeg)) fun zv8 =>
    lt (pF I 82 zv3 zv8) fun zI10 =>
    m4_windReels_98 fl len X zr2 zI10 zx0 zx1 p_66
set_option maxHeartbeats 4000000 in
set_option maxRecDepth 100000 in
theorem w4_windReels_62 {p : Program} {l : Launch} {e : Env} {s : State} {m : MethodId} {args : Array Value} {below : List Frame} {meth : Method} {c : Code} {E : EN} {G : GM} {X : Xm} (C0 : CX p s m args meth c E cX4_windReels RX4 4) (hr : meth.sig.returnType = none) (hz : s.heap.size + 0 ≤ eB E + G.1) {rr : Im} (fl : Nat) (zr2 : Im → Nat → Int32 → Option (Im)) (zhr2 : ∀ (I : Im) (H : Heap) (locs : List Loc) (ls : Array Slot) (zx0 : Nat) (zx1 : Int32) (zt0 : okA E G 4 zx0), WD E G I X s.heap H locs → lv_has ls 4 [(0, .ref zx0), (1, .int zx1)] → zr2 I zx0 zx1 = some rr → W p l e ({ frames := 2, cells := 0, slots := 0, locals := 43 } : Room) s m args below meth c H locs 0 0 (MQ below (QV E G rr X) args s 0 0 (eA E)) (F0 m 2 ls [])) : ∀ (I : Im) (H : Heap) (locs : List Loc) (ls : Array Slot) (zx0 : Nat) (zx1 : Int32) (zs0 : Option Nat) (p_65 : Nat) (p_66 : Nat) (zt0 : okA E G 4 zx0) (zts0 : ∀ a, zs0 = some a → okA E G 7 a) (ep_65 : gR X 65 zx0 = some p_65) (tp_65 : okA E G 6 p_65) (ep_66 : gR X 66 zx0 = some p_66) (tp_66 : okA E G 16 p_66), WD E G I X s.heap H locs → lv_has ls 4 [(0, .ref zx0), (1, .int zx1)] → m4_windReels_62 fl G.2.2 X zr2 I zx0 zx1 zs0 p_65 p_66 = some rr → W p l e ({ frames := 2, cells := 0, slots := 0, locals := 43 } : Room) s m args below meth c H locs 0 0 (MQ below (QV E G rr X) args s 0 0 (eA E)) (F0 m 62 ls [va_rf zs0]) := by
  intro I H locs ls zx0 zx1 zs0 p_65 p_66 zt0 zts0 ep_65 tp_65 ep_66 tp_66 hw hl hf
  unfold m4_windReels_62 at hf
  have hx := C0.1; have hb := C0.2.1; have hml := C0.2.2.1; have hown := C0.2.2.2.1; have hts := C0.2.2.2.2.1
  refine x_astore_n (lv' := [(3, va_rf zs0), (0, .ref zx0), (1, .int zx1)]) C0 dX4_windReels_62 rfl hl (by decide) rfl (fun ls hl => ?_)
  refine x_aload_n C0 dX4_windReels_63 rfl (lv_at hl 0 rfl) ?_
  refine x_ifnull (tgt := 98) C0 dX4_windReels_64 (by decide) (fun zc1 => ?_) (fun zc1 => ?_)
  · have hf := ite_t hf zc1
    exact w4_windReels_98 C0 hr hz fl zr2 zhr2 I _ _ _ zx0 zx1 p_66 zt0 ep_66 tp_66 hw (lv_sub hl [1, 2] rfl) hf
  · have hf := ite_f hf zc1
    refine lv_aload_n hx hb dX4_windReels_67 rfl (lv_at hl 1 rfl) ?_
    refine xg_4_2 C0 hw zt0 wd149 ep_66 dX4_windReels_68 ?_
    refine lv_iload_n hx hb dX4_windReels_71 rfl (lv_at hl 2 rfl) ?_
    obtain ⟨zhb2, hf⟩ := ck_some hf
    obtain ⟨zv3, ezv3, hf⟩ := nn_some hf
    have tzv3 : okA E G 5 zv3 := wt_q hw tp_66 ezv3
    refine x_qald C0 hw 16 tp_66 (by decide) rfl zhb2 ezv3 dX4_windReels_72 ?_
    refine lv_aload_n hx hb dX4_windReels_73 rfl (lv_at hl 1 rfl) ?_
    refine xg_4_2 C0 hw zt0 wd149 ep_66 dX4_windReels_74 ?_
    refine lv_iload_n hx hb dX4_windReels_77 rfl (lv_at hl 2 rfl) ?_
    obtain ⟨zv4, ezv4, hf⟩ := nn_some hf
    have tzv4 : okA E G 5 zv4 := wt_q hw tp_66 ezv4
    refine x_qald C0 hw 16 tp_66 (by decide) rfl zhb2 ezv4 dX4_windReels_78 ?_
    refine xg_5_2 C0 hw tzv4 wd260 dX4_windReels_79 ?_
    refine x_aload_n C0 dX4_windReels_82 rfl (lv_at hl 0 rfl) ?_
    obtain ⟨zb5, ezb5, hfzb5⟩ := nn_some hf
    have tzb5 : okA E G 7 zb5 := zts0 _ ezb5
    subst ezb5
    have hf := hfzb5
    refine xg_7_2 C0 hw tzb5 wd261 dX4_windReels_83 ?_
    refine lv_aload_n hx hb dX4_windReels_86 rfl (lv_at hl 1 rfl) ?_
    obtain ⟨zv6, ezv6, hf⟩ := nn_some hf
    have tzv6 : okA E G 11 zv6 := wt_r hw ezv6
    refine xg_4_0 C0 hw zt0 wd143 ezv6 dX4_windReels_87 ?_
    refine lv_iconst (v := (0 : Int32)) hx hb dX4_windReels_90 (by decide) ?_
    obtain ⟨zhb7, hf⟩ := ck_some hf
    refine x_iald C0 hw tzv6 zhb7 dX4_windReels_91 ?_
    obtain ⟨zv8, ze9, hf⟩ := nn_some hf
    refine x_ci (r := zv8) (I1 := I) (X1 := X) (x_runSN (As := [.int (gF I 82 zv4), .int (gF I 114 zb5), .int (gA I zv6 ((0 : Int32)).toNatClampNeg)]) (rest := [.ref zv3]) (host := "RadioCues") C0 (c8_nearer l E G fl X I (gF I 82 zv4) (gF I 114 zb5) (gA I zv6 ((0 : Int32)).toNatClampNeg) ze9) hw wd1 (List.mem_of_getElem? (i := 2) rfl) wd106 wd107 ⟨rfl, rfl⟩ hy8_nearer.2 ⟨Nat.le_of_ble_eq_true rfl, Nat.le_of_ble_eq_true rfl⟩ rfl hl.1 (Nat.le_of_ble_eq_true rfl) ⟨Nat.zero_le _, Nat.zero_le _⟩ dX4_windReels_92) hw (fun H locs hw => ?_)
    obtain ⟨zI10, ezI10⟩ : ∃ y : Im, y = pF I 82 zv3 zv8 := ⟨_, rfl⟩
    have hf := lt_at hf ezI10
    refine xp_5_2 C0 hz hw tzv3 rfl rfl wd260 dX4_windReels_95 ezI10 (fun H locs hw => ?_)
    exact w4_windReels_98 C0 hr hz fl zr2 zhr2 zI10 _ _ _ zx0 zx1 p_66 zt0 ep_66 tp_66 hw (lv_sub hl [1, 2] rfl) hf
noncomputable def m4_windReels_2b (fl : Nat) (len : Nat → Nat) (X : Xm) (zr2 : Im → Nat → Int32 → Option (Im)) (I : Im) (zx0 : Nat) (zx1 : Int32) : Option (Im) :=
  nn (gR X 66 zx0) fun zv1 =>
  if (nI (len zv1)) ≤ zx1 then
    some (I)
  else
    ck (inb zx1 (len zv1) = true) <|
    nn (gQ X zv1 (zx1).toNatClampNeg) fun zv4 =>
    if (gF I 83 zv4) = (-6 : Int32) then
      nn (gR X 65 zx0) fun zv6 =>
      nn (m6_nextFor fl len X I zv6 zx1) fun zv7 =>
      nn (m6_cueAt fl len X I zv6 zv7) fun zv9 =>
      if zv9 = none then
        m4_windReels_62 fl len X zr2 I zx0 zx1 none zv6 zv1
      else
        nn (gQ X zv1 (zx1).toNatClampNeg) fun zv12 =>
        nn zv9 fun zb13 =>
        nn (m5_soundNumbered fl len X I zv12 (gF I 19 zb13)) fun zv14 =>
        m4_windReels_62 fl len X zr2 I zx0 zx1 zv14 zv6 zv1
    else
      m4_windReels_98 fl len X zr2 I zx0 zx1 zv1
noncomputable def m4_windReels_2 (fl : Nat) (len : Nat → Nat) (X : Xm) (n : Nat) : Im → Nat → Int32 → Option (Im) :=
  Nat.rec (fun _ _ _ => none) (fun _ r => m4_windReels_2b fl len X r) n
set_option maxHeartbeats 4000000 in
set_option maxRecDepth 100000 in
theorem w4_windReels_2b {p : Program} {l : Launch} {e : Env} {s : State} {m : MethodId} {args : Array Value} {below : List Frame} {meth : Method} {c : Code} {E : EN} {G : GM} {X : Xm} (C0 : CX p s m args meth c E cX4_windReels RX4 4) (hr : meth.sig.returnType = none) (hz : s.heap.size + 0 ≤ eB E + G.1) {rr : Im} (fl : Nat) (zr2 : Im → Nat → Int32 → Option (Im)) (zhr2 : ∀ (I : Im) (H : Heap) (locs : List Loc) (ls : Array Slot) (zx0 : Nat) (zx1 : Int32) (zt0 : okA E G 4 zx0), WD E G I X s.heap H locs → lv_has ls 4 [(0, .ref zx0), (1, .int zx1)] → zr2 I zx0 zx1 = some rr → W p l e ({ frames := 2, cells := 0, slots := 0, locals := 43 } : Room) s m args below meth c H locs 0 0 (MQ below (QV E G rr X) args s 0 0 (eA E)) (F0 m 2 ls [])) : ∀ (I : Im) (H : Heap) (locs : List Loc) (ls : Array Slot) (zx0 : Nat) (zx1 : Int32) (zt0 : okA E G 4 zx0), WD E G I X s.heap H locs → lv_has ls 4 [(0, .ref zx0), (1, .int zx1)] → m4_windReels_2b fl G.2.2 X zr2 I zx0 zx1 = some rr → W p l e ({ frames := 2, cells := 0, slots := 0, locals := 43 } : Room) s m args below meth c H locs 0 0 (MQ below (QV E G rr X) args s 0 0 (eA E)) (F0 m 2 ls []) := by
  intro I H locs ls zx0 zx1 zt0 hw hl hf
  unfold m4_windReels_2b at hf
  have hx := C0.1; have hb := C0.2.1; have hml := C0.2.2.1; have hown := C0.2.2.2.1; have hts := C0.2.2.2.2.1
  refine lv_iload_n hx hb dX4_windReels_2 rfl (lv_at hl 1 rfl) ?_
  refine lv_aload_n hx hb dX4_windReels_3 rfl (lv_at hl 0 rfl) ?_
  obtain ⟨zv1, ezv1, hf⟩ := nn_some hf
  have tzv1 : okA E G 16 zv1 := wt_r hw ezv1
  refine xg_4_2 C0 hw zt0 wd149 ezv1 dX4_windReels_4 ?_
  refine x_alen C0 hw 16 tzv1 (by decide) rfl dX4_windReels_7 ?_
  refine lv_icmp_ge (tgt := 104) hx hb dX4_windReels_8 (by decide) (fun zc2 => ?_) (fun zc2 => ?_)
  · have hf := ite_t hf zc2
    obtain rfl := Option.some.inj hf
    exact x_vret C0 hr hw dX4_windReels_104
  · have hf := ite_f hf zc2
    refine lv_aload_n hx hb dX4_windReels_11 rfl (lv_at hl 0 rfl) ?_
    refine xg_4_2 C0 hw zt0 wd149 ezv1 dX4_windReels_12 ?_
    refine lv_iload_n hx hb dX4_windReels_15 rfl (lv_at hl 1 rfl) ?_
    obtain ⟨zhb3, hf⟩ := ck_some hf
    obtain ⟨zv4, ezv4, hf⟩ := nn_some hf
    have tzv4 : okA E G 5 zv4 := wt_q hw tzv1 ezv4
    refine x_qald C0 hw 16 tzv1 (by decide) rfl zhb3 ezv4 dX4_windReels_16 ?_
    refine xg_5_3 C0 hw tzv4 wd259 dX4_windReels_17 ?_
    refine lv_bipush (v := (-6 : Int32)) hx hb dX4_windReels_20 (by decide) ?_
    refine lv_icmp_ne (tgt := 98) hx hb dX4_windReels_22 (by decide) (fun zc5 => ?_) (fun zc5 => ?_)
    · have hf := ite_f hf zc5
      exact w4_windReels_98 C0 hr hz fl zr2 zhr2 I _ _ _ zx0 zx1 zv1 zt0 ezv1 tzv1 hw (lv_sub hl [0, 1] rfl) hf
    · have hf := ite_t hf zc5
      refine lv_aload_n hx hb dX4_windReels_25 rfl (lv_at hl 0 rfl) ?_
      obtain ⟨zv6, ezv6, hf⟩ := nn_some hf
      have tzv6 : okA E G 6 zv6 := wt_r hw ezv6
      refine xg_4_1 C0 hw zt0 wd147 ezv6 dX4_windReels_26 ?_
      refine lv_aload_n hx hb dX4_windReels_29 rfl (lv_at hl 0 rfl) ?_
      refine xg_4_1 C0 hw zt0 wd147 ezv6 dX4_windReels_30 ?_
      refine lv_iload_n hx hb dX4_windReels_33 rfl (lv_at hl 1 rfl) ?_
      obtain ⟨zv7, ze8, hf⟩ := nn_some hf
      refine x_ci (r := zv7) (I1 := I) (X1 := X) (x_runV (As := [.int zx1]) (rest := [.ref zv6]) C0 (c6_nextFor l E G fl X I zv6 zx1 tzv6 ze8) hw 6 tzv6 (by decide) rfl wd47 wd285 wd286 wd287 wd146 ⟨rfl, rfl⟩ hy6_nextFor ⟨Nat.le_of_ble_eq_true rfl, Nat.le_of_ble_eq_true rfl⟩ rfl hl.1 (Nat.le_of_ble_eq_true rfl) ⟨Nat.zero_le _, Nat.zero_le _⟩ dX4_windReels_34) hw (fun H locs hw => ?_)
      obtain ⟨zv9, ze10, hf⟩ := nn_some hf
      refine x_co (r := zv9) (I1 := I) (X1 := X) (x_runV (As := [.int zv7]) (rest := []) C0 (c6_cueAt l E G fl X I zv6 zv7 tzv6 ze10) hw 6 tzv6 (by decide) rfl wd28 wd241 wd223 wd224 wd146 ⟨rfl, rfl⟩ hy6_cueAt ⟨Nat.le_of_ble_eq_true rfl, Nat.le_of_ble_eq_true rfl⟩ rfl hl.1 (Nat.le_of_ble_eq_true rfl) ⟨Nat.zero_le _, Nat.zero_le _⟩ dX4_windReels_37) hw (fun H locs hw tzv9 => ?_)
      refine x_astore_n (lv' := [(2, va_rf zv9), (0, .ref zx0), (1, .int zx1)]) C0 dX4_windReels_40 rfl hl (by decide) rfl (fun ls hl => ?_)
      refine x_aload_n C0 dX4_windReels_41 rfl (lv_at hl 0 rfl) ?_
      refine x_ifnonnull (tgt := 49) C0 dX4_windReels_42 (by decide) (fun zc11 => ?_) (fun zc11 => ?_)
      · have hf := ite_f hf zc11
        refine lv_aload_n hx hb dX4_windReels_49 rfl (lv_at hl 1 rfl) ?_
        refine xg_4_2 C0 hw zt0 wd149 ezv1 dX4_windReels_50 ?_
        refine lv_iload_n hx hb dX4_windReels_53 rfl (lv_at hl 2 rfl) ?_
        obtain ⟨zv12, ezv12, hf⟩ := nn_some hf
        have tzv12 : okA E G 5 zv12 := wt_q hw tzv1 ezv12
        refine x_qald C0 hw 16 tzv1 (by decide) rfl zhb3 ezv12 dX4_windReels_54 ?_
        refine x_aload_n C0 dX4_windReels_55 rfl (lv_at hl 0 rfl) ?_
        obtain ⟨zb13, ezb13, hfzb13⟩ := nn_some hf
        have tzb13 : okA E G 1 zb13 := tzv9 _ ezb13
        subst ezb13
        have hf := hfzb13
        refine xg_1_3 C0 hw tzb13 wd269 dX4_windReels_56 ?_
        obtain ⟨zv14, ze15, hf⟩ := nn_some hf
        refine x_co (r := zv14) (I1 := I) (X1 := X) (x_runV (As := [.int (gF I 19 zb13)]) (rest := []) C0 (c5_soundNumbered l E G fl X I zv12 (gF I 19 zb13) tzv12 ze15) hw 5 tzv12 (by decide) rfl wd23 wd220 wd207 wd208 wd159 ⟨rfl, rfl⟩ hy5_soundNumbered ⟨Nat.le_of_ble_eq_true rfl, Nat.le_of_ble_eq_true rfl⟩ rfl hl.1 (Nat.le_of_ble_eq_true rfl) ⟨Nat.zero_le _, Nat.zero_le _⟩ dX4_windReels_59) hw (fun H locs hw tzv14 => ?_)
        exact w4_windReels_62 C0 hr hz fl zr2 zhr2 I _ _ _ zx0 zx1 zv14 zv6 zv1 zt0 tzv14 ezv6 tzv6 ezv1 tzv1 hw (lv_sub hl [1, 2] rfl) hf
      · have hf := ite_t hf zc11
        refine lv_null hx hb dX4_windReels_45 ?_
        refine lv_goto (tgt := 62) hx hb dX4_windReels_46 (by decide) ?_
        exact w4_windReels_62 C0 hr hz fl zr2 zhr2 I _ _ _ zx0 zx1 none zv6 zv1 zt0 (fun a h => by cases h) ezv6 tzv6 ezv1 tzv1 hw (lv_sub hl [1, 2] rfl) hf
theorem w4_windReels_2 {p : Program} {l : Launch} {e : Env} {s : State} {m : MethodId} {args : Array Value} {below : List Frame} {meth : Method} {c : Code} {E : EN} {G : GM} {X : Xm} (C0 : CX p s m args meth c E cX4_windReels RX4 4) (hr : meth.sig.returnType = none) (hz : s.heap.size + 0 ≤ eB E + G.1) {rr : Im} (fl : Nat) : ∀ (n : Nat) (I : Im) (H : Heap) (locs : List Loc) (ls : Array Slot) (zx0 : Nat) (zx1 : Int32) (zt0 : okA E G 4 zx0), WD E G I X s.heap H locs → lv_has ls 4 [(0, .ref zx0), (1, .int zx1)] → m4_windReels_2 fl G.2.2 X n I zx0 zx1 = some rr → W p l e ({ frames := 2, cells := 0, slots := 0, locals := 43 } : Room) s m args below meth c H locs 0 0 (MQ below (QV E G rr X) args s 0 0 (eA E)) (F0 m 2 ls []) := by
  intro n
  induction n with
  | zero => intro I H locs ls zx0 zx1 zt0 hw hl hf; exact absurd (show (none : Option (Im)) = some rr from hf) (by simp)
  | succ n ih => intro I H locs ls zx0 zx1 zt0 hw hl hf; exact w4_windReels_2b C0 hr hz fl _ ih I H locs ls zx0 zx1 zt0 hw hl hf
noncomputable def m4_windReels (fl : Nat) (len : Nat → Nat) (X : Xm) (I : Im) (zx0 : Nat) : Option (Im) :=
  m4_windReels_2 fl len X fl I zx0 (0 : Int32)
theorem hy4_windReels : yX4_windReels.cls = RX4 ∧ yX4_windReels.cls ≠ "java/lang/invoke/MethodHandle" ∧ yX4_windReels.cls ≠ "java/lang/invoke/VarHandle" ∧ (parseMethodDescriptor yX4_windReels.desc).map (fun d => d.parameters.length) = some 0 := ⟨rfl, by decide +kernel, by decide +kernel, by decide +kernel⟩
set_option maxHeartbeats 4000000 in
set_option maxRecDepth 100000 in
theorem c4_windReels (l : Launch) (E : EN) (G : GM) (fl : Nat) (X : Xm) (I : Im) (zx0 : Nat) (zt0 : okA E G 4 zx0) {rr : Im} (hf : m4_windReels fl G.2.2 X I zx0 = some rr) : MT l yX4_windReels cX4_windReels 4 none ({ frames := 2, cells := 0, slots := 0, locals := 43 } : Room) E G I X [.ref zx0] (QV E G rr X) 0 0 := by
  refine Met.ofW (cc := cX4_windReels) (maxL := 4) (ret := none) (by decide +kernel) rfl ?_
  intro p e s m args below meth c s₁ B hml hv
  obtain ⟨rfl, hw0, hSE⟩ := hv
  have C0 : CX p s m ([.ref zx0] : List Value).toArray meth c E cX4_windReels RX4 4 := ⟨B.exec, B.bytes, hml, findClass_of_methodNamed B.named, fun w hw => atoms_spec (ws := WS yX4_windReels cX4_windReels 4 none) B.pre w (List.mem_cons_of_mem _ hw), B.notSynchronized, hSE⟩
  have hz : s.heap.size + 0 ≤ eB E + G.1 := Nat.le_of_eq hw0.2.1
  have hw : WD E G I X s.heap s.heap [] := ⟨hw0, va_S.rf⟩
  have hr := B.returns
  have hx := C0.1; have hb := C0.2.1; have hml := C0.2.2.1; have hown := C0.2.2.2.1; have hts := C0.2.2.2.2.1
  have hl := lv_entry ([.ref zx0]) (n := 4) (Nat.le_of_ble_eq_true rfl)
  rw [lg_entry_eq]
  generalize (lg_sl ([.ref zx0]) ++ List.replicate (4 - (lg_sl ([.ref zx0])).length) Slot.unset).toArray = ls at hl ⊢
  have hl : lv_has ls 4 [(0, .ref zx0)] := hl
  unfold m4_windReels at hf
  refine lv_iconst (v := (0 : Int32)) hx hb dX4_windReels_0 (by decide) ?_
  refine lv_istore_n (lv' := [(1, .int (0 : Int32)), (0, .ref zx0)]) hx hb dX4_windReels_1 rfl hl (by decide) rfl (fun ls hl => ?_)
  exact w4_windReels_2 C0 hr hz fl fl I _ _ _ zx0 (0 : Int32) zt0 hw (lv_sub hl [1, 0] rfl) hf
noncomputable def m4_runSecond_112 (fl : Nat) (len : Nat → Nat) (X : Xm) (I : Im) (zx0 : Nat) (zx1 : Int32) (p_66 : Nat) (p_67 : Nat) (p_68 : Nat) : Option (Int32 × Im) :=
  lt (pF I 72 zx0 ((gF I 72 zx0) + (1 : Int32))) fun zI1 =>
  some (zx1, zI1)
set_option maxHeartbeats 4000000 in
set_option maxRecDepth 100000 in
theorem w4_runSecond_112 {p : Program} {l : Launch} {e : Env} {s : State} {m : MethodId} {args : Array Value} {below : List Frame} {meth : Method} {c : Code} {E : EN} {G : GM} {X : Xm} (C0 : CX p s m args meth c E cX4_runSecond RX4 3) (hr : meth.sig.returnType = (some .int)) (hz : s.heap.size + 0 ≤ eB E + G.1) {rr : Int32 × Im} (fl : Nat) : ∀ (I : Im) (H : Heap) (locs : List Loc) (ls : Array Slot) (zx0 : Nat) (zx1 : Int32) (p_66 : Nat) (p_67 : Nat) (p_68 : Nat) (zt0 : okA E G 4 zx0) (ep_66 : gR X 66 zx0 = some p_66) (tp_66 : okA E G 16 p_66) (ep_67 : gR X 67 zx0 = some p_67) (tp_67 : okA E G 13 p_67) (ep_68 : gR X 68 zx0 = some p_68) (tp_68 : okA E G 2 p_68), WD E G I X s.heap H locs → lv_has ls 3 [(0, .ref zx0), (1, .int zx1)] → m4_runSecond_112 fl G.2.2 X I zx0 zx1 p_66 p_67 p_68 = some rr → W p l e ({ frames := 3, cells := 0, slots := 0, locals := 68 } : Room) s m args below meth c H locs 0 0 (MQ below (QI E G rr.1 rr.2 X) args s 0 0 (eA E)) (F0 m 112 ls []) := by
  intro I H locs ls zx0 zx1 p_66 p_67 p_68 zt0 ep_66 tp_66 ep_67 tp_67 ep_68 tp_68 hw hl hf
  unfold m4_runSecond_112 at hf
  have hx := C0.1; have hb := C0.2.1; have hml := C0.2.2.1; have hown := C0.2.2.2.1; have hts := C0.2.2.2.2.1
  refine lv_aload_n hx hb dX4_runSecond_112 rfl (lv_at hl 0 rfl) ?_
  refine lv_dup hx hb dX4_runSecond_113 rfl ?_
  refine xg_4_8 C0 hw zt0 wd183 dX4_runSecond_114 ?_
  refine lv_iconst (v := (1 : Int32)) hx hb dX4_runSecond_117 (by decide) ?_
  refine lv_iadd hx hb dX4_runSecond_118 ?_
  obtain ⟨zI1, ezI1⟩ : ∃ y : Im, y = pF I 72 zx0 ((gF I 72 zx0) + (1 : Int32)) := ⟨_, rfl⟩
  have hf := lt_at hf ezI1
  refine xp_4_8 C0 hz hw zt0 rfl rfl wd183 dX4_runSecond_119 ezI1 (fun H locs hw => ?_)
  refine lv_iload_n hx hb dX4_runSecond_122 rfl (lv_at hl 1 rfl) ?_
  obtain rfl := Option.some.inj hf
  exact x_iret C0 hr hw dX4_runSecond_123
noncomputable def m4_runSecond_48b (fl : Nat) (len : Nat → Nat) (X : Xm) (zr48 : Im → Nat → Int32 → Int32 → Nat → Option (Int32 × Im)) (I : Im) (zx0 : Nat) (zx1 : Int32) (zx2 : Int32) (p_67 : Nat) : Option (Int32 × Im) :=
  nn (gR X 66 zx0) fun zv1 =>
  if (nI (len zv1)) ≤ zx2 then
    nn (gR X 68 zx0) fun zv3 =>
    nn (m2_hearSecond fl len X I zv3) fun zI4 =>
    nn (m4_windReels fl len X zI4 zx0) fun zI6 =>
    if (gF zI6 72 zx0) < 0 then
      m4_runSecond_112 fl len X zI6 zx0 zx1 zv1 p_67 zv3
    else
      nn (gR X 71 zx0) fun zv9 =>
      if (nI (len zv9)) ≤ (gF zI6 72 zx0) then
        m4_runSecond_112 fl len X zI6 zx0 zx1 zv1 p_67 zv3
      else
        ck (inb (gF zI6 72 zx0) (len zv9) = true) <|
        lt (pA zI6 zv9 ((gF zI6 72 zx0)).toNatClampNeg zx1) fun zI12 =>
        m4_runSecond_112 fl len X zI12 zx0 zx1 zv1 p_67 zv3
  else
    ck (inb zx2 (len zv1) = true) <|
    nn (gQ X zv1 (zx2).toNatClampNeg) fun zv14 =>
    nn (m5_playSecond fl len X I zv14) fun zI15 =>
    lt (zx2 + 1) fun zv17 =>
    zr48 zI15 zx0 zx1 zv17 p_67
noncomputable def m4_runSecond_48 (fl : Nat) (len : Nat → Nat) (X : Xm) (n : Nat) : Im → Nat → Int32 → Int32 → Nat → Option (Int32 × Im) :=
  Nat.rec (fun _ _ _ _ _ => none) (fun _ r => m4_runSecond_48b fl len X r) n
set_option maxHeartbeats 4000000 in
set_option maxRecDepth 100000 in
theorem w4_runSecond_48b {p : Program} {l : Launch} {e : Env} {s : State} {m : MethodId} {args : Array Value} {below : List Frame} {meth : Method} {c : Code} {E : EN} {G : GM} {X : Xm} (C0 : CX p s m args meth c E cX4_runSecond RX4 3) (hr : meth.sig.returnType = (some .int)) (hz : s.heap.size + 0 ≤ eB E + G.1) {rr : Int32 × Im} (fl : Nat) (zr48 : Im → Nat → Int32 → Int32 → Nat → Option (Int32 × Im)) (zhr48 : ∀ (I : Im) (H : Heap) (locs : List Loc) (ls : Array Slot) (zx0 : Nat) (zx1 : Int32) (zx2 : Int32) (p_67 : Nat) (zt0 : okA E G 4 zx0) (ep_67 : gR X 67 zx0 = some p_67) (tp_67 : okA E G 13 p_67), WD E G I X s.heap H locs → lv_has ls 3 [(0, .ref zx0), (1, .int zx1), (2, .int zx2)] → zr48 I zx0 zx1 zx2 p_67 = some rr → W p l e ({ frames := 3, cells := 0, slots := 0, locals := 68 } : Room) s m args below meth c H locs 0 0 (MQ below (QI E G rr.1 rr.2 X) args s 0 0 (eA E)) (F0 m 48 ls [])) : ∀ (I : Im) (H : Heap) (locs : List Loc) (ls : Array Slot) (zx0 : Nat) (zx1 : Int32) (zx2 : Int32) (p_67 : Nat) (zt0 : okA E G 4 zx0) (ep_67 : gR X 67 zx0 = some p_67) (tp_67 : okA E G 13 p_67), WD E G I X s.heap H locs → lv_has ls 3 [(0, .ref zx0), (1, .int zx1), (2, .int zx2)] → m4_runSecond_48b fl G.2.2 X zr48 I zx0 zx1 zx2 p_67 = some rr → W p l e ({ frames := 3, cells := 0, slots := 0, locals := 68 } : Room) s m args below meth c H locs 0 0 (MQ below (QI E G rr.1 rr.2 X) args s 0 0 (eA E)) (F0 m 48 ls []) := by
  intro I H locs ls zx0 zx1 zx2 p_67 zt0 ep_67 tp_67 hw hl hf
  unfold m4_runSecond_48b at hf
  have hx := C0.1; have hb := C0.2.1; have hml := C0.2.2.1; have hown := C0.2.2.2.1; have hts := C0.2.2.2.2.1
  refine lv_iload_n hx hb dX4_runSecond_48 rfl (lv_at hl 2 rfl) ?_
  refine lv_aload_n hx hb dX4_runSecond_49 rfl (lv_at hl 0 rfl) ?_
  obtain ⟨zv1, ezv1, hf⟩ := nn_some hf
  have tzv1 : okA E G 16 zv1 := wt_r hw ezv1
  refine xg_4_2 C0 hw zt0 wd149 ezv1 dX4_runSecond_50 ?_
  refine x_alen C0 hw 16 tzv1 (by decide) rfl dX4_runSecond_53 ?_
  refine lv_icmp_ge (tgt := 72) hx hb dX4_runSecond_54 (by decide) (fun zc2 => ?_) (fun zc2 => ?_)
  · have hf := ite_t hf zc2
    refine lv_aload_n hx hb dX4_runSecond_72 rfl (lv_at hl 0 rfl) ?_
    obtain ⟨zv3, ezv3, hf⟩ := nn_some hf
    have tzv3 : okA E G 2 zv3 := wt_r hw ezv3
    refine xg_4_4 C0 hw zt0 wd155 ezv3 dX4_runSecond_73 ?_
    obtain ⟨zI4, ze5, hf⟩ := nn_some hf
    refine x_cv (I1 := zI4) (X1 := X) (x_runV (As := []) (rest := []) C0 (c2_hearSecond l E G fl X I zv3 tzv3 ze5) hw 2 tzv3 (by decide) rfl wd8 wd303 wd304 wd305 wd154 ⟨rfl, rfl⟩ hy2_hearSecond ⟨Nat.le_of_ble_eq_true rfl, Nat.le_of_ble_eq_true rfl⟩ rfl hl.1 (Nat.le_of_ble_eq_true rfl) ⟨Nat.zero_le _, Nat.zero_le _⟩ dX4_runSecond_76) hw (fun H locs hw => ?_)
    refine lv_aload_n hx hb dX4_runSecond_79 rfl (lv_at hl 0 rfl) ?_
    obtain ⟨zI6, ze7, hf⟩ := nn_some hf
    refine x_cv (I1 := zI6) (X1 := X) (x_runV (As := []) (rest := []) C0 (c4_windReels l E G fl X zI4 zx0 zt0 ze7) hw 4 zt0 (by decide) rfl wd48 wd306 wd307 wd308 wd202 ⟨rfl, rfl⟩ hy4_windReels ⟨Nat.le_of_ble_eq_true rfl, Nat.le_of_ble_eq_true rfl⟩ rfl hl.1 (Nat.le_of_ble_eq_true rfl) ⟨Nat.zero_le _, Nat.zero_le _⟩ dX4_runSecond_80) hw (fun H locs hw => ?_)
    refine lv_aload_n hx hb dX4_runSecond_83 rfl (lv_at hl 0 rfl) ?_
    refine xg_4_8 C0 hw zt0 wd183 dX4_runSecond_84 ?_
    refine lv_if_lt (tgt := 112) hx hb dX4_runSecond_87 (by decide) (fun zc8 => ?_) (fun zc8 => ?_)
    · have hf := ite_t hf zc8
      exact w4_runSecond_112 C0 hr hz fl zI6 _ _ _ zx0 zx1 zv1 p_67 zv3 zt0 ezv1 tzv1 ep_67 tp_67 ezv3 tzv3 hw (lv_sub hl [0, 1] rfl) hf
    · have hf := ite_f hf zc8
      refine lv_aload_n hx hb dX4_runSecond_90 rfl (lv_at hl 0 rfl) ?_
      refine xg_4_8 C0 hw zt0 wd183 dX4_runSecond_91 ?_
      refine lv_aload_n hx hb dX4_runSecond_94 rfl (lv_at hl 0 rfl) ?_
      obtain ⟨zv9, ezv9, hf⟩ := nn_some hf
      have tzv9 : okA E G 11 zv9 := wt_r hw ezv9
      refine xg_4_7 C0 hw zt0 wd157 ezv9 dX4_runSecond_95 ?_
      refine x_alen C0 hw 11 tzv9 (by decide) rfl dX4_runSecond_98 ?_
      refine lv_icmp_ge (tgt := 112) hx hb dX4_runSecond_99 (by decide) (fun zc10 => ?_) (fun zc10 => ?_)
      · have hf := ite_t hf zc10
        exact w4_runSecond_112 C0 hr hz fl zI6 _ _ _ zx0 zx1 zv1 p_67 zv3 zt0 ezv1 tzv1 ep_67 tp_67 ezv3 tzv3 hw (lv_sub hl [0, 1] rfl) hf
      · have hf := ite_f hf zc10
        refine lv_aload_n hx hb dX4_runSecond_102 rfl (lv_at hl 0 rfl) ?_
        refine xg_4_7 C0 hw zt0 wd157 ezv9 dX4_runSecond_103 ?_
        refine lv_aload_n hx hb dX4_runSecond_106 rfl (lv_at hl 0 rfl) ?_
        refine xg_4_8 C0 hw zt0 wd183 dX4_runSecond_107 ?_
        refine lv_iload_n hx hb dX4_runSecond_110 rfl (lv_at hl 1 rfl) ?_
        obtain ⟨zhb11, hf⟩ := ck_some hf
        obtain ⟨zI12, ezI12⟩ : ∃ y : Im, y = pA zI6 zv9 ((gF zI6 72 zx0)).toNatClampNeg zx1 := ⟨_, rfl⟩
        have hf := lt_at hf ezI12
        refine x_iast C0 hz hw tzv9 zhb11 dX4_runSecond_111 ezI12 (fun H locs hw => ?_)
        exact w4_runSecond_112 C0 hr hz fl zI12 _ _ _ zx0 zx1 zv1 p_67 zv3 zt0 ezv1 tzv1 ep_67 tp_67 ezv3 tzv3 hw (lv_sub hl [0, 1] rfl) hf
  · have hf := ite_f hf zc2
    refine lv_aload_n hx hb dX4_runSecond_57 rfl (lv_at hl 0 rfl) ?_
    refine xg_4_2 C0 hw zt0 wd149 ezv1 dX4_runSecond_58 ?_
    refine lv_iload_n hx hb dX4_runSecond_61 rfl (lv_at hl 2 rfl) ?_
    obtain ⟨zhb13, hf⟩ := ck_some hf
    obtain ⟨zv14, ezv14, hf⟩ := nn_some hf
    have tzv14 : okA E G 5 zv14 := wt_q hw tzv1 ezv14
    refine x_qald C0 hw 16 tzv1 (by decide) rfl zhb13 ezv14 dX4_runSecond_62 ?_
    obtain ⟨zI15, ze16, hf⟩ := nn_some hf
    refine x_cv (I1 := zI15) (X1 := X) (x_runV (As := []) (rest := []) C0 (c5_playSecond l E G fl X I zv14 tzv14 ze16) hw 5 tzv14 (by decide) rfl wd46 wd300 wd301 wd302 wd159 ⟨rfl, rfl⟩ hy5_playSecond ⟨Nat.le_of_ble_eq_true rfl, Nat.le_of_ble_eq_true rfl⟩ rfl hl.1 (Nat.le_of_ble_eq_true rfl) ⟨Nat.zero_le _, Nat.zero_le _⟩ dX4_runSecond_63) hw (fun H locs hw => ?_)
    obtain ⟨zv17, ezv17⟩ : ∃ y : Int32, y = zx2 + 1 := ⟨_, rfl⟩
    have hf := lt_at hf ezv17
    refine lv_iinc (v := zv17) (lv' := [(2, .int zv17), (0, .ref zx0), (1, .int zx1)]) hx hb dX4_runSecond_66 hl (k := 2) rfl (by rw [ezv17]; rfl) (by decide) rfl (fun ls hl => ?_)
    refine lv_goto (tgt := 48) hx hb dX4_runSecond_69 (by decide) ?_
    exact zhr48 zI15 _ _ _ zx0 zx1 zv17 p_67 zt0 ep_67 tp_67 hw (lv_sub hl [1, 2, 0] rfl) hf
theorem w4_runSecond_48 {p : Program} {l : Launch} {e : Env} {s : State} {m : MethodId} {args : Array Value} {below : List Frame} {meth : Method} {c : Code} {E : EN} {G : GM} {X : Xm} (C0 : CX p s m args meth c E cX4_runSecond RX4 3) (hr : meth.sig.returnType = (some .int)) (hz : s.heap.size + 0 ≤ eB E + G.1) {rr : Int32 × Im} (fl : Nat) : ∀ (n : Nat) (I : Im) (H : Heap) (locs : List Loc) (ls : Array Slot) (zx0 : Nat) (zx1 : Int32) (zx2 : Int32) (p_67 : Nat) (zt0 : okA E G 4 zx0) (ep_67 : gR X 67 zx0 = some p_67) (tp_67 : okA E G 13 p_67), WD E G I X s.heap H locs → lv_has ls 3 [(0, .ref zx0), (1, .int zx1), (2, .int zx2)] → m4_runSecond_48 fl G.2.2 X n I zx0 zx1 zx2 p_67 = some rr → W p l e ({ frames := 3, cells := 0, slots := 0, locals := 68 } : Room) s m args below meth c H locs 0 0 (MQ below (QI E G rr.1 rr.2 X) args s 0 0 (eA E)) (F0 m 48 ls []) := by
  intro n
  induction n with
  | zero => intro I H locs ls zx0 zx1 zx2 p_67 zt0 ep_67 tp_67 hw hl hf; exact absurd (show (none : Option (Int32 × Im)) = some rr from hf) (by simp)
  | succ n ih => intro I H locs ls zx0 zx1 zx2 p_67 zt0 ep_67 tp_67 hw hl hf; exact w4_runSecond_48b C0 hr hz fl _ ih I H locs ls zx0 zx1 zx2 p_67 zt0 ep_67 tp_67 hw hl hf
noncomputable def m4_runSecond_6b (fl : Nat) (len : Nat → Nat) (X : Xm) (zr6 : Im → Nat → Int32 → Option (Int32 × Im)) (I : Im) (zx0 : Nat) (zx1 : Int32) : Option (Int32 × Im) :=
  nn (gR X 67 zx0) fun zv1 =>
  if (nI (len zv1)) ≤ zx1 then
    nn (m4_loudnessOfReels fl len X I zx0) fun zv3 =>
    nn (m4_loudnessOfDoors fl len X I zx0) fun zv5 =>
    lt ((zv3 + zv5)) fun zv7 =>
    m4_runSecond_48 fl len X fl I zx0 zv7 (0 : Int32) zv1
  else
    ck (inb zx1 (len zv1) = true) <|
    nn (gQ X zv1 (zx1).toNatClampNeg) fun zv9 =>
    nn (gR X 64 zx0) fun zv10 =>
    ck (inb (2 : Int32) (len zv10) = true) <|
    nn (m0_fade fl len X I zv9 (gA I zv10 ((2 : Int32)).toNatClampNeg)) fun zI12 =>
    lt (zx1 + 1) fun zv14 =>
    zr6 zI12 zx0 zv14
noncomputable def m4_runSecond_6 (fl : Nat) (len : Nat → Nat) (X : Xm) (n : Nat) : Im → Nat → Int32 → Option (Int32 × Im) :=
  Nat.rec (fun _ _ _ => none) (fun _ r => m4_runSecond_6b fl len X r) n
set_option maxHeartbeats 4000000 in
set_option maxRecDepth 100000 in
theorem w4_runSecond_6b {p : Program} {l : Launch} {e : Env} {s : State} {m : MethodId} {args : Array Value} {below : List Frame} {meth : Method} {c : Code} {E : EN} {G : GM} {X : Xm} (C0 : CX p s m args meth c E cX4_runSecond RX4 3) (hr : meth.sig.returnType = (some .int)) (hz : s.heap.size + 0 ≤ eB E + G.1) {rr : Int32 × Im} (fl : Nat) (zr6 : Im → Nat → Int32 → Option (Int32 × Im)) (zhr6 : ∀ (I : Im) (H : Heap) (locs : List Loc) (ls : Array Slot) (zx0 : Nat) (zx1 : Int32) (zt0 : okA E G 4 zx0), WD E G I X s.heap H locs → lv_has ls 3 [(0, .ref zx0), (1, .int zx1)] → zr6 I zx0 zx1 = some rr → W p l e ({ frames := 3, cells := 0, slots := 0, locals := 68 } : Room) s m args below meth c H locs 0 0 (MQ below (QI E G rr.1 rr.2 X) args s 0 0 (eA E)) (F0 m 6 ls [])) : ∀ (I : Im) (H : Heap) (locs : List Loc) (ls : Array Slot) (zx0 : Nat) (zx1 : Int32) (zt0 : okA E G 4 zx0), WD E G I X s.heap H locs → lv_has ls 3 [(0, .ref zx0), (1, .int zx1)] → m4_runSecond_6b fl G.2.2 X zr6 I zx0 zx1 = some rr → W p l e ({ frames := 3, cells := 0, slots := 0, locals := 68 } : Room) s m args below meth c H locs 0 0 (MQ below (QI E G rr.1 rr.2 X) args s 0 0 (eA E)) (F0 m 6 ls []) := by
  intro I H locs ls zx0 zx1 zt0 hw hl hf
  unfold m4_runSecond_6b at hf
  have hx := C0.1; have hb := C0.2.1; have hml := C0.2.2.1; have hown := C0.2.2.2.1; have hts := C0.2.2.2.2.1
  refine lv_iload_n hx hb dX4_runSecond_6 rfl (lv_at hl 1 rfl) ?_
  refine lv_aload_n hx hb dX4_runSecond_7 rfl (lv_at hl 0 rfl) ?_
  obtain ⟨zv1, ezv1, hf⟩ := nn_some hf
  have tzv1 : okA E G 13 zv1 := wt_r hw ezv1
  refine xg_4_3 C0 hw zt0 wd151 ezv1 dX4_runSecond_8 ?_
  refine x_alen C0 hw 13 tzv1 (by decide) rfl dX4_runSecond_11 ?_
  refine lv_icmp_ge (tgt := 36) hx hb dX4_runSecond_12 (by decide) (fun zc2 => ?_) (fun zc2 => ?_)
  · have hf := ite_t hf zc2
    refine lv_aload_n hx hb dX4_runSecond_36 rfl (lv_at hl 0 rfl) ?_
    obtain ⟨zv3, ze4, hf⟩ := nn_some hf
    refine x_ci (r := zv3) (I1 := I) (X1 := X) (x_runV (As := []) (rest := []) C0 (c4_loudnessOfReels l E G fl X I zx0 zt0 ze4) hw 4 zt0 (by decide) rfl wd44 wd294 wd295 wd296 wd202 ⟨rfl, rfl⟩ hy4_loudnessOfReels ⟨Nat.le_of_ble_eq_true rfl, Nat.le_of_ble_eq_true rfl⟩ rfl hl.1 (Nat.le_of_ble_eq_true rfl) ⟨Nat.zero_le _, Nat.zero_le _⟩ dX4_runSecond_37) hw (fun H locs hw => ?_)
    refine lv_aload_n hx hb dX4_runSecond_40 rfl (lv_at hl 0 rfl) ?_
    obtain ⟨zv5, ze6, hf⟩ := nn_some hf
    refine x_ci (r := zv5) (I1 := I) (X1 := X) (x_runV (As := []) (rest := [.int zv3]) C0 (c4_loudnessOfDoors l E G fl X I zx0 zt0 ze6) hw 4 zt0 (by decide) rfl wd45 wd297 wd298 wd299 wd202 ⟨rfl, rfl⟩ hy4_loudnessOfDoors ⟨Nat.le_of_ble_eq_true rfl, Nat.le_of_ble_eq_true rfl⟩ rfl hl.1 (Nat.le_of_ble_eq_true rfl) ⟨Nat.zero_le _, Nat.zero_le _⟩ dX4_runSecond_41) hw (fun H locs hw => ?_)
    refine lv_iadd hx hb dX4_runSecond_44 ?_
    refine lv_topi (fun zv7 ezv7 => ?_)
    have hf := lt_at hf ezv7
    refine lv_istore_n (lv' := [(1, .int zv7), (0, .ref zx0)]) hx hb dX4_runSecond_45 rfl hl (by decide) rfl (fun ls hl => ?_)
    refine lv_iconst (v := (0 : Int32)) hx hb dX4_runSecond_46 (by decide) ?_
    refine lv_istore_n (lv' := [(2, .int (0 : Int32)), (1, .int zv7), (0, .ref zx0)]) hx hb dX4_runSecond_47 rfl hl (by decide) rfl (fun ls hl => ?_)
    exact w4_runSecond_48 C0 hr hz fl fl I _ _ _ zx0 zv7 (0 : Int32) zv1 zt0 ezv1 tzv1 hw (lv_sub hl [2, 1, 0] rfl) hf
  · have hf := ite_f hf zc2
    refine lv_aload_n hx hb dX4_runSecond_15 rfl (lv_at hl 0 rfl) ?_
    refine xg_4_3 C0 hw zt0 wd151 ezv1 dX4_runSecond_16 ?_
    refine lv_iload_n hx hb dX4_runSecond_19 rfl (lv_at hl 1 rfl) ?_
    obtain ⟨zhb8, hf⟩ := ck_some hf
    obtain ⟨zv9, ezv9, hf⟩ := nn_some hf
    have tzv9 : okA E G 0 zv9 := wt_q hw tzv1 ezv9
    refine x_qald C0 hw 13 tzv1 (by decide) rfl zhb8 ezv9 dX4_runSecond_20 ?_
    refine lv_aload_n hx hb dX4_runSecond_21 rfl (lv_at hl 0 rfl) ?_
    obtain ⟨zv10, ezv10, hf⟩ := nn_some hf
    have tzv10 : okA E G 11 zv10 := wt_r hw ezv10
    refine xg_4_0 C0 hw zt0 wd143 ezv10 dX4_runSecond_22 ?_
    refine lv_iconst (v := (2 : Int32)) hx hb dX4_runSecond_25 (by decide) ?_
    obtain ⟨zhb11, hf⟩ := ck_some hf
    refine x_iald C0 hw tzv10 zhb11 dX4_runSecond_26 ?_
    obtain ⟨zI12, ze13, hf⟩ := nn_some hf
    refine x_cv (I1 := zI12) (X1 := X) (x_runV (As := [.int (gA I zv10 ((2 : Int32)).toNatClampNeg)]) (rest := []) C0 (c0_fade l E G fl X I zv9 (gA I zv10 ((2 : Int32)).toNatClampNeg) tzv9 ze13) hw 0 tzv9 (by decide) rfl wd2 wd291 wd292 wd293 wd161 ⟨rfl, rfl⟩ hy0_fade ⟨Nat.le_of_ble_eq_true rfl, Nat.le_of_ble_eq_true rfl⟩ rfl hl.1 (Nat.le_of_ble_eq_true rfl) ⟨Nat.zero_le _, Nat.zero_le _⟩ dX4_runSecond_27) hw (fun H locs hw => ?_)
    obtain ⟨zv14, ezv14⟩ : ∃ y : Int32, y = zx1 + 1 := ⟨_, rfl⟩
    have hf := lt_at hf ezv14
    refine lv_iinc (v := zv14) (lv' := [(1, .int zv14), (0, .ref zx0)]) hx hb dX4_runSecond_30 hl (k := 1) rfl (by rw [ezv14]; rfl) (by decide) rfl (fun ls hl => ?_)
    refine lv_goto (tgt := 6) hx hb dX4_runSecond_33 (by decide) ?_
    exact zhr6 zI12 _ _ _ zx0 zv14 zt0 hw (lv_sub hl [1, 0] rfl) hf
theorem w4_runSecond_6 {p : Program} {l : Launch} {e : Env} {s : State} {m : MethodId} {args : Array Value} {below : List Frame} {meth : Method} {c : Code} {E : EN} {G : GM} {X : Xm} (C0 : CX p s m args meth c E cX4_runSecond RX4 3) (hr : meth.sig.returnType = (some .int)) (hz : s.heap.size + 0 ≤ eB E + G.1) {rr : Int32 × Im} (fl : Nat) : ∀ (n : Nat) (I : Im) (H : Heap) (locs : List Loc) (ls : Array Slot) (zx0 : Nat) (zx1 : Int32) (zt0 : okA E G 4 zx0), WD E G I X s.heap H locs → lv_has ls 3 [(0, .ref zx0), (1, .int zx1)] → m4_runSecond_6 fl G.2.2 X n I zx0 zx1 = some rr → W p l e ({ frames := 3, cells := 0, slots := 0, locals := 68 } : Room) s m args below meth c H locs 0 0 (MQ below (QI E G rr.1 rr.2 X) args s 0 0 (eA E)) (F0 m 6 ls []) := by
  intro n
  induction n with
  | zero => intro I H locs ls zx0 zx1 zt0 hw hl hf; exact absurd (show (none : Option (Int32 × Im)) = some rr from hf) (by simp)
  | succ n ih => intro I H locs ls zx0 zx1 zt0 hw hl hf; exact w4_runSecond_6b C0 hr hz fl _ ih I H locs ls zx0 zx1 zt0 hw hl hf
noncomputable def m4_runSecond (fl : Nat) (len : Nat → Nat) (X : Xm) (I : Im) (zx0 : Nat) : Option (Int32 × Im) :=
  nn (m4_letCuesCome fl len X I zx0) fun zI1 =>
  m4_runSecond_6 fl len X fl zI1 zx0 (0 : Int32)
theorem hy4_runSecond : yX4_runSecond.cls = RX4 ∧ yX4_runSecond.cls ≠ "java/lang/invoke/MethodHandle" ∧ yX4_runSecond.cls ≠ "java/lang/invoke/VarHandle" ∧ (parseMethodDescriptor yX4_runSecond.desc).map (fun d => d.parameters.length) = some 0 := ⟨rfl, by decide +kernel, by decide +kernel, by decide +kernel⟩
set_option maxHeartbeats 4000000 in
set_option maxRecDepth 100000 in
theorem c4_runSecond (l : Launch) (E : EN) (G : GM) (fl : Nat) (X : Xm) (I : Im) (zx0 : Nat) (zt0 : okA E G 4 zx0) {rr : Int32 × Im} (hf : m4_runSecond fl G.2.2 X I zx0 = some rr) : MT l yX4_runSecond cX4_runSecond 3 (some .int) ({ frames := 3, cells := 0, slots := 0, locals := 68 } : Room) E G I X [.ref zx0] (QI E G rr.1 rr.2 X) 0 0 := by
  refine Met.ofW (cc := cX4_runSecond) (maxL := 3) (ret := (some .int)) (by decide +kernel) rfl ?_
  intro p e s m args below meth c s₁ B hml hv
  obtain ⟨rfl, hw0, hSE⟩ := hv
  have C0 : CX p s m ([.ref zx0] : List Value).toArray meth c E cX4_runSecond RX4 3 := ⟨B.exec, B.bytes, hml, findClass_of_methodNamed B.named, fun w hw => atoms_spec (ws := WS yX4_runSecond cX4_runSecond 3 (some .int)) B.pre w (List.mem_cons_of_mem _ hw), B.notSynchronized, hSE⟩
  have hz : s.heap.size + 0 ≤ eB E + G.1 := Nat.le_of_eq hw0.2.1
  have hw : WD E G I X s.heap s.heap [] := ⟨hw0, va_S.rf⟩
  have hr := B.returns
  have hx := C0.1; have hb := C0.2.1; have hml := C0.2.2.1; have hown := C0.2.2.2.1; have hts := C0.2.2.2.2.1
  have hl := lv_entry ([.ref zx0]) (n := 3) (Nat.le_of_ble_eq_true rfl)
  rw [lg_entry_eq]
  generalize (lg_sl ([.ref zx0]) ++ List.replicate (3 - (lg_sl ([.ref zx0])).length) Slot.unset).toArray = ls at hl ⊢
  have hl : lv_has ls 3 [(0, .ref zx0)] := hl
  unfold m4_runSecond at hf
  refine lv_aload_n hx hb dX4_runSecond_0 rfl (lv_at hl 0 rfl) ?_
  obtain ⟨zI1, ze2, hf⟩ := nn_some hf
  refine x_cv (I1 := zI1) (X1 := X) (x_runV (As := []) (rest := []) C0 (c4_letCuesCome l E G fl X I zx0 zt0 ze2) hw 4 zt0 (by decide) rfl wd42 wd288 wd289 wd290 wd202 ⟨rfl, rfl⟩ hy4_letCuesCome ⟨Nat.le_of_ble_eq_true rfl, Nat.le_of_ble_eq_true rfl⟩ rfl hl.1 (Nat.le_of_ble_eq_true rfl) ⟨Nat.zero_le _, Nat.zero_le _⟩ dX4_runSecond_1) hw (fun H locs hw => ?_)
  refine lv_iconst (v := (0 : Int32)) hx hb dX4_runSecond_4 (by decide) ?_
  refine lv_istore_n (lv' := [(1, .int (0 : Int32)), (0, .ref zx0)]) hx hb dX4_runSecond_5 rfl hl (by decide) rfl (fun ls hl => ?_)
  exact w4_runSecond_6 C0 hr hz fl fl zI1 _ _ _ zx0 (0 : Int32) zt0 hw (lv_sub hl [1, 0] rfl) hf
noncomputable def m8_missedInTrial_46 (fl : Nat) (len : Nat → Nat) (X : Xm) (I : Im) (zx0 : Nat) (zx1 : Int32) (p_129 : Nat) (p_129_65 : Nat) : Option (Int32 × Im) :=
  nn (m6_missedCues fl len X I p_129_65) fun zv1 =>
  some ((zv1 - zx1), I)
set_option maxHeartbeats 4000000 in
set_option maxRecDepth 100000 in
theorem w8_missedInTrial_46 {p : Program} {l : Launch} {e : Env} {s : State} {m : MethodId} {args : Array Value} {below : List Frame} {meth : Method} {c : Code} {E : EN} {G : GM} {X : Xm} (C0 : CX p s m args meth c E cX8_missedInTrial RX8 3) (hr : meth.sig.returnType = (some .int)) (hz : s.heap.size + 0 ≤ eB E + G.1) {rr : Int32 × Im} (fl : Nat) : ∀ (I : Im) (H : Heap) (locs : List Loc) (ls : Array Slot) (zx0 : Nat) (zx1 : Int32) (p_129 : Nat) (p_129_65 : Nat) (zt0 : okA E G 8 zx0) (ep_129 : gR X 129 zx0 = some p_129) (tp_129 : okA E G 4 p_129) (ep_129_65 : gR X 65 p_129 = some p_129_65) (tp_129_65 : okA E G 6 p_129_65), WD E G I X s.heap H locs → lv_has ls 3 [(0, .ref zx0), (1, .int zx1)] → m8_missedInTrial_46 fl G.2.2 X I zx0 zx1 p_129 p_129_65 = some rr → W p l e ({ frames := 4, cells := 0, slots := 0, locals := 90 } : Room) s m args below meth c H locs 0 0 (MQ below (QI E G rr.1 rr.2 X) args s 0 0 (eA E)) (F0 m 46 ls []) := by
  intro I H locs ls zx0 zx1 p_129 p_129_65 zt0 ep_129 tp_129 ep_129_65 tp_129_65 hw hl hf
  unfold m8_missedInTrial_46 at hf
  have hx := C0.1; have hb := C0.2.1; have hml := C0.2.2.1; have hown := C0.2.2.2.1; have hts := C0.2.2.2.2.1
  refine lv_aload_n hx hb dX8_missedInTrial_46 rfl (lv_at hl 0 rfl) ?_
  refine xg_8_1 C0 hw zt0 wd320 ep_129 dX8_missedInTrial_47 ?_
  refine xg_4_1 C0 hw tp_129 wd354 ep_129_65 dX8_missedInTrial_50 ?_
  obtain ⟨zv1, ze2, hf⟩ := nn_some hf
  refine x_ci (r := zv1) (I1 := I) (X1 := X) (x_runV (As := []) (rest := []) C0 (c6_missedCues l E G fl X I p_129_65 tp_129_65 ze2) hw 6 tp_129_65 (by decide) rfl wd40 wd411 wd310 wd311 wd146 ⟨rfl, rfl⟩ hy6_missedCues ⟨Nat.le_of_ble_eq_true rfl, Nat.le_of_ble_eq_true rfl⟩ rfl hl.1 (Nat.le_of_ble_eq_true rfl) ⟨Nat.zero_le _, Nat.zero_le _⟩ dX8_missedInTrial_53) hw (fun H locs hw => ?_)
  refine lv_iload_n hx hb dX8_missedInTrial_56 rfl (lv_at hl 1 rfl) ?_
  refine lv_isub hx hb dX8_missedInTrial_57 ?_
  obtain rfl := Option.some.inj hf
  exact x_iret C0 hr hw dX8_missedInTrial_58
noncomputable def m8_missedInTrial_13b (fl : Nat) (len : Nat → Nat) (X : Xm) (zr13 : Im → Nat → Int32 → Int32 → Nat → Nat → Option (Int32 × Im)) (I : Im) (zx0 : Nat) (zx1 : Int32) (zx2 : Int32) (p_129 : Nat) (p_129_65 : Nat) : Option (Int32 × Im) :=
  if (1000000 : Int32) ≤ zx2 then
    m8_missedInTrial_46 fl len X I zx0 zx1 p_129 p_129_65
  else
    nn (m6_anyToCome fl len X I p_129_65) fun zv2 =>
    if zv2 = 0 then
      m8_missedInTrial_46 fl len X I zx0 zx1 p_129 p_129_65
    else
      nn (m4_runSecond fl len X I p_129) fun ⟨zv5, zI6⟩ =>
      lt (zx2 + 1) fun zv8 =>
      zr13 zI6 zx0 zx1 zv8 p_129 p_129_65
noncomputable def m8_missedInTrial_13 (fl : Nat) (len : Nat → Nat) (X : Xm) (n : Nat) : Im → Nat → Int32 → Int32 → Nat → Nat → Option (Int32 × Im) :=
  Nat.rec (fun _ _ _ _ _ _ => none) (fun _ r => m8_missedInTrial_13b fl len X r) n
set_option maxHeartbeats 4000000 in
set_option maxRecDepth 100000 in
theorem w8_missedInTrial_13b {p : Program} {l : Launch} {e : Env} {s : State} {m : MethodId} {args : Array Value} {below : List Frame} {meth : Method} {c : Code} {E : EN} {G : GM} {X : Xm} (C0 : CX p s m args meth c E cX8_missedInTrial RX8 3) (hr : meth.sig.returnType = (some .int)) (hz : s.heap.size + 0 ≤ eB E + G.1) {rr : Int32 × Im} (fl : Nat) (zr13 : Im → Nat → Int32 → Int32 → Nat → Nat → Option (Int32 × Im)) (zhr13 : ∀ (I : Im) (H : Heap) (locs : List Loc) (ls : Array Slot) (zx0 : Nat) (zx1 : Int32) (zx2 : Int32) (p_129 : Nat) (p_129_65 : Nat) (zt0 : okA E G 8 zx0) (ep_129 : gR X 129 zx0 = some p_129) (tp_129 : okA E G 4 p_129) (ep_129_65 : gR X 65 p_129 = some p_129_65) (tp_129_65 : okA E G 6 p_129_65), WD E G I X s.heap H locs → lv_has ls 3 [(0, .ref zx0), (1, .int zx1), (2, .int zx2)] → zr13 I zx0 zx1 zx2 p_129 p_129_65 = some rr → W p l e ({ frames := 4, cells := 0, slots := 0, locals := 90 } : Room) s m args below meth c H locs 0 0 (MQ below (QI E G rr.1 rr.2 X) args s 0 0 (eA E)) (F0 m 13 ls [])) : ∀ (I : Im) (H : Heap) (locs : List Loc) (ls : Array Slot) (zx0 : Nat) (zx1 : Int32) (zx2 : Int32) (p_129 : Nat) (p_129_65 : Nat) (zt0 : okA E G 8 zx0) (ep_129 : gR X 129 zx0 = some p_129) (tp_129 : okA E G 4 p_129) (ep_129_65 : gR X 65 p_129 = some p_129_65) (tp_129_65 : okA E G 6 p_129_65), WD E G I X s.heap H locs → lv_has ls 3 [(0, .ref zx0), (1, .int zx1), (2, .int zx2)] → m8_missedInTrial_13b fl G.2.2 X zr13 I zx0 zx1 zx2 p_129 p_129_65 = some rr → W p l e ({ frames := 4, cells := 0, slots := 0, locals := 90 } : Room) s m args below meth c H locs 0 0 (MQ below (QI E G rr.1 rr.2 X) args s 0 0 (eA E)) (F0 m 13 ls []) := by
  intro I H locs ls zx0 zx1 zx2 p_129 p_129_65 zt0 ep_129 tp_129 ep_129_65 tp_129_65 hw hl hf
  unfold m8_missedInTrial_13b at hf
  have hx := C0.1; have hb := C0.2.1; have hml := C0.2.2.1; have hown := C0.2.2.2.1; have hts := C0.2.2.2.2.1
  refine lv_iload_n hx hb dX8_missedInTrial_13 rfl (lv_at hl 2 rfl) ?_
  refine lv_ldc (v := (1000000 : Int32)) hx hb hown (hts _ wd410) dX8_missedInTrial_14 ?_
  refine lv_icmp_ge (tgt := 46) hx hb dX8_missedInTrial_16 (by decide) (fun zc1 => ?_) (fun zc1 => ?_)
  · have hf := ite_t hf zc1
    exact w8_missedInTrial_46 C0 hr hz fl I _ _ _ zx0 zx1 p_129 p_129_65 zt0 ep_129 tp_129 ep_129_65 tp_129_65 hw (lv_sub hl [0, 1] rfl) hf
  · have hf := ite_f hf zc1
    refine lv_aload_n hx hb dX8_missedInTrial_19 rfl (lv_at hl 0 rfl) ?_
    refine xg_8_1 C0 hw zt0 wd320 ep_129 dX8_missedInTrial_20 ?_
    refine xg_4_1 C0 hw tp_129 wd354 ep_129_65 dX8_missedInTrial_23 ?_
    obtain ⟨zv2, ze3, hf⟩ := nn_some hf
    refine x_ci (r := zv2) (I1 := I) (X1 := X) (x_runV (As := []) (rest := []) C0 (c6_anyToCome l E G fl X I p_129_65 tp_129_65 ze3) hw 6 tp_129_65 (by decide) rfl wd54 wd412 wd413 wd414 wd146 ⟨rfl, rfl⟩ hy6_anyToCome ⟨Nat.le_of_ble_eq_true rfl, Nat.le_of_ble_eq_true rfl⟩ rfl hl.1 (Nat.le_of_ble_eq_true rfl) ⟨Nat.zero_le _, Nat.zero_le _⟩ dX8_missedInTrial_26) hw (fun H locs hw => ?_)
    refine lv_if_eq (tgt := 46) hx hb dX8_missedInTrial_29 (by decide) (fun zc4 => ?_) (fun zc4 => ?_)
    · have hf := ite_t hf zc4
      exact w8_missedInTrial_46 C0 hr hz fl I _ _ _ zx0 zx1 p_129 p_129_65 zt0 ep_129 tp_129 ep_129_65 tp_129_65 hw (lv_sub hl [0, 1] rfl) hf
    · have hf := ite_f hf zc4
      refine lv_aload_n hx hb dX8_missedInTrial_32 rfl (lv_at hl 0 rfl) ?_
      refine xg_8_1 C0 hw zt0 wd320 ep_129 dX8_missedInTrial_33 ?_
      obtain ⟨⟨zv5, zI6⟩, ze7, hf⟩ := nn_some hf
      refine x_ci (r := zv5) (I1 := zI6) (X1 := X) (x_runV (As := []) (rest := []) C0 (c4_runSecond l E G fl X I p_129 tp_129 ze7) hw 4 tp_129 (by decide) rfl wd49 wd415 wd313 wd314 wd202 ⟨rfl, rfl⟩ hy4_runSecond ⟨Nat.le_of_ble_eq_true rfl, Nat.le_of_ble_eq_true rfl⟩ rfl hl.1 (Nat.le_of_ble_eq_true rfl) ⟨Nat.zero_le _, Nat.zero_le _⟩ dX8_missedInTrial_36) hw (fun H locs hw => ?_)
      refine lv_pop hx hb dX8_missedInTrial_39 rfl ?_
      obtain ⟨zv8, ezv8⟩ : ∃ y : Int32, y = zx2 + 1 := ⟨_, rfl⟩
      have hf := lt_at hf ezv8
      refine lv_iinc (v := zv8) (lv' := [(2, .int zv8), (0, .ref zx0), (1, .int zx1)]) hx hb dX8_missedInTrial_40 hl (k := 2) rfl (by rw [ezv8]; rfl) (by decide) rfl (fun ls hl => ?_)
      refine lv_goto (tgt := 13) hx hb dX8_missedInTrial_43 (by decide) ?_
      exact zhr13 zI6 _ _ _ zx0 zx1 zv8 p_129 p_129_65 zt0 ep_129 tp_129 ep_129_65 tp_129_65 hw (lv_sub hl [1, 2, 0] rfl) hf
theorem w8_missedInTrial_13 {p : Program} {l : Launch} {e : Env} {s : State} {m : MethodId} {args : Array Value} {below : List Frame} {meth : Method} {c : Code} {E : EN} {G : GM} {X : Xm} (C0 : CX p s m args meth c E cX8_missedInTrial RX8 3) (hr : meth.sig.returnType = (some .int)) (hz : s.heap.size + 0 ≤ eB E + G.1) {rr : Int32 × Im} (fl : Nat) : ∀ (n : Nat) (I : Im) (H : Heap) (locs : List Loc) (ls : Array Slot) (zx0 : Nat) (zx1 : Int32) (zx2 : Int32) (p_129 : Nat) (p_129_65 : Nat) (zt0 : okA E G 8 zx0) (ep_129 : gR X 129 zx0 = some p_129) (tp_129 : okA E G 4 p_129) (ep_129_65 : gR X 65 p_129 = some p_129_65) (tp_129_65 : okA E G 6 p_129_65), WD E G I X s.heap H locs → lv_has ls 3 [(0, .ref zx0), (1, .int zx1), (2, .int zx2)] → m8_missedInTrial_13 fl G.2.2 X n I zx0 zx1 zx2 p_129 p_129_65 = some rr → W p l e ({ frames := 4, cells := 0, slots := 0, locals := 90 } : Room) s m args below meth c H locs 0 0 (MQ below (QI E G rr.1 rr.2 X) args s 0 0 (eA E)) (F0 m 13 ls []) := by
  intro n
  induction n with
  | zero => intro I H locs ls zx0 zx1 zx2 p_129 p_129_65 zt0 ep_129 tp_129 ep_129_65 tp_129_65 hw hl hf; exact absurd (show (none : Option (Int32 × Im)) = some rr from hf) (by simp)
  | succ n ih => intro I H locs ls zx0 zx1 zx2 p_129 p_129_65 zt0 ep_129 tp_129 ep_129_65 tp_129_65 hw hl hf; exact w8_missedInTrial_13b C0 hr hz fl _ ih I H locs ls zx0 zx1 zx2 p_129 p_129_65 zt0 ep_129 tp_129 ep_129_65 tp_129_65 hw hl hf
noncomputable def m8_missedInTrial (fl : Nat) (len : Nat → Nat) (X : Xm) (I : Im) (zx0 : Nat) : Option (Int32 × Im) :=
  nn (gR X 129 zx0) fun zv1 =>
  nn (gR X 65 zv1) fun zv2 =>
  nn (m6_missedCues fl len X I zv2) fun zv3 =>
  m8_missedInTrial_13 fl len X fl I zx0 zv3 (0 : Int32) zv1 zv2
theorem hy8_missedInTrial : yX8_missedInTrial.cls = RX8 ∧ yX8_missedInTrial.cls ≠ "java/lang/invoke/MethodHandle" ∧ yX8_missedInTrial.cls ≠ "java/lang/invoke/VarHandle" ∧ (parseMethodDescriptor yX8_missedInTrial.desc).map (fun d => d.parameters.length) = some 0 := ⟨rfl, by decide +kernel, by decide +kernel, by decide +kernel⟩
set_option maxHeartbeats 4000000 in
set_option maxRecDepth 100000 in
theorem c8_missedInTrial (l : Launch) (E : EN) (G : GM) (fl : Nat) (X : Xm) (I : Im) (zx0 : Nat) (zt0 : okA E G 8 zx0) {rr : Int32 × Im} (hf : m8_missedInTrial fl G.2.2 X I zx0 = some rr) : MT l yX8_missedInTrial cX8_missedInTrial 3 (some .int) ({ frames := 4, cells := 0, slots := 0, locals := 90 } : Room) E G I X [.ref zx0] (QI E G rr.1 rr.2 X) 0 0 := by
  refine Met.ofW (cc := cX8_missedInTrial) (maxL := 3) (ret := (some .int)) (by decide +kernel) rfl ?_
  intro p e s m args below meth c s₁ B hml hv
  obtain ⟨rfl, hw0, hSE⟩ := hv
  have C0 : CX p s m ([.ref zx0] : List Value).toArray meth c E cX8_missedInTrial RX8 3 := ⟨B.exec, B.bytes, hml, findClass_of_methodNamed B.named, fun w hw => atoms_spec (ws := WS yX8_missedInTrial cX8_missedInTrial 3 (some .int)) B.pre w (List.mem_cons_of_mem _ hw), B.notSynchronized, hSE⟩
  have hz : s.heap.size + 0 ≤ eB E + G.1 := Nat.le_of_eq hw0.2.1
  have hw : WD E G I X s.heap s.heap [] := ⟨hw0, va_S.rf⟩
  have hr := B.returns
  have hx := C0.1; have hb := C0.2.1; have hml := C0.2.2.1; have hown := C0.2.2.2.1; have hts := C0.2.2.2.2.1
  have hl := lv_entry ([.ref zx0]) (n := 3) (Nat.le_of_ble_eq_true rfl)
  rw [lg_entry_eq]
  generalize (lg_sl ([.ref zx0]) ++ List.replicate (3 - (lg_sl ([.ref zx0])).length) Slot.unset).toArray = ls at hl ⊢
  have hl : lv_has ls 3 [(0, .ref zx0)] := hl
  unfold m8_missedInTrial at hf
  refine lv_aload_n hx hb dX8_missedInTrial_0 rfl (lv_at hl 0 rfl) ?_
  obtain ⟨zv1, ezv1, hf⟩ := nn_some hf
  have tzv1 : okA E G 4 zv1 := wt_r hw ezv1
  refine xg_8_1 C0 hw zt0 wd320 ezv1 dX8_missedInTrial_1 ?_
  obtain ⟨zv2, ezv2, hf⟩ := nn_some hf
  have tzv2 : okA E G 6 zv2 := wt_r hw ezv2
  refine xg_4_1 C0 hw tzv1 wd354 ezv2 dX8_missedInTrial_4 ?_
  obtain ⟨zv3, ze4, hf⟩ := nn_some hf
  refine x_ci (r := zv3) (I1 := I) (X1 := X) (x_runV (As := []) (rest := []) C0 (c6_missedCues l E G fl X I zv2 tzv2 ze4) hw 6 tzv2 (by decide) rfl wd40 wd411 wd310 wd311 wd146 ⟨rfl, rfl⟩ hy6_missedCues ⟨Nat.le_of_ble_eq_true rfl, Nat.le_of_ble_eq_true rfl⟩ rfl hl.1 (Nat.le_of_ble_eq_true rfl) ⟨Nat.zero_le _, Nat.zero_le _⟩ dX8_missedInTrial_7) hw (fun H locs hw => ?_)
  refine lv_istore_n (lv' := [(1, .int zv3), (0, .ref zx0)]) hx hb dX8_missedInTrial_10 rfl hl (by decide) rfl (fun ls hl => ?_)
  refine lv_iconst (v := (0 : Int32)) hx hb dX8_missedInTrial_11 (by decide) ?_
  refine lv_istore_n (lv' := [(2, .int (0 : Int32)), (1, .int zv3), (0, .ref zx0)]) hx hb dX8_missedInTrial_12 rfl hl (by decide) rfl (fun ls hl => ?_)
  exact w8_missedInTrial_13 C0 hr hz fl fl I _ _ _ zx0 zv3 (0 : Int32) zv1 zv2 zt0 ezv1 tzv1 ezv2 tzv2 hw (lv_sub hl [2, 1, 0] rfl) hf
noncomputable def m8_becomes_40 (fl : Nat) (len : Nat → Nat) (X : Xm) (I : Im) (zs0 : Int32) : Option (Int32 × Im) :=
  some (zs0, I)
set_option maxHeartbeats 4000000 in
set_option maxRecDepth 100000 in
theorem w8_becomes_40 {p : Program} {l : Launch} {e : Env} {s : State} {m : MethodId} {args : Array Value} {below : List Frame} {meth : Method} {c : Code} {E : EN} {G : GM} {X : Xm} (C0 : CX p s m args meth c E cX8_becomes RX8 3) (hr : meth.sig.returnType = (some .int)) (hz : s.heap.size + 0 ≤ eB E + G.1) {rr : Int32 × Im} (fl : Nat) : ∀ (I : Im) (H : Heap) (locs : List Loc) (ls : Array Slot) (zs0 : Int32) , WD E G I X s.heap H locs → lv_has ls 3 [] → m8_becomes_40 fl G.2.2 X I zs0 = some rr → W p l e ({ frames := 5, cells := 0, slots := 0, locals := 112 } : Room) s m args below meth c H locs 0 0 (MQ below (QI E G rr.1 rr.2 X) args s 0 0 (eA E)) (F0 m 40 ls [.int zs0]) := by
  intro I H locs ls zs0 hw hl hf
  unfold m8_becomes_40 at hf
  have hx := C0.1; have hb := C0.2.1; have hml := C0.2.2.1; have hown := C0.2.2.2.1; have hts := C0.2.2.2.2.1
  obtain rfl := Option.some.inj hf
  exact x_iret C0 hr hw dX8_becomes_40
noncomputable def m8_becomes (fl : Nat) (len : Nat → Nat) (X : Xm) (I : Im) (zx0 : Nat) (zx1 : Int32) : Option (Int32 × Im) :=
  nn (gR X 129 zx0) fun zv1 =>
  nn (gR X 128 zx0) fun zv2 =>
  nn (m4_copyFrom fl len X I zv1 zv2) fun zI3 =>
  nn (m8_missedInTrial fl len X zI3 zx0) fun ⟨zv5, zI6⟩ =>
  nn (gR X 65 zv1) fun zv8 =>
  nn (m6_cueAt fl len X zI6 zv8 zx1) fun zv9 =>
  if zv9 = none then
    m8_becomes_40 fl len X zI6 (-1 : Int32)
  else
    nn zv9 fun zb12 =>
    m8_becomes_40 fl len X zI6 (gF zI6 20 zb12)
theorem hy8_becomes : yX8_becomes.cls = RX8 ∧ yX8_becomes.cls ≠ "java/lang/invoke/MethodHandle" ∧ yX8_becomes.cls ≠ "java/lang/invoke/VarHandle" ∧ (parseMethodDescriptor yX8_becomes.desc).map (fun d => d.parameters.length) = some 1 := ⟨rfl, by decide +kernel, by decide +kernel, by decide +kernel⟩
set_option maxHeartbeats 4000000 in
set_option maxRecDepth 100000 in
theorem c8_becomes (l : Launch) (E : EN) (G : GM) (fl : Nat) (X : Xm) (I : Im) (zx0 : Nat) (zx1 : Int32) (zt0 : okA E G 8 zx0) {rr : Int32 × Im} (hf : m8_becomes fl G.2.2 X I zx0 zx1 = some rr) : MT l yX8_becomes cX8_becomes 3 (some .int) ({ frames := 5, cells := 0, slots := 0, locals := 112 } : Room) E G I X [.ref zx0, .int zx1] (QI E G rr.1 rr.2 X) 0 0 := by
  refine Met.ofW (cc := cX8_becomes) (maxL := 3) (ret := (some .int)) (by decide +kernel) rfl ?_
  intro p e s m args below meth c s₁ B hml hv
  obtain ⟨rfl, hw0, hSE⟩ := hv
  have C0 : CX p s m ([.ref zx0, .int zx1] : List Value).toArray meth c E cX8_becomes RX8 3 := ⟨B.exec, B.bytes, hml, findClass_of_methodNamed B.named, fun w hw => atoms_spec (ws := WS yX8_becomes cX8_becomes 3 (some .int)) B.pre w (List.mem_cons_of_mem _ hw), B.notSynchronized, hSE⟩
  have hz : s.heap.size + 0 ≤ eB E + G.1 := Nat.le_of_eq hw0.2.1
  have hw : WD E G I X s.heap s.heap [] := ⟨hw0, va_S.rf⟩
  have hr := B.returns
  have hx := C0.1; have hb := C0.2.1; have hml := C0.2.2.1; have hown := C0.2.2.2.1; have hts := C0.2.2.2.2.1
  have hl := lv_entry ([.ref zx0, .int zx1]) (n := 3) (Nat.le_of_ble_eq_true rfl)
  rw [lg_entry_eq]
  generalize (lg_sl ([.ref zx0, .int zx1]) ++ List.replicate (3 - (lg_sl ([.ref zx0, .int zx1])).length) Slot.unset).toArray = ls at hl ⊢
  have hl : lv_has ls 3 [(0, .ref zx0), (1, .int zx1)] := hl
  unfold m8_becomes at hf
  refine lv_aload_n hx hb dX8_becomes_0 rfl (lv_at hl 0 rfl) ?_
  obtain ⟨zv1, ezv1, hf⟩ := nn_some hf
  have tzv1 : okA E G 4 zv1 := wt_r hw ezv1
  refine xg_8_1 C0 hw zt0 wd320 ezv1 dX8_becomes_1 ?_
  refine lv_aload_n hx hb dX8_becomes_4 rfl (lv_at hl 0 rfl) ?_
  obtain ⟨zv2, ezv2, hf⟩ := nn_some hf
  have tzv2 : okA E G 4 zv2 := wt_r hw ezv2
  refine xg_8_0 C0 hw zt0 wd319 ezv2 dX8_becomes_5 ?_
  obtain ⟨zI3, ze4, hf⟩ := nn_some hf
  refine x_cv (I1 := zI3) (X1 := X) (x_runV (As := [.ref zv2]) (rest := []) C0 (c4_copyFrom l E G fl X I zv1 zv2 tzv1 tzv2 ze4) hw 4 tzv1 (by decide) rfl wd19 wd333 wd334 wd335 wd202 ⟨rfl, rfl⟩ hy4_copyFrom ⟨Nat.le_of_ble_eq_true rfl, Nat.le_of_ble_eq_true rfl⟩ rfl hl.1 (Nat.le_of_ble_eq_true rfl) ⟨Nat.zero_le _, Nat.zero_le _⟩ dX8_becomes_8) hw (fun H locs hw => ?_)
  refine lv_aload_n hx hb dX8_becomes_11 rfl (lv_at hl 0 rfl) ?_
  obtain ⟨⟨zv5, zI6⟩, ze7, hf⟩ := nn_some hf
  refine x_ci (r := zv5) (I1 := zI6) (X1 := X) (x_runV (As := []) (rest := []) C0 (c8_missedInTrial l E G fl X zI3 zx0 zt0 ze7) hw 8 zt0 (by decide) rfl wd75 wd416 wd417 wd418 wd107 ⟨rfl, rfl⟩ hy8_missedInTrial ⟨Nat.le_of_ble_eq_true rfl, Nat.le_of_ble_eq_true rfl⟩ rfl hl.1 (Nat.le_of_ble_eq_true rfl) ⟨Nat.zero_le _, Nat.zero_le _⟩ dX8_becomes_12) hw (fun H locs hw => ?_)
  refine lv_pop hx hb dX8_becomes_15 rfl ?_
  refine lv_aload_n hx hb dX8_becomes_16 rfl (lv_at hl 0 rfl) ?_
  refine xg_8_1 C0 hw zt0 wd320 ezv1 dX8_becomes_17 ?_
  obtain ⟨zv8, ezv8, hf⟩ := nn_some hf
  have tzv8 : okA E G 6 zv8 := wt_r hw ezv8
  refine xg_4_1 C0 hw tzv1 wd354 ezv8 dX8_becomes_20 ?_
  refine lv_iload_n hx hb dX8_becomes_23 rfl (lv_at hl 1 rfl) ?_
  obtain ⟨zv9, ze10, hf⟩ := nn_some hf
  refine x_co (r := zv9) (I1 := zI6) (X1 := X) (x_runV (As := [.int zx1]) (rest := []) C0 (c6_cueAt l E G fl X zI6 zv8 zx1 tzv8 ze10) hw 6 tzv8 (by decide) rfl wd28 wd373 wd223 wd224 wd146 ⟨rfl, rfl⟩ hy6_cueAt ⟨Nat.le_of_ble_eq_true rfl, Nat.le_of_ble_eq_true rfl⟩ rfl hl.1 (Nat.le_of_ble_eq_true rfl) ⟨Nat.zero_le _, Nat.zero_le _⟩ dX8_becomes_24) hw (fun H locs hw tzv9 => ?_)
  refine x_astore_n (lv' := [(2, va_rf zv9), (0, .ref zx0), (1, .int zx1)]) C0 dX8_becomes_27 rfl hl (by decide) rfl (fun ls hl => ?_)
  refine x_aload_n C0 dX8_becomes_28 rfl (lv_at hl 0 rfl) ?_
  refine x_ifnonnull (tgt := 36) C0 dX8_becomes_29 (by decide) (fun zc11 => ?_) (fun zc11 => ?_)
  · have hf := ite_f hf zc11
    refine x_aload_n C0 dX8_becomes_36 rfl (lv_at hl 0 rfl) ?_
    obtain ⟨zb12, ezb12, hfzb12⟩ := nn_some hf
    have tzb12 : okA E G 1 zb12 := tzv9 _ ezb12
    subst ezb12
    have hf := hfzb12
    refine xg_1_4 C0 hw tzb12 wd372 dX8_becomes_37 ?_
    exact w8_becomes_40 C0 hr hz fl zI6 _ _ _ (gF zI6 20 zb12) hw (lv_sub hl [] rfl) hf
  · have hf := ite_t hf zc11
    refine lv_iconst (v := (-1 : Int32)) hx hb dX8_becomes_32 (by decide) ?_
    refine lv_goto (tgt := 40) hx hb dX8_becomes_33 (by decide) ?_
    exact w8_becomes_40 C0 hr hz fl zI6 _ _ _ (-1 : Int32) hw (lv_sub hl [] rfl) hf
noncomputable def m4_loudestSecond_55 (fl : Nat) (len : Nat → Nat) (X : Xm) (I : Im) (zx1 : Int32) : Option (Int32) :=
  some (zx1)
set_option maxHeartbeats 4000000 in
set_option maxRecDepth 100000 in
theorem w4_loudestSecond_55 {p : Program} {l : Launch} {e : Env} {s : State} {m : MethodId} {args : Array Value} {below : List Frame} {meth : Method} {c : Code} {E : EN} {G : GM} {X : Xm} {I : Im} (C0 : CX p s m args meth c E cX4_loudestSecond RX4 4) (hr : meth.sig.returnType = (some .int)) (hz : s.heap.size + 0 ≤ eB E + G.1) {rr : Int32} (fl : Nat) : ∀ (H : Heap) (locs : List Loc) (ls : Array Slot) (zx1 : Int32) , WD E G I X s.heap H locs → lv_has ls 4 [(1, .int zx1)] → m4_loudestSecond_55 fl G.2.2 X I zx1 = some rr → W p l e ({ frames := 0, cells := 0, slots := 0, locals := 0 } : Room) s m args below meth c H locs 0 0 (MQ below (QI E G rr I X) args s 0 0 (eA E)) (F0 m 55 ls []) := by
  intro H locs ls zx1 hw hl hf
  unfold m4_loudestSecond_55 at hf
  have hx := C0.1; have hb := C0.2.1; have hml := C0.2.2.1; have hown := C0.2.2.2.1; have hts := C0.2.2.2.2.1
  refine lv_iload_n hx hb dX4_loudestSecond_55 rfl (lv_at hl 0 rfl) ?_
  obtain rfl := Option.some.inj hf
  exact x_iret C0 hr hw dX4_loudestSecond_56
noncomputable def m4_loudestSecond_49 (fl : Nat) (len : Nat → Nat) (X : Xm) (I : Im) (zr7 : Nat → Int32 → Int32 → Int32 → Option (Int32)) (zx0 : Nat) (zx1 : Int32) (zx2 : Int32) (zx3 : Int32) (p_71 : Nat) : Option (Int32) :=
  lt (zx3 + 1) fun zv1 =>
  zr7 zx0 zx1 zx2 zv1
set_option maxHeartbeats 4000000 in
set_option maxRecDepth 100000 in
theorem w4_loudestSecond_49 {p : Program} {l : Launch} {e : Env} {s : State} {m : MethodId} {args : Array Value} {below : List Frame} {meth : Method} {c : Code} {E : EN} {G : GM} {X : Xm} {I : Im} (C0 : CX p s m args meth c E cX4_loudestSecond RX4 4) (hr : meth.sig.returnType = (some .int)) (hz : s.heap.size + 0 ≤ eB E + G.1) {rr : Int32} (fl : Nat) (zr7 : Nat → Int32 → Int32 → Int32 → Option (Int32)) (zhr7 : ∀ (H : Heap) (locs : List Loc) (ls : Array Slot) (zx0 : Nat) (zx1 : Int32) (zx2 : Int32) (zx3 : Int32) (zt0 : okA E G 4 zx0), WD E G I X s.heap H locs → lv_has ls 4 [(0, .ref zx0), (1, .int zx1), (2, .int zx2), (3, .int zx3)] → zr7 zx0 zx1 zx2 zx3 = some rr → W p l e ({ frames := 0, cells := 0, slots := 0, locals := 0 } : Room) s m args below meth c H locs 0 0 (MQ below (QI E G rr I X) args s 0 0 (eA E)) (F0 m 7 ls [])) : ∀ (H : Heap) (locs : List Loc) (ls : Array Slot) (zx0 : Nat) (zx1 : Int32) (zx2 : Int32) (zx3 : Int32) (p_71 : Nat) (zt0 : okA E G 4 zx0) (ep_71 : gR X 71 zx0 = some p_71) (tp_71 : okA E G 11 p_71), WD E G I X s.heap H locs → lv_has ls 4 [(0, .ref zx0), (1, .int zx1), (2, .int zx2), (3, .int zx3)] → m4_loudestSecond_49 fl G.2.2 X I zr7 zx0 zx1 zx2 zx3 p_71 = some rr → W p l e ({ frames := 0, cells := 0, slots := 0, locals := 0 } : Room) s m args below meth c H locs 0 0 (MQ below (QI E G rr I X) args s 0 0 (eA E)) (F0 m 49 ls []) := by
  intro H locs ls zx0 zx1 zx2 zx3 p_71 zt0 ep_71 tp_71 hw hl hf
  unfold m4_loudestSecond_49 at hf
  have hx := C0.1; have hb := C0.2.1; have hml := C0.2.2.1; have hown := C0.2.2.2.1; have hts := C0.2.2.2.2.1
  obtain ⟨zv1, ezv1⟩ : ∃ y : Int32, y = zx3 + 1 := ⟨_, rfl⟩
  have hf := lt_at hf ezv1
  refine lv_iinc (v := zv1) (lv' := [(3, .int zv1), (0, .ref zx0), (1, .int zx1), (2, .int zx2)]) hx hb dX4_loudestSecond_49 hl (k := 3) rfl (by rw [ezv1]; rfl) (by decide) rfl (fun ls hl => ?_)
  refine lv_goto (tgt := 7) hx hb dX4_loudestSecond_52 (by decide) ?_
  exact zhr7 _ _ _ zx0 zx1 zx2 zv1 zt0 hw (lv_sub hl [1, 2, 3, 0] rfl) hf
noncomputable def m4_loudestSecond_40 (fl : Nat) (len : Nat → Nat) (X : Xm) (I : Im) (zr7 : Nat → Int32 → Int32 → Int32 → Option (Int32)) (zx0 : Nat) (zx3 : Int32) (p_71 : Nat) : Option (Int32) :=
  ck (inb zx3 (len p_71) = true) <|
  lt ((gA I p_71 (zx3).toNatClampNeg)) fun zv2 =>
  m4_loudestSecond_49 fl len X I zr7 zx0 zx3 zv2 zx3 p_71
set_option maxHeartbeats 4000000 in
set_option maxRecDepth 100000 in
theorem w4_loudestSecond_40 {p : Program} {l : Launch} {e : Env} {s : State} {m : MethodId} {args : Array Value} {below : List Frame} {meth : Method} {c : Code} {E : EN} {G : GM} {X : Xm} {I : Im} (C0 : CX p s m args meth c E cX4_loudestSecond RX4 4) (hr : meth.sig.returnType = (some .int)) (hz : s.heap.size + 0 ≤ eB E + G.1) {rr : Int32} (fl : Nat) (zr7 : Nat → Int32 → Int32 → Int32 → Option (Int32)) (zhr7 : ∀ (H : Heap) (locs : List Loc) (ls : Array Slot) (zx0 : Nat) (zx1 : Int32) (zx2 : Int32) (zx3 : Int32) (zt0 : okA E G 4 zx0), WD E G I X s.heap H locs → lv_has ls 4 [(0, .ref zx0), (1, .int zx1), (2, .int zx2), (3, .int zx3)] → zr7 zx0 zx1 zx2 zx3 = some rr → W p l e ({ frames := 0, cells := 0, slots := 0, locals := 0 } : Room) s m args below meth c H locs 0 0 (MQ below (QI E G rr I X) args s 0 0 (eA E)) (F0 m 7 ls [])) : ∀ (H : Heap) (locs : List Loc) (ls : Array Slot) (zx0 : Nat) (zx3 : Int32) (p_71 : Nat) (zt0 : okA E G 4 zx0) (ep_71 : gR X 71 zx0 = some p_71) (tp_71 : okA E G 11 p_71), WD E G I X s.heap H locs → lv_has ls 4 [(0, .ref zx0), (3, .int zx3)] → m4_loudestSecond_40 fl G.2.2 X I zr7 zx0 zx3 p_71 = some rr → W p l e ({ frames := 0, cells := 0, slots := 0, locals := 0 } : Room) s m args below meth c H locs 0 0 (MQ below (QI E G rr I X) args s 0 0 (eA E)) (F0 m 40 ls []) := by
  intro H locs ls zx0 zx3 p_71 zt0 ep_71 tp_71 hw hl hf
  unfold m4_loudestSecond_40 at hf
  have hx := C0.1; have hb := C0.2.1; have hml := C0.2.2.1; have hown := C0.2.2.2.1; have hts := C0.2.2.2.2.1
  refine lv_iload_n hx hb dX4_loudestSecond_40 rfl (lv_at hl 1 rfl) ?_
  refine lv_istore_n (lv' := [(1, .int zx3), (0, .ref zx0), (3, .int zx3)]) hx hb dX4_loudestSecond_41 rfl hl (by decide) rfl (fun ls hl => ?_)
  refine lv_aload_n hx hb dX4_loudestSecond_42 rfl (lv_at hl 1 rfl) ?_
  refine xg_4_7 C0 hw zt0 wd157 ep_71 dX4_loudestSecond_43 ?_
  refine lv_iload_n hx hb dX4_loudestSecond_46 rfl (lv_at hl 2 rfl) ?_
  obtain ⟨zhb1, hf⟩ := ck_some hf
  refine x_iald C0 hw tp_71 zhb1 dX4_loudestSecond_47 ?_
  refine lv_topi (fun zv2 ezv2 => ?_)
  have hf := lt_at hf ezv2
  refine lv_istore_n (lv' := [(2, .int zv2), (1, .int zx3), (0, .ref zx0), (3, .int zx3)]) hx hb dX4_loudestSecond_48 rfl hl (by decide) rfl (fun ls hl => ?_)
  exact w4_loudestSecond_49 C0 hr hz fl zr7 zhr7 _ _ _ zx0 zx3 zv2 zx3 p_71 zt0 ep_71 tp_71 hw (lv_sub hl [2, 1, 0, 3] rfl) hf
noncomputable def m4_loudestSecond_7b (fl : Nat) (len : Nat → Nat) (X : Xm) (I : Im) (zr7 : Nat → Int32 → Int32 → Int32 → Option (Int32)) (zx0 : Nat) (zx1 : Int32) (zx2 : Int32) (zx3 : Int32) : Option (Int32) :=
  if (gF I 72 zx0) ≤ zx3 then
    m4_loudestSecond_55 fl len X I zx1
  else
    nn (gR X 71 zx0) fun zv2 =>
    if (nI (len zv2)) ≤ zx3 then
      m4_loudestSecond_55 fl len X I zx1
    else
      if zx1 = (-6 : Int32) then
        m4_loudestSecond_40 fl len X I zr7 zx0 zx3 zv2
      else
        ck (inb zx3 (len zv2) = true) <|
        if (gA I zv2 (zx3).toNatClampNeg) ≤ zx2 then
          m4_loudestSecond_49 fl len X I zr7 zx0 zx1 zx2 zx3 zv2
        else
          m4_loudestSecond_40 fl len X I zr7 zx0 zx3 zv2
noncomputable def m4_loudestSecond_7 (fl : Nat) (len : Nat → Nat) (X : Xm) (I : Im) (n : Nat) : Nat → Int32 → Int32 → Int32 → Option (Int32) :=
  Nat.rec (fun _ _ _ _ => none) (fun _ r => m4_loudestSecond_7b fl len X I r) n
set_option maxHeartbeats 4000000 in
set_option maxRecDepth 100000 in
theorem w4_loudestSecond_7b {p : Program} {l : Launch} {e : Env} {s : State} {m : MethodId} {args : Array Value} {below : List Frame} {meth : Method} {c : Code} {E : EN} {G : GM} {X : Xm} {I : Im} (C0 : CX p s m args meth c E cX4_loudestSecond RX4 4) (hr : meth.sig.returnType = (some .int)) (hz : s.heap.size + 0 ≤ eB E + G.1) {rr : Int32} (fl : Nat) (zr7 : Nat → Int32 → Int32 → Int32 → Option (Int32)) (zhr7 : ∀ (H : Heap) (locs : List Loc) (ls : Array Slot) (zx0 : Nat) (zx1 : Int32) (zx2 : Int32) (zx3 : Int32) (zt0 : okA E G 4 zx0), WD E G I X s.heap H locs → lv_has ls 4 [(0, .ref zx0), (1, .int zx1), (2, .int zx2), (3, .int zx3)] → zr7 zx0 zx1 zx2 zx3 = some rr → W p l e ({ frames := 0, cells := 0, slots := 0, locals := 0 } : Room) s m args below meth c H locs 0 0 (MQ below (QI E G rr I X) args s 0 0 (eA E)) (F0 m 7 ls [])) : ∀ (H : Heap) (locs : List Loc) (ls : Array Slot) (zx0 : Nat) (zx1 : Int32) (zx2 : Int32) (zx3 : Int32) (zt0 : okA E G 4 zx0), WD E G I X s.heap H locs → lv_has ls 4 [(0, .ref zx0), (1, .int zx1), (2, .int zx2), (3, .int zx3)] → m4_loudestSecond_7b fl G.2.2 X I zr7 zx0 zx1 zx2 zx3 = some rr → W p l e ({ frames := 0, cells := 0, slots := 0, locals := 0 } : Room) s m args below meth c H locs 0 0 (MQ below (QI E G rr I X) args s 0 0 (eA E)) (F0 m 7 ls []) := by
  intro H locs ls zx0 zx1 zx2 zx3 zt0 hw hl hf
  unfold m4_loudestSecond_7b at hf
  have hx := C0.1; have hb := C0.2.1; have hml := C0.2.2.1; have hown := C0.2.2.2.1; have hts := C0.2.2.2.2.1
  refine lv_iload_n hx hb dX4_loudestSecond_7 rfl (lv_at hl 3 rfl) ?_
  refine lv_aload_n hx hb dX4_loudestSecond_8 rfl (lv_at hl 0 rfl) ?_
  refine xg_4_8 C0 hw zt0 wd183 dX4_loudestSecond_9 ?_
  refine lv_icmp_ge (tgt := 55) hx hb dX4_loudestSecond_12 (by decide) (fun zc1 => ?_) (fun zc1 => ?_)
  · have hf := ite_t hf zc1
    exact w4_loudestSecond_55 C0 hr hz fl _ _ _ zx1 hw (lv_sub hl [1] rfl) hf
  · have hf := ite_f hf zc1
    refine lv_iload_n hx hb dX4_loudestSecond_15 rfl (lv_at hl 3 rfl) ?_
    refine lv_aload_n hx hb dX4_loudestSecond_16 rfl (lv_at hl 0 rfl) ?_
    obtain ⟨zv2, ezv2, hf⟩ := nn_some hf
    have tzv2 : okA E G 11 zv2 := wt_r hw ezv2
    refine xg_4_7 C0 hw zt0 wd157 ezv2 dX4_loudestSecond_17 ?_
    refine x_alen C0 hw 11 tzv2 (by decide) rfl dX4_loudestSecond_20 ?_
    refine lv_icmp_ge (tgt := 55) hx hb dX4_loudestSecond_21 (by decide) (fun zc3 => ?_) (fun zc3 => ?_)
    · have hf := ite_t hf zc3
      exact w4_loudestSecond_55 C0 hr hz fl _ _ _ zx1 hw (lv_sub hl [1] rfl) hf
    · have hf := ite_f hf zc3
      refine lv_iload_n hx hb dX4_loudestSecond_24 rfl (lv_at hl 1 rfl) ?_
      refine lv_bipush (v := (-6 : Int32)) hx hb dX4_loudestSecond_25 (by decide) ?_
      refine lv_icmp_eq (tgt := 40) hx hb dX4_loudestSecond_27 (by decide) (fun zc4 => ?_) (fun zc4 => ?_)
      · have hf := ite_t hf zc4
        exact w4_loudestSecond_40 C0 hr hz fl zr7 zhr7 _ _ _ zx0 zx3 zv2 zt0 ezv2 tzv2 hw (lv_sub hl [0, 3] rfl) hf
      · have hf := ite_f hf zc4
        refine lv_aload_n hx hb dX4_loudestSecond_30 rfl (lv_at hl 0 rfl) ?_
        refine xg_4_7 C0 hw zt0 wd157 ezv2 dX4_loudestSecond_31 ?_
        refine lv_iload_n hx hb dX4_loudestSecond_34 rfl (lv_at hl 3 rfl) ?_
        obtain ⟨zhb5, hf⟩ := ck_some hf
        refine x_iald C0 hw tzv2 zhb5 dX4_loudestSecond_35 ?_
        refine lv_iload_n hx hb dX4_loudestSecond_36 rfl (lv_at hl 2 rfl) ?_
        refine lv_icmp_le (tgt := 49) hx hb dX4_loudestSecond_37 (by decide) (fun zc6 => ?_) (fun zc6 => ?_)
        · have hf := ite_t hf zc6
          exact w4_loudestSecond_49 C0 hr hz fl zr7 zhr7 _ _ _ zx0 zx1 zx2 zx3 zv2 zt0 ezv2 tzv2 hw (lv_sub hl [0, 1, 2, 3] rfl) hf
        · have hf := ite_f hf zc6
          exact w4_loudestSecond_40 C0 hr hz fl zr7 zhr7 _ _ _ zx0 zx3 zv2 zt0 ezv2 tzv2 hw (lv_sub hl [0, 3] rfl) hf
theorem w4_loudestSecond_7 {p : Program} {l : Launch} {e : Env} {s : State} {m : MethodId} {args : Array Value} {below : List Frame} {meth : Method} {c : Code} {E : EN} {G : GM} {X : Xm} {I : Im} (C0 : CX p s m args meth c E cX4_loudestSecond RX4 4) (hr : meth.sig.returnType = (some .int)) (hz : s.heap.size + 0 ≤ eB E + G.1) {rr : Int32} (fl : Nat) : ∀ (n : Nat) (H : Heap) (locs : List Loc) (ls : Array Slot) (zx0 : Nat) (zx1 : Int32) (zx2 : Int32) (zx3 : Int32) (zt0 : okA E G 4 zx0), WD E G I X s.heap H locs → lv_has ls 4 [(0, .ref zx0), (1, .int zx1), (2, .int zx2), (3, .int zx3)] → m4_loudestSecond_7 fl G.2.2 X I n zx0 zx1 zx2 zx3 = some rr → W p l e ({ frames := 0, cells := 0, slots := 0, locals := 0 } : Room) s m args below meth c H locs 0 0 (MQ below (QI E G rr I X) args s 0 0 (eA E)) (F0 m 7 ls []) := by
  intro n
  induction n with
  | zero => intro H locs ls zx0 zx1 zx2 zx3 zt0 hw hl hf; exact absurd (show (none : Option (Int32)) = some rr from hf) (by simp)
  | succ n ih => intro H locs ls zx0 zx1 zx2 zx3 zt0 hw hl hf; exact w4_loudestSecond_7b C0 hr hz fl _ ih H locs ls zx0 zx1 zx2 zx3 zt0 hw hl hf
noncomputable def m4_loudestSecond (fl : Nat) (len : Nat → Nat) (X : Xm) (I : Im) (zx0 : Nat) : Option (Int32) :=
  m4_loudestSecond_7 fl len X I fl zx0 (-6 : Int32) (0 : Int32) (0 : Int32)
theorem hy4_loudestSecond : yX4_loudestSecond.cls = RX4 ∧ yX4_loudestSecond.cls ≠ "java/lang/invoke/MethodHandle" ∧ yX4_loudestSecond.cls ≠ "java/lang/invoke/VarHandle" ∧ (parseMethodDescriptor yX4_loudestSecond.desc).map (fun d => d.parameters.length) = some 0 := ⟨rfl, by decide +kernel, by decide +kernel, by decide +kernel⟩
set_option maxHeartbeats 4000000 in
set_option maxRecDepth 100000 in
theorem c4_loudestSecond (l : Launch) (E : EN) (G : GM) (fl : Nat) (X : Xm) (I : Im) (zx0 : Nat) (zt0 : okA E G 4 zx0) {rr : Int32} (hf : m4_loudestSecond fl G.2.2 X I zx0 = some rr) : MT l yX4_loudestSecond cX4_loudestSecond 4 (some .int) ({ frames := 0, cells := 0, slots := 0, locals := 0 } : Room) E G I X [.ref zx0] (QI E G rr I X) 0 0 := by
  refine Met.ofW (cc := cX4_loudestSecond) (maxL := 4) (ret := (some .int)) (by decide +kernel) rfl ?_
  intro p e s m args below meth c s₁ B hml hv
  obtain ⟨rfl, hw0, hSE⟩ := hv
  have C0 : CX p s m ([.ref zx0] : List Value).toArray meth c E cX4_loudestSecond RX4 4 := ⟨B.exec, B.bytes, hml, findClass_of_methodNamed B.named, fun w hw => atoms_spec (ws := WS yX4_loudestSecond cX4_loudestSecond 4 (some .int)) B.pre w (List.mem_cons_of_mem _ hw), B.notSynchronized, hSE⟩
  have hz : s.heap.size + 0 ≤ eB E + G.1 := Nat.le_of_eq hw0.2.1
  have hw : WD E G I X s.heap s.heap [] := ⟨hw0, va_S.rf⟩
  have hr := B.returns
  have hx := C0.1; have hb := C0.2.1; have hml := C0.2.2.1; have hown := C0.2.2.2.1; have hts := C0.2.2.2.2.1
  have hl := lv_entry ([.ref zx0]) (n := 4) (Nat.le_of_ble_eq_true rfl)
  rw [lg_entry_eq]
  generalize (lg_sl ([.ref zx0]) ++ List.replicate (4 - (lg_sl ([.ref zx0])).length) Slot.unset).toArray = ls at hl ⊢
  have hl : lv_has ls 4 [(0, .ref zx0)] := hl
  unfold m4_loudestSecond at hf
  refine lv_bipush (v := (-6 : Int32)) hx hb dX4_loudestSecond_0 (by decide) ?_
  refine lv_istore_n (lv' := [(1, .int (-6 : Int32)), (0, .ref zx0)]) hx hb dX4_loudestSecond_2 rfl hl (by decide) rfl (fun ls hl => ?_)
  refine lv_iconst (v := (0 : Int32)) hx hb dX4_loudestSecond_3 (by decide) ?_
  refine lv_istore_n (lv' := [(2, .int (0 : Int32)), (1, .int (-6 : Int32)), (0, .ref zx0)]) hx hb dX4_loudestSecond_4 rfl hl (by decide) rfl (fun ls hl => ?_)
  refine lv_iconst (v := (0 : Int32)) hx hb dX4_loudestSecond_5 (by decide) ?_
  refine lv_istore_n (lv' := [(3, .int (0 : Int32)), (2, .int (0 : Int32)), (1, .int (-6 : Int32)), (0, .ref zx0)]) hx hb dX4_loudestSecond_6 rfl hl (by decide) rfl (fun ls hl => ?_)
  exact w4_loudestSecond_7 C0 hr hz fl fl _ _ _ zx0 (-6 : Int32) (0 : Int32) (0 : Int32) zt0 hw (lv_sub hl [3, 2, 1, 0] rfl) hf
noncomputable def m4_tooLoudSeconds_45 (fl : Nat) (len : Nat → Nat) (X : Xm) (I : Im) (zx1 : Int32) : Option (Int32) :=
  some (zx1)
set_option maxHeartbeats 4000000 in
set_option maxRecDepth 100000 in
theorem w4_tooLoudSeconds_45 {p : Program} {l : Launch} {e : Env} {s : State} {m : MethodId} {args : Array Value} {below : List Frame} {meth : Method} {c : Code} {E : EN} {G : GM} {X : Xm} {I : Im} (C0 : CX p s m args meth c E cX4_tooLoudSeconds RX4 3) (hr : meth.sig.returnType = (some .int)) (hz : s.heap.size + 0 ≤ eB E + G.1) {rr : Int32} (fl : Nat) : ∀ (H : Heap) (locs : List Loc) (ls : Array Slot) (zx1 : Int32) , WD E G I X s.heap H locs → lv_has ls 3 [(1, .int zx1)] → m4_tooLoudSeconds_45 fl G.2.2 X I zx1 = some rr → W p l e ({ frames := 0, cells := 0, slots := 0, locals := 0 } : Room) s m args below meth c H locs 0 0 (MQ below (QI E G rr I X) args s 0 0 (eA E)) (F0 m 45 ls []) := by
  intro H locs ls zx1 hw hl hf
  unfold m4_tooLoudSeconds_45 at hf
  have hx := C0.1; have hb := C0.2.1; have hml := C0.2.2.1; have hown := C0.2.2.2.1; have hts := C0.2.2.2.2.1
  refine lv_iload_n hx hb dX4_tooLoudSeconds_45 rfl (lv_at hl 0 rfl) ?_
  obtain rfl := Option.some.inj hf
  exact x_iret C0 hr hw dX4_tooLoudSeconds_46
noncomputable def m4_tooLoudSeconds_39 (fl : Nat) (len : Nat → Nat) (X : Xm) (I : Im) (zr4 : Nat → Int32 → Int32 → Option (Int32)) (zx0 : Nat) (zx1 : Int32) (zx2 : Int32) (p_64 : Nat) (p_71 : Nat) : Option (Int32) :=
  lt (zx2 + 1) fun zv1 =>
  zr4 zx0 zx1 zv1
set_option maxHeartbeats 4000000 in
set_option maxRecDepth 100000 in
theorem w4_tooLoudSeconds_39 {p : Program} {l : Launch} {e : Env} {s : State} {m : MethodId} {args : Array Value} {below : List Frame} {meth : Method} {c : Code} {E : EN} {G : GM} {X : Xm} {I : Im} (C0 : CX p s m args meth c E cX4_tooLoudSeconds RX4 3) (hr : meth.sig.returnType = (some .int)) (hz : s.heap.size + 0 ≤ eB E + G.1) {rr : Int32} (fl : Nat) (zr4 : Nat → Int32 → Int32 → Option (Int32)) (zhr4 : ∀ (H : Heap) (locs : List Loc) (ls : Array Slot) (zx0 : Nat) (zx1 : Int32) (zx2 : Int32) (zt0 : okA E G 4 zx0), WD E G I X s.heap H locs → lv_has ls 3 [(0, .ref zx0), (1, .int zx1), (2, .int zx2)] → zr4 zx0 zx1 zx2 = some rr → W p l e ({ frames := 0, cells := 0, slots := 0, locals := 0 } : Room) s m args below meth c H locs 0 0 (MQ below (QI E G rr I X) args s 0 0 (eA E)) (F0 m 4 ls [])) : ∀ (H : Heap) (locs : List Loc) (ls : Array Slot) (zx0 : Nat) (zx1 : Int32) (zx2 : Int32) (p_64 : Nat) (p_71 : Nat) (zt0 : okA E G 4 zx0) (ep_64 : gR X 64 zx0 = some p_64) (tp_64 : okA E G 11 p_64) (ep_71 : gR X 71 zx0 = some p_71) (tp_71 : okA E G 11 p_71), WD E G I X s.heap H locs → lv_has ls 3 [(0, .ref zx0), (1, .int zx1), (2, .int zx2)] → m4_tooLoudSeconds_39 fl G.2.2 X I zr4 zx0 zx1 zx2 p_64 p_71 = some rr → W p l e ({ frames := 0, cells := 0, slots := 0, locals := 0 } : Room) s m args below meth c H locs 0 0 (MQ below (QI E G rr I X) args s 0 0 (eA E)) (F0 m 39 ls []) := by
  intro H locs ls zx0 zx1 zx2 p_64 p_71 zt0 ep_64 tp_64 ep_71 tp_71 hw hl hf
  unfold m4_tooLoudSeconds_39 at hf
  have hx := C0.1; have hb := C0.2.1; have hml := C0.2.2.1; have hown := C0.2.2.2.1; have hts := C0.2.2.2.2.1
  obtain ⟨zv1, ezv1⟩ : ∃ y : Int32, y = zx2 + 1 := ⟨_, rfl⟩
  have hf := lt_at hf ezv1
  refine lv_iinc (v := zv1) (lv' := [(2, .int zv1), (0, .ref zx0), (1, .int zx1)]) hx hb dX4_tooLoudSeconds_39 hl (k := 2) rfl (by rw [ezv1]; rfl) (by decide) rfl (fun ls hl => ?_)
  refine lv_goto (tgt := 4) hx hb dX4_tooLoudSeconds_42 (by decide) ?_
  exact zhr4 _ _ _ zx0 zx1 zv1 zt0 hw (lv_sub hl [1, 2, 0] rfl) hf
noncomputable def m4_tooLoudSeconds_4b (fl : Nat) (len : Nat → Nat) (X : Xm) (I : Im) (zr4 : Nat → Int32 → Int32 → Option (Int32)) (zx0 : Nat) (zx1 : Int32) (zx2 : Int32) : Option (Int32) :=
  if (gF I 72 zx0) ≤ zx2 then
    m4_tooLoudSeconds_45 fl len X I zx1
  else
    nn (gR X 71 zx0) fun zv2 =>
    if (nI (len zv2)) ≤ zx2 then
      m4_tooLoudSeconds_45 fl len X I zx1
    else
      ck (inb zx2 (len zv2) = true) <|
      nn (gR X 64 zx0) fun zv5 =>
      ck (inb (3 : Int32) (len zv5) = true) <|
      if (gA I zv2 (zx2).toNatClampNeg) ≤ (gA I zv5 ((3 : Int32)).toNatClampNeg) then
        m4_tooLoudSeconds_39 fl len X I zr4 zx0 zx1 zx2 zv5 zv2
      else
        lt (zx1 + 1) fun zv8 =>
        m4_tooLoudSeconds_39 fl len X I zr4 zx0 zv8 zx2 zv5 zv2
noncomputable def m4_tooLoudSeconds_4 (fl : Nat) (len : Nat → Nat) (X : Xm) (I : Im) (n : Nat) : Nat → Int32 → Int32 → Option (Int32) :=
  Nat.rec (fun _ _ _ => none) (fun _ r => m4_tooLoudSeconds_4b fl len X I r) n
set_option maxHeartbeats 4000000 in
set_option maxRecDepth 100000 in
theorem w4_tooLoudSeconds_4b {p : Program} {l : Launch} {e : Env} {s : State} {m : MethodId} {args : Array Value} {below : List Frame} {meth : Method} {c : Code} {E : EN} {G : GM} {X : Xm} {I : Im} (C0 : CX p s m args meth c E cX4_tooLoudSeconds RX4 3) (hr : meth.sig.returnType = (some .int)) (hz : s.heap.size + 0 ≤ eB E + G.1) {rr : Int32} (fl : Nat) (zr4 : Nat → Int32 → Int32 → Option (Int32)) (zhr4 : ∀ (H : Heap) (locs : List Loc) (ls : Array Slot) (zx0 : Nat) (zx1 : Int32) (zx2 : Int32) (zt0 : okA E G 4 zx0), WD E G I X s.heap H locs → lv_has ls 3 [(0, .ref zx0), (1, .int zx1), (2, .int zx2)] → zr4 zx0 zx1 zx2 = some rr → W p l e ({ frames := 0, cells := 0, slots := 0, locals := 0 } : Room) s m args below meth c H locs 0 0 (MQ below (QI E G rr I X) args s 0 0 (eA E)) (F0 m 4 ls [])) : ∀ (H : Heap) (locs : List Loc) (ls : Array Slot) (zx0 : Nat) (zx1 : Int32) (zx2 : Int32) (zt0 : okA E G 4 zx0), WD E G I X s.heap H locs → lv_has ls 3 [(0, .ref zx0), (1, .int zx1), (2, .int zx2)] → m4_tooLoudSeconds_4b fl G.2.2 X I zr4 zx0 zx1 zx2 = some rr → W p l e ({ frames := 0, cells := 0, slots := 0, locals := 0 } : Room) s m args below meth c H locs 0 0 (MQ below (QI E G rr I X) args s 0 0 (eA E)) (F0 m 4 ls []) := by
  intro H locs ls zx0 zx1 zx2 zt0 hw hl hf
  unfold m4_tooLoudSeconds_4b at hf
  have hx := C0.1; have hb := C0.2.1; have hml := C0.2.2.1; have hown := C0.2.2.2.1; have hts := C0.2.2.2.2.1
  refine lv_iload_n hx hb dX4_tooLoudSeconds_4 rfl (lv_at hl 2 rfl) ?_
  refine lv_aload_n hx hb dX4_tooLoudSeconds_5 rfl (lv_at hl 0 rfl) ?_
  refine xg_4_8 C0 hw zt0 wd183 dX4_tooLoudSeconds_6 ?_
  refine lv_icmp_ge (tgt := 45) hx hb dX4_tooLoudSeconds_9 (by decide) (fun zc1 => ?_) (fun zc1 => ?_)
  · have hf := ite_t hf zc1
    exact w4_tooLoudSeconds_45 C0 hr hz fl _ _ _ zx1 hw (lv_sub hl [1] rfl) hf
  · have hf := ite_f hf zc1
    refine lv_iload_n hx hb dX4_tooLoudSeconds_12 rfl (lv_at hl 2 rfl) ?_
    refine lv_aload_n hx hb dX4_tooLoudSeconds_13 rfl (lv_at hl 0 rfl) ?_
    obtain ⟨zv2, ezv2, hf⟩ := nn_some hf
    have tzv2 : okA E G 11 zv2 := wt_r hw ezv2
    refine xg_4_7 C0 hw zt0 wd157 ezv2 dX4_tooLoudSeconds_14 ?_
    refine x_alen C0 hw 11 tzv2 (by decide) rfl dX4_tooLoudSeconds_17 ?_
    refine lv_icmp_ge (tgt := 45) hx hb dX4_tooLoudSeconds_18 (by decide) (fun zc3 => ?_) (fun zc3 => ?_)
    · have hf := ite_t hf zc3
      exact w4_tooLoudSeconds_45 C0 hr hz fl _ _ _ zx1 hw (lv_sub hl [1] rfl) hf
    · have hf := ite_f hf zc3
      refine lv_aload_n hx hb dX4_tooLoudSeconds_21 rfl (lv_at hl 0 rfl) ?_
      refine xg_4_7 C0 hw zt0 wd157 ezv2 dX4_tooLoudSeconds_22 ?_
      refine lv_iload_n hx hb dX4_tooLoudSeconds_25 rfl (lv_at hl 2 rfl) ?_
      obtain ⟨zhb4, hf⟩ := ck_some hf
      refine x_iald C0 hw tzv2 zhb4 dX4_tooLoudSeconds_26 ?_
      refine lv_aload_n hx hb dX4_tooLoudSeconds_27 rfl (lv_at hl 0 rfl) ?_
      obtain ⟨zv5, ezv5, hf⟩ := nn_some hf
      have tzv5 : okA E G 11 zv5 := wt_r hw ezv5
      refine xg_4_0 C0 hw zt0 wd143 ezv5 dX4_tooLoudSeconds_28 ?_
      refine lv_iconst (v := (3 : Int32)) hx hb dX4_tooLoudSeconds_31 (by decide) ?_
      obtain ⟨zhb6, hf⟩ := ck_some hf
      refine x_iald C0 hw tzv5 zhb6 dX4_tooLoudSeconds_32 ?_
      refine lv_icmp_le (tgt := 39) hx hb dX4_tooLoudSeconds_33 (by decide) (fun zc7 => ?_) (fun zc7 => ?_)
      · have hf := ite_t hf zc7
        exact w4_tooLoudSeconds_39 C0 hr hz fl zr4 zhr4 _ _ _ zx0 zx1 zx2 zv5 zv2 zt0 ezv5 tzv5 ezv2 tzv2 hw (lv_sub hl [0, 1, 2] rfl) hf
      · have hf := ite_f hf zc7
        obtain ⟨zv8, ezv8⟩ : ∃ y : Int32, y = zx1 + 1 := ⟨_, rfl⟩
        have hf := lt_at hf ezv8
        refine lv_iinc (v := zv8) (lv' := [(1, .int zv8), (0, .ref zx0), (2, .int zx2)]) hx hb dX4_tooLoudSeconds_36 hl (k := 1) rfl (by rw [ezv8]; rfl) (by decide) rfl (fun ls hl => ?_)
        exact w4_tooLoudSeconds_39 C0 hr hz fl zr4 zhr4 _ _ _ zx0 zv8 zx2 zv5 zv2 zt0 ezv5 tzv5 ezv2 tzv2 hw (lv_sub hl [1, 0, 2] rfl) hf
theorem w4_tooLoudSeconds_4 {p : Program} {l : Launch} {e : Env} {s : State} {m : MethodId} {args : Array Value} {below : List Frame} {meth : Method} {c : Code} {E : EN} {G : GM} {X : Xm} {I : Im} (C0 : CX p s m args meth c E cX4_tooLoudSeconds RX4 3) (hr : meth.sig.returnType = (some .int)) (hz : s.heap.size + 0 ≤ eB E + G.1) {rr : Int32} (fl : Nat) : ∀ (n : Nat) (H : Heap) (locs : List Loc) (ls : Array Slot) (zx0 : Nat) (zx1 : Int32) (zx2 : Int32) (zt0 : okA E G 4 zx0), WD E G I X s.heap H locs → lv_has ls 3 [(0, .ref zx0), (1, .int zx1), (2, .int zx2)] → m4_tooLoudSeconds_4 fl G.2.2 X I n zx0 zx1 zx2 = some rr → W p l e ({ frames := 0, cells := 0, slots := 0, locals := 0 } : Room) s m args below meth c H locs 0 0 (MQ below (QI E G rr I X) args s 0 0 (eA E)) (F0 m 4 ls []) := by
  intro n
  induction n with
  | zero => intro H locs ls zx0 zx1 zx2 zt0 hw hl hf; exact absurd (show (none : Option (Int32)) = some rr from hf) (by simp)
  | succ n ih => intro H locs ls zx0 zx1 zx2 zt0 hw hl hf; exact w4_tooLoudSeconds_4b C0 hr hz fl _ ih H locs ls zx0 zx1 zx2 zt0 hw hl hf
noncomputable def m4_tooLoudSeconds (fl : Nat) (len : Nat → Nat) (X : Xm) (I : Im) (zx0 : Nat) : Option (Int32) :=
  m4_tooLoudSeconds_4 fl len X I fl zx0 (0 : Int32) (0 : Int32)
theorem hy4_tooLoudSeconds : yX4_tooLoudSeconds.cls = RX4 ∧ yX4_tooLoudSeconds.cls ≠ "java/lang/invoke/MethodHandle" ∧ yX4_tooLoudSeconds.cls ≠ "java/lang/invoke/VarHandle" ∧ (parseMethodDescriptor yX4_tooLoudSeconds.desc).map (fun d => d.parameters.length) = some 0 := ⟨rfl, by decide +kernel, by decide +kernel, by decide +kernel⟩
set_option maxHeartbeats 4000000 in
set_option maxRecDepth 100000 in
theorem c4_tooLoudSeconds (l : Launch) (E : EN) (G : GM) (fl : Nat) (X : Xm) (I : Im) (zx0 : Nat) (zt0 : okA E G 4 zx0) {rr : Int32} (hf : m4_tooLoudSeconds fl G.2.2 X I zx0 = some rr) : MT l yX4_tooLoudSeconds cX4_tooLoudSeconds 3 (some .int) ({ frames := 0, cells := 0, slots := 0, locals := 0 } : Room) E G I X [.ref zx0] (QI E G rr I X) 0 0 := by
  refine Met.ofW (cc := cX4_tooLoudSeconds) (maxL := 3) (ret := (some .int)) (by decide +kernel) rfl ?_
  intro p e s m args below meth c s₁ B hml hv
  obtain ⟨rfl, hw0, hSE⟩ := hv
  have C0 : CX p s m ([.ref zx0] : List Value).toArray meth c E cX4_tooLoudSeconds RX4 3 := ⟨B.exec, B.bytes, hml, findClass_of_methodNamed B.named, fun w hw => atoms_spec (ws := WS yX4_tooLoudSeconds cX4_tooLoudSeconds 3 (some .int)) B.pre w (List.mem_cons_of_mem _ hw), B.notSynchronized, hSE⟩
  have hz : s.heap.size + 0 ≤ eB E + G.1 := Nat.le_of_eq hw0.2.1
  have hw : WD E G I X s.heap s.heap [] := ⟨hw0, va_S.rf⟩
  have hr := B.returns
  have hx := C0.1; have hb := C0.2.1; have hml := C0.2.2.1; have hown := C0.2.2.2.1; have hts := C0.2.2.2.2.1
  have hl := lv_entry ([.ref zx0]) (n := 3) (Nat.le_of_ble_eq_true rfl)
  rw [lg_entry_eq]
  generalize (lg_sl ([.ref zx0]) ++ List.replicate (3 - (lg_sl ([.ref zx0])).length) Slot.unset).toArray = ls at hl ⊢
  have hl : lv_has ls 3 [(0, .ref zx0)] := hl
  unfold m4_tooLoudSeconds at hf
  refine lv_iconst (v := (0 : Int32)) hx hb dX4_tooLoudSeconds_0 (by decide) ?_
  refine lv_istore_n (lv' := [(1, .int (0 : Int32)), (0, .ref zx0)]) hx hb dX4_tooLoudSeconds_1 rfl hl (by decide) rfl (fun ls hl => ?_)
  refine lv_iconst (v := (0 : Int32)) hx hb dX4_tooLoudSeconds_2 (by decide) ?_
  refine lv_istore_n (lv' := [(2, .int (0 : Int32)), (1, .int (0 : Int32)), (0, .ref zx0)]) hx hb dX4_tooLoudSeconds_3 rfl hl (by decide) rfl (fun ls hl => ?_)
  exact w4_tooLoudSeconds_4 C0 hr hz fl fl _ _ _ zx0 (0 : Int32) (0 : Int32) zt0 hw (lv_sub hl [2, 1, 0] rfl) hf
noncomputable def m4_playingReels_33 (fl : Nat) (len : Nat → Nat) (X : Xm) (I : Im) (zr4 : Nat → Int32 → Int32 → Option (Int32)) (zx0 : Nat) (zx1 : Int32) (zx2 : Int32) (p_66 : Nat) : Option (Int32) :=
  lt (zx2 + 1) fun zv1 =>
  zr4 zx0 zx1 zv1
set_option maxHeartbeats 4000000 in
set_option maxRecDepth 100000 in
theorem w4_playingReels_33 {p : Program} {l : Launch} {e : Env} {s : State} {m : MethodId} {args : Array Value} {below : List Frame} {meth : Method} {c : Code} {E : EN} {G : GM} {X : Xm} {I : Im} (C0 : CX p s m args meth c E cX4_playingReels RX4 3) (hr : meth.sig.returnType = (some .int)) (hz : s.heap.size + 0 ≤ eB E + G.1) {rr : Int32} (fl : Nat) (zr4 : Nat → Int32 → Int32 → Option (Int32)) (zhr4 : ∀ (H : Heap) (locs : List Loc) (ls : Array Slot) (zx0 : Nat) (zx1 : Int32) (zx2 : Int32) (zt0 : okA E G 4 zx0), WD E G I X s.heap H locs → lv_has ls 3 [(0, .ref zx0), (1, .int zx1), (2, .int zx2)] → zr4 zx0 zx1 zx2 = some rr → W p l e ({ frames := 0, cells := 0, slots := 0, locals := 0 } : Room) s m args below meth c H locs 0 0 (MQ below (QI E G rr I X) args s 0 0 (eA E)) (F0 m 4 ls [])) : ∀ (H : Heap) (locs : List Loc) (ls : Array Slot) (zx0 : Nat) (zx1 : Int32) (zx2 : Int32) (p_66 : Nat) (zt0 : okA E G 4 zx0) (ep_66 : gR X 66 zx0 = some p_66) (tp_66 : okA E G 16 p_66), WD E G I X s.heap H locs → lv_has ls 3 [(0, .ref zx0), (1, .int zx1), (2, .int zx2)] → m4_playingReels_33 fl G.2.2 X I zr4 zx0 zx1 zx2 p_66 = some rr → W p l e ({ frames := 0, cells := 0, slots := 0, locals := 0 } : Room) s m args below meth c H locs 0 0 (MQ below (QI E G rr I X) args s 0 0 (eA E)) (F0 m 33 ls []) := by
  intro H locs ls zx0 zx1 zx2 p_66 zt0 ep_66 tp_66 hw hl hf
  unfold m4_playingReels_33 at hf
  have hx := C0.1; have hb := C0.2.1; have hml := C0.2.2.1; have hown := C0.2.2.2.1; have hts := C0.2.2.2.2.1
  obtain ⟨zv1, ezv1⟩ : ∃ y : Int32, y = zx2 + 1 := ⟨_, rfl⟩
  have hf := lt_at hf ezv1
  refine lv_iinc (v := zv1) (lv' := [(2, .int zv1), (0, .ref zx0), (1, .int zx1)]) hx hb dX4_playingReels_33 hl (k := 2) rfl (by rw [ezv1]; rfl) (by decide) rfl (fun ls hl => ?_)
  refine lv_goto (tgt := 4) hx hb dX4_playingReels_36 (by decide) ?_
  exact zhr4 _ _ _ zx0 zx1 zv1 zt0 hw (lv_sub hl [1, 2, 0] rfl) hf
noncomputable def m4_playingReels_4b (fl : Nat) (len : Nat → Nat) (X : Xm) (I : Im) (zr4 : Nat → Int32 → Int32 → Option (Int32)) (zx0 : Nat) (zx1 : Int32) (zx2 : Int32) : Option (Int32) :=
  nn (gR X 66 zx0) fun zv1 =>
  if (nI (len zv1)) ≤ zx2 then
    some (zx1)
  else
    ck (inb zx2 (len zv1) = true) <|
    nn (gQ X zv1 (zx2).toNatClampNeg) fun zv4 =>
    if (gF I 83 zv4) = (-6 : Int32) then
      m4_playingReels_33 fl len X I zr4 zx0 zx1 zx2 zv1
    else
      lt ((zx1 ||| ((1 : Int32) <<< (zx2 &&& 31)))) fun zv6 =>
      m4_playingReels_33 fl len X I zr4 zx0 zv6 zx2 zv1
noncomputable def m4_playingReels_4 (fl : Nat) (len : Nat → Nat) (X : Xm) (I : Im) (n : Nat) : Nat → Int32 → Int32 → Option (Int32) :=
  Nat.rec (fun _ _ _ => none) (fun _ r => m4_playingReels_4b fl len X I r) n
set_option maxHeartbeats 4000000 in
set_option maxRecDepth 100000 in
theorem w4_playingReels_4b {p : Program} {l : Launch} {e : Env} {s : State} {m : MethodId} {args : Array Value} {below : List Frame} {meth : Method} {c : Code} {E : EN} {G : GM} {X : Xm} {I : Im} (C0 : CX p s m args meth c E cX4_playingReels RX4 3) (hr : meth.sig.returnType = (some .int)) (hz : s.heap.size + 0 ≤ eB E + G.1) {rr : Int32} (fl : Nat) (zr4 : Nat → Int32 → Int32 → Option (Int32)) (zhr4 : ∀ (H : Heap) (locs : List Loc) (ls : Array Slot) (zx0 : Nat) (zx1 : Int32) (zx2 : Int32) (zt0 : okA E G 4 zx0), WD E G I X s.heap H locs → lv_has ls 3 [(0, .ref zx0), (1, .int zx1), (2, .int zx2)] → zr4 zx0 zx1 zx2 = some rr → W p l e ({ frames := 0, cells := 0, slots := 0, locals := 0 } : Room) s m args below meth c H locs 0 0 (MQ below (QI E G rr I X) args s 0 0 (eA E)) (F0 m 4 ls [])) : ∀ (H : Heap) (locs : List Loc) (ls : Array Slot) (zx0 : Nat) (zx1 : Int32) (zx2 : Int32) (zt0 : okA E G 4 zx0), WD E G I X s.heap H locs → lv_has ls 3 [(0, .ref zx0), (1, .int zx1), (2, .int zx2)] → m4_playingReels_4b fl G.2.2 X I zr4 zx0 zx1 zx2 = some rr → W p l e ({ frames := 0, cells := 0, slots := 0, locals := 0 } : Room) s m args below meth c H locs 0 0 (MQ below (QI E G rr I X) args s 0 0 (eA E)) (F0 m 4 ls []) := by
  intro H locs ls zx0 zx1 zx2 zt0 hw hl hf
  unfold m4_playingReels_4b at hf
  have hx := C0.1; have hb := C0.2.1; have hml := C0.2.2.1; have hown := C0.2.2.2.1; have hts := C0.2.2.2.2.1
  refine lv_iload_n hx hb dX4_playingReels_4 rfl (lv_at hl 2 rfl) ?_
  refine lv_aload_n hx hb dX4_playingReels_5 rfl (lv_at hl 0 rfl) ?_
  obtain ⟨zv1, ezv1, hf⟩ := nn_some hf
  have tzv1 : okA E G 16 zv1 := wt_r hw ezv1
  refine xg_4_2 C0 hw zt0 wd149 ezv1 dX4_playingReels_6 ?_
  refine x_alen C0 hw 16 tzv1 (by decide) rfl dX4_playingReels_9 ?_
  refine lv_icmp_ge (tgt := 39) hx hb dX4_playingReels_10 (by decide) (fun zc2 => ?_) (fun zc2 => ?_)
  · have hf := ite_t hf zc2
    refine lv_iload_n hx hb dX4_playingReels_39 rfl (lv_at hl 1 rfl) ?_
    obtain rfl := Option.some.inj hf
    exact x_iret C0 hr hw dX4_playingReels_40
  · have hf := ite_f hf zc2
    refine lv_aload_n hx hb dX4_playingReels_13 rfl (lv_at hl 0 rfl) ?_
    refine xg_4_2 C0 hw zt0 wd149 ezv1 dX4_playingReels_14 ?_
    refine lv_iload_n hx hb dX4_playingReels_17 rfl (lv_at hl 2 rfl) ?_
    obtain ⟨zhb3, hf⟩ := ck_some hf
    obtain ⟨zv4, ezv4, hf⟩ := nn_some hf
    have tzv4 : okA E G 5 zv4 := wt_q hw tzv1 ezv4
    refine x_qald C0 hw 16 tzv1 (by decide) rfl zhb3 ezv4 dX4_playingReels_18 ?_
    refine xg_5_3 C0 hw tzv4 wd259 dX4_playingReels_19 ?_
    refine lv_bipush (v := (-6 : Int32)) hx hb dX4_playingReels_22 (by decide) ?_
    refine lv_icmp_eq (tgt := 33) hx hb dX4_playingReels_24 (by decide) (fun zc5 => ?_) (fun zc5 => ?_)
    · have hf := ite_t hf zc5
      exact w4_playingReels_33 C0 hr hz fl zr4 zhr4 _ _ _ zx0 zx1 zx2 zv1 zt0 ezv1 tzv1 hw (lv_sub hl [0, 1, 2] rfl) hf
    · have hf := ite_f hf zc5
      refine lv_iload_n hx hb dX4_playingReels_27 rfl (lv_at hl 1 rfl) ?_
      refine lv_iconst (v := (1 : Int32)) hx hb dX4_playingReels_28 (by decide) ?_
      refine lv_iload_n hx hb dX4_playingReels_29 rfl (lv_at hl 2 rfl) ?_
      refine lv_ishl hx hb dX4_playingReels_30 ?_
      refine lv_ior hx hb dX4_playingReels_31 ?_
      refine lv_topi (fun zv6 ezv6 => ?_)
      have hf := lt_at hf ezv6
      refine lv_istore_n (lv' := [(1, .int zv6), (0, .ref zx0), (2, .int zx2)]) hx hb dX4_playingReels_32 rfl hl (by decide) rfl (fun ls hl => ?_)
      exact w4_playingReels_33 C0 hr hz fl zr4 zhr4 _ _ _ zx0 zv6 zx2 zv1 zt0 ezv1 tzv1 hw (lv_sub hl [1, 0, 2] rfl) hf
theorem w4_playingReels_4 {p : Program} {l : Launch} {e : Env} {s : State} {m : MethodId} {args : Array Value} {below : List Frame} {meth : Method} {c : Code} {E : EN} {G : GM} {X : Xm} {I : Im} (C0 : CX p s m args meth c E cX4_playingReels RX4 3) (hr : meth.sig.returnType = (some .int)) (hz : s.heap.size + 0 ≤ eB E + G.1) {rr : Int32} (fl : Nat) : ∀ (n : Nat) (H : Heap) (locs : List Loc) (ls : Array Slot) (zx0 : Nat) (zx1 : Int32) (zx2 : Int32) (zt0 : okA E G 4 zx0), WD E G I X s.heap H locs → lv_has ls 3 [(0, .ref zx0), (1, .int zx1), (2, .int zx2)] → m4_playingReels_4 fl G.2.2 X I n zx0 zx1 zx2 = some rr → W p l e ({ frames := 0, cells := 0, slots := 0, locals := 0 } : Room) s m args below meth c H locs 0 0 (MQ below (QI E G rr I X) args s 0 0 (eA E)) (F0 m 4 ls []) := by
  intro n
  induction n with
  | zero => intro H locs ls zx0 zx1 zx2 zt0 hw hl hf; exact absurd (show (none : Option (Int32)) = some rr from hf) (by simp)
  | succ n ih => intro H locs ls zx0 zx1 zx2 zt0 hw hl hf; exact w4_playingReels_4b C0 hr hz fl _ ih H locs ls zx0 zx1 zx2 zt0 hw hl hf
noncomputable def m4_playingReels (fl : Nat) (len : Nat → Nat) (X : Xm) (I : Im) (zx0 : Nat) : Option (Int32) :=
  m4_playingReels_4 fl len X I fl zx0 (0 : Int32) (0 : Int32)
theorem hy4_playingReels : yX4_playingReels.cls = RX4 ∧ yX4_playingReels.cls ≠ "java/lang/invoke/MethodHandle" ∧ yX4_playingReels.cls ≠ "java/lang/invoke/VarHandle" ∧ (parseMethodDescriptor yX4_playingReels.desc).map (fun d => d.parameters.length) = some 0 := ⟨rfl, by decide +kernel, by decide +kernel, by decide +kernel⟩
set_option maxHeartbeats 4000000 in
set_option maxRecDepth 100000 in
theorem c4_playingReels (l : Launch) (E : EN) (G : GM) (fl : Nat) (X : Xm) (I : Im) (zx0 : Nat) (zt0 : okA E G 4 zx0) {rr : Int32} (hf : m4_playingReels fl G.2.2 X I zx0 = some rr) : MT l yX4_playingReels cX4_playingReels 3 (some .int) ({ frames := 0, cells := 0, slots := 0, locals := 0 } : Room) E G I X [.ref zx0] (QI E G rr I X) 0 0 := by
  refine Met.ofW (cc := cX4_playingReels) (maxL := 3) (ret := (some .int)) (by decide +kernel) rfl ?_
  intro p e s m args below meth c s₁ B hml hv
  obtain ⟨rfl, hw0, hSE⟩ := hv
  have C0 : CX p s m ([.ref zx0] : List Value).toArray meth c E cX4_playingReels RX4 3 := ⟨B.exec, B.bytes, hml, findClass_of_methodNamed B.named, fun w hw => atoms_spec (ws := WS yX4_playingReels cX4_playingReels 3 (some .int)) B.pre w (List.mem_cons_of_mem _ hw), B.notSynchronized, hSE⟩
  have hz : s.heap.size + 0 ≤ eB E + G.1 := Nat.le_of_eq hw0.2.1
  have hw : WD E G I X s.heap s.heap [] := ⟨hw0, va_S.rf⟩
  have hr := B.returns
  have hx := C0.1; have hb := C0.2.1; have hml := C0.2.2.1; have hown := C0.2.2.2.1; have hts := C0.2.2.2.2.1
  have hl := lv_entry ([.ref zx0]) (n := 3) (Nat.le_of_ble_eq_true rfl)
  rw [lg_entry_eq]
  generalize (lg_sl ([.ref zx0]) ++ List.replicate (3 - (lg_sl ([.ref zx0])).length) Slot.unset).toArray = ls at hl ⊢
  have hl : lv_has ls 3 [(0, .ref zx0)] := hl
  unfold m4_playingReels at hf
  refine lv_iconst (v := (0 : Int32)) hx hb dX4_playingReels_0 (by decide) ?_
  refine lv_istore_n (lv' := [(1, .int (0 : Int32)), (0, .ref zx0)]) hx hb dX4_playingReels_1 rfl hl (by decide) rfl (fun ls hl => ?_)
  refine lv_iconst (v := (0 : Int32)) hx hb dX4_playingReels_2 (by decide) ?_
  refine lv_istore_n (lv' := [(2, .int (0 : Int32)), (1, .int (0 : Int32)), (0, .ref zx0)]) hx hb dX4_playingReels_3 rfl hl (by decide) rfl (fun ls hl => ?_)
  exact w4_playingReels_4 C0 hr hz fl fl _ _ _ zx0 (0 : Int32) (0 : Int32) zt0 hw (lv_sub hl [2, 1, 0] rfl) hf
noncomputable def m8_count (fl : Nat) (len : Nat → Nat) (X : Xm) (I : Im) (zx0 : Nat) (zx1 : Int32) : Option (Int32) :=
  if zx1 = (0 : Int32) then
    nn (gR X 128 zx0) fun zv2 =>
    some ((gF I 72 zv2))
  else
    if zx1 = (1 : Int32) then
      nn (gR X 128 zx0) fun zv4 =>
      nn (gR X 65 zv4) fun zv5 =>
      some ((gF I 97 zv5))
    else
      if zx1 = (2 : Int32) then
        nn (gR X 128 zx0) fun zv7 =>
        nn (gR X 65 zv7) fun zv8 =>
        nn (m6_countOf fl len X I zv8 (0 : Int32)) fun zv9 =>
        some (zv9)
      else
        if zx1 = (3 : Int32) then
          nn (gR X 128 zx0) fun zv12 =>
          nn (gR X 65 zv12) fun zv13 =>
          nn (m6_countOf fl len X I zv13 (1 : Int32)) fun zv14 =>
          some (zv14)
        else
          if zx1 = (4 : Int32) then
            nn (gR X 128 zx0) fun zv17 =>
            nn (gR X 65 zv17) fun zv18 =>
            nn (m6_countOf fl len X I zv18 (2 : Int32)) fun zv19 =>
            some (zv19)
          else
            if zx1 = (5 : Int32) then
              nn (gR X 128 zx0) fun zv22 =>
              nn (gR X 65 zv22) fun zv23 =>
              nn (m6_countOf fl len X I zv23 (3 : Int32)) fun zv24 =>
              some (zv24)
            else
              if zx1 = (6 : Int32) then
                nn (gR X 128 zx0) fun zv27 =>
                nn (m4_loudestSecond fl len X I zv27) fun zv28 =>
                some (zv28)
              else
                if zx1 = (7 : Int32) then
                  nn (gR X 128 zx0) fun zv31 =>
                  nn (m4_tooLoudSeconds fl len X I zv31) fun zv32 =>
                  some (zv32)
                else
                  if zx1 = (8 : Int32) then
                    nn (gR X 128 zx0) fun zv35 =>
                    nn (m4_playingReels fl len X I zv35) fun zv36 =>
                    some (zv36)
                  else
                    if zx1 = (9 : Int32) then
                      nn (gR X 128 zx0) fun zv39 =>
                      nn (gR X 64 zv39) fun zv40 =>
                      ck (inb (0 : Int32) (len zv40) = true) <|
                      some ((gA I zv40 ((0 : Int32)).toNatClampNeg))
                    else
                      if zx1 = (10 : Int32) then
                        nn (gR X 128 zx0) fun zv43 =>
                        nn (gR X 64 zv43) fun zv44 =>
                        ck (inb (1 : Int32) (len zv44) = true) <|
                        some ((gA I zv44 ((1 : Int32)).toNatClampNeg))
                      else
                        if zx1 = (11 : Int32) then
                          nn (gR X 128 zx0) fun zv47 =>
                          nn (gR X 64 zv47) fun zv48 =>
                          ck (inb (2 : Int32) (len zv48) = true) <|
                          some ((gA I zv48 ((2 : Int32)).toNatClampNeg))
                        else
                          if zx1 = (12 : Int32) then
                            nn (gR X 128 zx0) fun zv51 =>
                            nn (gR X 64 zv51) fun zv52 =>
                            ck (inb (3 : Int32) (len zv52) = true) <|
                            some ((gA I zv52 ((3 : Int32)).toNatClampNeg))
                          else
                            if zx1 = (13 : Int32) then
                              nn (gR X 134 zx0) fun zv55 =>
                              some ((gF I 49 zv55))
                            else
                              if zx1 = (14 : Int32) then
                                some ((gF I 131 zx0))
                              else
                                some ((-2 : Int32))
theorem hy8_count : yX8_count.cls = RX8 ∧ yX8_count.cls ≠ "java/lang/invoke/MethodHandle" ∧ yX8_count.cls ≠ "java/lang/invoke/VarHandle" ∧ (parseMethodDescriptor yX8_count.desc).map (fun d => d.parameters.length) = some 1 := ⟨rfl, by decide +kernel, by decide +kernel, by decide +kernel⟩
set_option maxHeartbeats 4000000 in
set_option maxRecDepth 100000 in
theorem c8_count (l : Launch) (E : EN) (G : GM) (fl : Nat) (X : Xm) (I : Im) (zx0 : Nat) (zx1 : Int32) (zt0 : okA E G 8 zx0) {rr : Int32} (hf : m8_count fl G.2.2 X I zx0 zx1 = some rr) : MT l yX8_count cX8_count 2 (some .int) ({ frames := 1, cells := 0, slots := 0, locals := 23 } : Room) E G I X [.ref zx0, .int zx1] (QI E G rr I X) 0 0 := by
  refine Met.ofW (cc := cX8_count) (maxL := 2) (ret := (some .int)) (by decide +kernel) rfl ?_
  intro p e s m args below meth c s₁ B hml hv
  obtain ⟨rfl, hw0, hSE⟩ := hv
  have C0 : CX p s m ([.ref zx0, .int zx1] : List Value).toArray meth c E cX8_count RX8 2 := ⟨B.exec, B.bytes, hml, findClass_of_methodNamed B.named, fun w hw => atoms_spec (ws := WS yX8_count cX8_count 2 (some .int)) B.pre w (List.mem_cons_of_mem _ hw), B.notSynchronized, hSE⟩
  have hz : s.heap.size + 0 ≤ eB E + G.1 := Nat.le_of_eq hw0.2.1
  have hw : WD E G I X s.heap s.heap [] := ⟨hw0, va_S.rf⟩
  have hr := B.returns
  have hx := C0.1; have hb := C0.2.1; have hml := C0.2.2.1; have hown := C0.2.2.2.1; have hts := C0.2.2.2.2.1
  have hl := lv_entry ([.ref zx0, .int zx1]) (n := 2) (Nat.le_of_ble_eq_true rfl)
  rw [lg_entry_eq]
  generalize (lg_sl ([.ref zx0, .int zx1]) ++ List.replicate (2 - (lg_sl ([.ref zx0, .int zx1])).length) Slot.unset).toArray = ls at hl ⊢
  have hl : lv_has ls 2 [(0, .ref zx0), (1, .int zx1)] := hl
  unfold m8_count at hf
  refine lv_iload_n hx hb dX8_count_0 rfl (lv_at hl 1 rfl) ?_
  by_cases zc1 : zx1 = (0 : Int32)
  · have hf := ite_t hf zc1
    refine lv_tableIn (off := 75) (tgt := 76) hx hb dX8_count_1 (by rw [zc1]; decide) (by rw [zc1]; decide) (by rw [zc1]; rfl) (by decide) ?_
    refine lv_aload_n hx hb dX8_count_76 rfl (lv_at hl 0 rfl) ?_
    obtain ⟨zv2, ezv2, hf⟩ := nn_some hf
    have tzv2 : okA E G 4 zv2 := wt_r hw ezv2
    refine xg_8_0 C0 hw zt0 wd319 ezv2 dX8_count_77 ?_
    refine xg_4_8 C0 hw tzv2 wd395 dX8_count_80 ?_
    obtain rfl := Option.some.inj hf
    exact x_iret C0 hr hw dX8_count_83
  · have hf := ite_f hf zc1
    by_cases zc3 : zx1 = (1 : Int32)
    · have hf := ite_t hf zc3
      refine lv_tableIn (off := 83) (tgt := 84) hx hb dX8_count_1 (by rw [zc3]; decide) (by rw [zc3]; decide) (by rw [zc3]; rfl) (by decide) ?_
      refine lv_aload_n hx hb dX8_count_84 rfl (lv_at hl 0 rfl) ?_
      obtain ⟨zv4, ezv4, hf⟩ := nn_some hf
      have tzv4 : okA E G 4 zv4 := wt_r hw ezv4
      refine xg_8_0 C0 hw zt0 wd319 ezv4 dX8_count_85 ?_
      obtain ⟨zv5, ezv5, hf⟩ := nn_some hf
      have tzv5 : okA E G 6 zv5 := wt_r hw ezv5
      refine xg_4_1 C0 hw tzv4 wd354 ezv5 dX8_count_88 ?_
      refine xg_6_1 C0 hw tzv5 wd397 dX8_count_91 ?_
      obtain rfl := Option.some.inj hf
      exact x_iret C0 hr hw dX8_count_94
    · have hf := ite_f hf zc3
      by_cases zc6 : zx1 = (2 : Int32)
      · have hf := ite_t hf zc6
        refine lv_tableIn (off := 94) (tgt := 95) hx hb dX8_count_1 (by rw [zc6]; decide) (by rw [zc6]; decide) (by rw [zc6]; rfl) (by decide) ?_
        refine lv_aload_n hx hb dX8_count_95 rfl (lv_at hl 0 rfl) ?_
        obtain ⟨zv7, ezv7, hf⟩ := nn_some hf
        have tzv7 : okA E G 4 zv7 := wt_r hw ezv7
        refine xg_8_0 C0 hw zt0 wd319 ezv7 dX8_count_96 ?_
        obtain ⟨zv8, ezv8, hf⟩ := nn_some hf
        have tzv8 : okA E G 6 zv8 := wt_r hw ezv8
        refine xg_4_1 C0 hw tzv7 wd354 ezv8 dX8_count_99 ?_
        refine lv_iconst (v := (0 : Int32)) hx hb dX8_count_102 (by decide) ?_
        obtain ⟨zv9, ze10, hf⟩ := nn_some hf
        refine x_ci (r := zv9) (I1 := I) (X1 := X) (x_runV (As := [.int (0 : Int32)]) (rest := []) C0 (c6_countOf l E G fl X I zv8 (0 : Int32) tzv8 ze10) hw 6 tzv8 (by decide) rfl wd39 wd400 wd257 wd258 wd146 ⟨rfl, rfl⟩ hy6_countOf ⟨Nat.le_of_ble_eq_true rfl, Nat.le_of_ble_eq_true rfl⟩ rfl hl.1 (Nat.le_of_ble_eq_true rfl) ⟨Nat.zero_le _, Nat.zero_le _⟩ dX8_count_103) hw (fun H locs hw => ?_)
        obtain rfl := Option.some.inj hf
        exact x_iret C0 hr hw dX8_count_106
      · have hf := ite_f hf zc6
        by_cases zc11 : zx1 = (3 : Int32)
        · have hf := ite_t hf zc11
          refine lv_tableIn (off := 106) (tgt := 107) hx hb dX8_count_1 (by rw [zc11]; decide) (by rw [zc11]; decide) (by rw [zc11]; rfl) (by decide) ?_
          refine lv_aload_n hx hb dX8_count_107 rfl (lv_at hl 0 rfl) ?_
          obtain ⟨zv12, ezv12, hf⟩ := nn_some hf
          have tzv12 : okA E G 4 zv12 := wt_r hw ezv12
          refine xg_8_0 C0 hw zt0 wd319 ezv12 dX8_count_108 ?_
          obtain ⟨zv13, ezv13, hf⟩ := nn_some hf
          have tzv13 : okA E G 6 zv13 := wt_r hw ezv13
          refine xg_4_1 C0 hw tzv12 wd354 ezv13 dX8_count_111 ?_
          refine lv_iconst (v := (1 : Int32)) hx hb dX8_count_114 (by decide) ?_
          obtain ⟨zv14, ze15, hf⟩ := nn_some hf
          refine x_ci (r := zv14) (I1 := I) (X1 := X) (x_runV (As := [.int (1 : Int32)]) (rest := []) C0 (c6_countOf l E G fl X I zv13 (1 : Int32) tzv13 ze15) hw 6 tzv13 (by decide) rfl wd39 wd400 wd257 wd258 wd146 ⟨rfl, rfl⟩ hy6_countOf ⟨Nat.le_of_ble_eq_true rfl, Nat.le_of_ble_eq_true rfl⟩ rfl hl.1 (Nat.le_of_ble_eq_true rfl) ⟨Nat.zero_le _, Nat.zero_le _⟩ dX8_count_115) hw (fun H locs hw => ?_)
          obtain rfl := Option.some.inj hf
          exact x_iret C0 hr hw dX8_count_118
        · have hf := ite_f hf zc11
          by_cases zc16 : zx1 = (4 : Int32)
          · have hf := ite_t hf zc16
            refine lv_tableIn (off := 118) (tgt := 119) hx hb dX8_count_1 (by rw [zc16]; decide) (by rw [zc16]; decide) (by rw [zc16]; rfl) (by decide) ?_
            refine lv_aload_n hx hb dX8_count_119 rfl (lv_at hl 0 rfl) ?_
            obtain ⟨zv17, ezv17, hf⟩ := nn_some hf
            have tzv17 : okA E G 4 zv17 := wt_r hw ezv17
            refine xg_8_0 C0 hw zt0 wd319 ezv17 dX8_count_120 ?_
            obtain ⟨zv18, ezv18, hf⟩ := nn_some hf
            have tzv18 : okA E G 6 zv18 := wt_r hw ezv18
            refine xg_4_1 C0 hw tzv17 wd354 ezv18 dX8_count_123 ?_
            refine lv_iconst (v := (2 : Int32)) hx hb dX8_count_126 (by decide) ?_
            obtain ⟨zv19, ze20, hf⟩ := nn_some hf
            refine x_ci (r := zv19) (I1 := I) (X1 := X) (x_runV (As := [.int (2 : Int32)]) (rest := []) C0 (c6_countOf l E G fl X I zv18 (2 : Int32) tzv18 ze20) hw 6 tzv18 (by decide) rfl wd39 wd400 wd257 wd258 wd146 ⟨rfl, rfl⟩ hy6_countOf ⟨Nat.le_of_ble_eq_true rfl, Nat.le_of_ble_eq_true rfl⟩ rfl hl.1 (Nat.le_of_ble_eq_true rfl) ⟨Nat.zero_le _, Nat.zero_le _⟩ dX8_count_127) hw (fun H locs hw => ?_)
            obtain rfl := Option.some.inj hf
            exact x_iret C0 hr hw dX8_count_130
          · have hf := ite_f hf zc16
            by_cases zc21 : zx1 = (5 : Int32)
            · have hf := ite_t hf zc21
              refine lv_tableIn (off := 130) (tgt := 131) hx hb dX8_count_1 (by rw [zc21]; decide) (by rw [zc21]; decide) (by rw [zc21]; rfl) (by decide) ?_
              refine lv_aload_n hx hb dX8_count_131 rfl (lv_at hl 0 rfl) ?_
              obtain ⟨zv22, ezv22, hf⟩ := nn_some hf
              have tzv22 : okA E G 4 zv22 := wt_r hw ezv22
              refine xg_8_0 C0 hw zt0 wd319 ezv22 dX8_count_132 ?_
              obtain ⟨zv23, ezv23, hf⟩ := nn_some hf
              have tzv23 : okA E G 6 zv23 := wt_r hw ezv23
              refine xg_4_1 C0 hw tzv22 wd354 ezv23 dX8_count_135 ?_
              refine lv_iconst (v := (3 : Int32)) hx hb dX8_count_138 (by decide) ?_
              obtain ⟨zv24, ze25, hf⟩ := nn_some hf
              refine x_ci (r := zv24) (I1 := I) (X1 := X) (x_runV (As := [.int (3 : Int32)]) (rest := []) C0 (c6_countOf l E G fl X I zv23 (3 : Int32) tzv23 ze25) hw 6 tzv23 (by decide) rfl wd39 wd400 wd257 wd258 wd146 ⟨rfl, rfl⟩ hy6_countOf ⟨Nat.le_of_ble_eq_true rfl, Nat.le_of_ble_eq_true rfl⟩ rfl hl.1 (Nat.le_of_ble_eq_true rfl) ⟨Nat.zero_le _, Nat.zero_le _⟩ dX8_count_139) hw (fun H locs hw => ?_)
              obtain rfl := Option.some.inj hf
              exact x_iret C0 hr hw dX8_count_142
            · have hf := ite_f hf zc21
              by_cases zc26 : zx1 = (6 : Int32)
              · have hf := ite_t hf zc26
                refine lv_tableIn (off := 142) (tgt := 143) hx hb dX8_count_1 (by rw [zc26]; decide) (by rw [zc26]; decide) (by rw [zc26]; rfl) (by decide) ?_
                refine lv_aload_n hx hb dX8_count_143 rfl (lv_at hl 0 rfl) ?_
                obtain ⟨zv27, ezv27, hf⟩ := nn_some hf
                have tzv27 : okA E G 4 zv27 := wt_r hw ezv27
                refine xg_8_0 C0 hw zt0 wd319 ezv27 dX8_count_144 ?_
                obtain ⟨zv28, ze29, hf⟩ := nn_some hf
                refine x_ci (r := zv28) (I1 := I) (X1 := X) (x_runV (As := []) (rest := []) C0 (c4_loudestSecond l E G fl X I zv27 tzv27 ze29) hw 4 tzv27 (by decide) rfl wd52 wd401 wd402 wd403 wd202 ⟨rfl, rfl⟩ hy4_loudestSecond ⟨Nat.le_of_ble_eq_true rfl, Nat.le_of_ble_eq_true rfl⟩ rfl hl.1 (Nat.le_of_ble_eq_true rfl) ⟨Nat.zero_le _, Nat.zero_le _⟩ dX8_count_147) hw (fun H locs hw => ?_)
                obtain rfl := Option.some.inj hf
                exact x_iret C0 hr hw dX8_count_150
              · have hf := ite_f hf zc26
                by_cases zc30 : zx1 = (7 : Int32)
                · have hf := ite_t hf zc30
                  refine lv_tableIn (off := 150) (tgt := 151) hx hb dX8_count_1 (by rw [zc30]; decide) (by rw [zc30]; decide) (by rw [zc30]; rfl) (by decide) ?_
                  refine lv_aload_n hx hb dX8_count_151 rfl (lv_at hl 0 rfl) ?_
                  obtain ⟨zv31, ezv31, hf⟩ := nn_some hf
                  have tzv31 : okA E G 4 zv31 := wt_r hw ezv31
                  refine xg_8_0 C0 hw zt0 wd319 ezv31 dX8_count_152 ?_
                  obtain ⟨zv32, ze33, hf⟩ := nn_some hf
                  refine x_ci (r := zv32) (I1 := I) (X1 := X) (x_runV (As := []) (rest := []) C0 (c4_tooLoudSeconds l E G fl X I zv31 tzv31 ze33) hw 4 tzv31 (by decide) rfl wd53 wd404 wd405 wd406 wd202 ⟨rfl, rfl⟩ hy4_tooLoudSeconds ⟨Nat.le_of_ble_eq_true rfl, Nat.le_of_ble_eq_true rfl⟩ rfl hl.1 (Nat.le_of_ble_eq_true rfl) ⟨Nat.zero_le _, Nat.zero_le _⟩ dX8_count_155) hw (fun H locs hw => ?_)
                  obtain rfl := Option.some.inj hf
                  exact x_iret C0 hr hw dX8_count_158
                · have hf := ite_f hf zc30
                  by_cases zc34 : zx1 = (8 : Int32)
                  · have hf := ite_t hf zc34
                    refine lv_tableIn (off := 158) (tgt := 159) hx hb dX8_count_1 (by rw [zc34]; decide) (by rw [zc34]; decide) (by rw [zc34]; rfl) (by decide) ?_
                    refine lv_aload_n hx hb dX8_count_159 rfl (lv_at hl 0 rfl) ?_
                    obtain ⟨zv35, ezv35, hf⟩ := nn_some hf
                    have tzv35 : okA E G 4 zv35 := wt_r hw ezv35
                    refine xg_8_0 C0 hw zt0 wd319 ezv35 dX8_count_160 ?_
                    obtain ⟨zv36, ze37, hf⟩ := nn_some hf
                    refine x_ci (r := zv36) (I1 := I) (X1 := X) (x_runV (As := []) (rest := []) C0 (c4_playingReels l E G fl X I zv35 tzv35 ze37) hw 4 tzv35 (by decide) rfl wd51 wd407 wd408 wd409 wd202 ⟨rfl, rfl⟩ hy4_playingReels ⟨Nat.le_of_ble_eq_true rfl, Nat.le_of_ble_eq_true rfl⟩ rfl hl.1 (Nat.le_of_ble_eq_true rfl) ⟨Nat.zero_le _, Nat.zero_le _⟩ dX8_count_163) hw (fun H locs hw => ?_)
                    obtain rfl := Option.some.inj hf
                    exact x_iret C0 hr hw dX8_count_166
                  · have hf := ite_f hf zc34
                    by_cases zc38 : zx1 = (9 : Int32)
                    · have hf := ite_t hf zc38
                      refine lv_tableIn (off := 166) (tgt := 167) hx hb dX8_count_1 (by rw [zc38]; decide) (by rw [zc38]; decide) (by rw [zc38]; rfl) (by decide) ?_
                      refine lv_aload_n hx hb dX8_count_167 rfl (lv_at hl 0 rfl) ?_
                      obtain ⟨zv39, ezv39, hf⟩ := nn_some hf
                      have tzv39 : okA E G 4 zv39 := wt_r hw ezv39
                      refine xg_8_0 C0 hw zt0 wd319 ezv39 dX8_count_168 ?_
                      obtain ⟨zv40, ezv40, hf⟩ := nn_some hf
                      have tzv40 : okA E G 11 zv40 := wt_r hw ezv40
                      refine xg_4_0 C0 hw tzv39 wd398 ezv40 dX8_count_171 ?_
                      refine lv_iconst (v := (0 : Int32)) hx hb dX8_count_174 (by decide) ?_
                      obtain ⟨zhb41, hf⟩ := ck_some hf
                      refine x_iald C0 hw tzv40 zhb41 dX8_count_175 ?_
                      obtain rfl := Option.some.inj hf
                      exact x_iret C0 hr hw dX8_count_176
                    · have hf := ite_f hf zc38
                      by_cases zc42 : zx1 = (10 : Int32)
                      · have hf := ite_t hf zc42
                        refine lv_tableIn (off := 176) (tgt := 177) hx hb dX8_count_1 (by rw [zc42]; decide) (by rw [zc42]; decide) (by rw [zc42]; rfl) (by decide) ?_
                        refine lv_aload_n hx hb dX8_count_177 rfl (lv_at hl 0 rfl) ?_
                        obtain ⟨zv43, ezv43, hf⟩ := nn_some hf
                        have tzv43 : okA E G 4 zv43 := wt_r hw ezv43
                        refine xg_8_0 C0 hw zt0 wd319 ezv43 dX8_count_178 ?_
                        obtain ⟨zv44, ezv44, hf⟩ := nn_some hf
                        have tzv44 : okA E G 11 zv44 := wt_r hw ezv44
                        refine xg_4_0 C0 hw tzv43 wd398 ezv44 dX8_count_181 ?_
                        refine lv_iconst (v := (1 : Int32)) hx hb dX8_count_184 (by decide) ?_
                        obtain ⟨zhb45, hf⟩ := ck_some hf
                        refine x_iald C0 hw tzv44 zhb45 dX8_count_185 ?_
                        obtain rfl := Option.some.inj hf
                        exact x_iret C0 hr hw dX8_count_186
                      · have hf := ite_f hf zc42
                        by_cases zc46 : zx1 = (11 : Int32)
                        · have hf := ite_t hf zc46
                          refine lv_tableIn (off := 186) (tgt := 187) hx hb dX8_count_1 (by rw [zc46]; decide) (by rw [zc46]; decide) (by rw [zc46]; rfl) (by decide) ?_
                          refine lv_aload_n hx hb dX8_count_187 rfl (lv_at hl 0 rfl) ?_
                          obtain ⟨zv47, ezv47, hf⟩ := nn_some hf
                          have tzv47 : okA E G 4 zv47 := wt_r hw ezv47
                          refine xg_8_0 C0 hw zt0 wd319 ezv47 dX8_count_188 ?_
                          obtain ⟨zv48, ezv48, hf⟩ := nn_some hf
                          have tzv48 : okA E G 11 zv48 := wt_r hw ezv48
                          refine xg_4_0 C0 hw tzv47 wd398 ezv48 dX8_count_191 ?_
                          refine lv_iconst (v := (2 : Int32)) hx hb dX8_count_194 (by decide) ?_
                          obtain ⟨zhb49, hf⟩ := ck_some hf
                          refine x_iald C0 hw tzv48 zhb49 dX8_count_195 ?_
                          obtain rfl := Option.some.inj hf
                          exact x_iret C0 hr hw dX8_count_196
                        · have hf := ite_f hf zc46
                          by_cases zc50 : zx1 = (12 : Int32)
                          · have hf := ite_t hf zc50
                            refine lv_tableIn (off := 196) (tgt := 197) hx hb dX8_count_1 (by rw [zc50]; decide) (by rw [zc50]; decide) (by rw [zc50]; rfl) (by decide) ?_
                            refine lv_aload_n hx hb dX8_count_197 rfl (lv_at hl 0 rfl) ?_
                            obtain ⟨zv51, ezv51, hf⟩ := nn_some hf
                            have tzv51 : okA E G 4 zv51 := wt_r hw ezv51
                            refine xg_8_0 C0 hw zt0 wd319 ezv51 dX8_count_198 ?_
                            obtain ⟨zv52, ezv52, hf⟩ := nn_some hf
                            have tzv52 : okA E G 11 zv52 := wt_r hw ezv52
                            refine xg_4_0 C0 hw tzv51 wd398 ezv52 dX8_count_201 ?_
                            refine lv_iconst (v := (3 : Int32)) hx hb dX8_count_204 (by decide) ?_
                            obtain ⟨zhb53, hf⟩ := ck_some hf
                            refine x_iald C0 hw tzv52 zhb53 dX8_count_205 ?_
                            obtain rfl := Option.some.inj hf
                            exact x_iret C0 hr hw dX8_count_206
                          · have hf := ite_f hf zc50
                            by_cases zc54 : zx1 = (13 : Int32)
                            · have hf := ite_t hf zc54
                              refine lv_tableIn (off := 206) (tgt := 207) hx hb dX8_count_1 (by rw [zc54]; decide) (by rw [zc54]; decide) (by rw [zc54]; rfl) (by decide) ?_
                              refine lv_aload_n hx hb dX8_count_207 rfl (lv_at hl 0 rfl) ?_
                              obtain ⟨zv55, ezv55, hf⟩ := nn_some hf
                              have tzv55 : okA E G 3 zv55 := wt_r hw ezv55
                              refine xg_8_6 C0 hw zt0 wd328 ezv55 dX8_count_208 ?_
                              refine xg_3_1 C0 hw tzv55 wd399 dX8_count_211 ?_
                              obtain rfl := Option.some.inj hf
                              exact x_iret C0 hr hw dX8_count_214
                            · have hf := ite_f hf zc54
                              by_cases zc56 : zx1 = (14 : Int32)
                              · have hf := ite_t hf zc56
                                refine lv_tableIn (off := 214) (tgt := 215) hx hb dX8_count_1 (by rw [zc56]; decide) (by rw [zc56]; decide) (by rw [zc56]; rfl) (by decide) ?_
                                refine lv_aload_n hx hb dX8_count_215 rfl (lv_at hl 0 rfl) ?_
                                refine xg_8_3 C0 hw zt0 wd332 dX8_count_216 ?_
                                obtain rfl := Option.some.inj hf
                                exact x_iret C0 hr hw dX8_count_219
                              · have hf := ite_f hf zc56
                                have zq0 := tsw_ne _ zc1 (show ((0 : Int32)).toInt = 0 by decide)
                                have zq1 := tsw_ne _ zc3 (show ((1 : Int32)).toInt = 1 by decide)
                                have zq2 := tsw_ne _ zc6 (show ((2 : Int32)).toInt = 2 by decide)
                                have zq3 := tsw_ne _ zc11 (show ((3 : Int32)).toInt = 3 by decide)
                                have zq4 := tsw_ne _ zc16 (show ((4 : Int32)).toInt = 4 by decide)
                                have zq5 := tsw_ne _ zc21 (show ((5 : Int32)).toInt = 5 by decide)
                                have zq6 := tsw_ne _ zc26 (show ((6 : Int32)).toInt = 6 by decide)
                                have zq7 := tsw_ne _ zc30 (show ((7 : Int32)).toInt = 7 by decide)
                                have zq8 := tsw_ne _ zc34 (show ((8 : Int32)).toInt = 8 by decide)
                                have zq9 := tsw_ne _ zc38 (show ((9 : Int32)).toInt = 9 by decide)
                                have zq10 := tsw_ne _ zc42 (show ((10 : Int32)).toInt = 10 by decide)
                                have zq11 := tsw_ne _ zc46 (show ((11 : Int32)).toInt = 11 by decide)
                                have zq12 := tsw_ne _ zc50 (show ((12 : Int32)).toInt = 12 by decide)
                                have zq13 := tsw_ne _ zc54 (show ((13 : Int32)).toInt = 13 by decide)
                                have zq14 := tsw_ne _ zc56 (show ((14 : Int32)).toInt = 14 by decide)
                                refine lv_tableOut (tgt := 220) hx hb dX8_count_1 (by omega) (by decide) ?_
                                refine lv_bipush (v := (-2 : Int32)) hx hb dX8_count_220 (by decide) ?_
                                obtain rfl := Option.some.inj hf
                                exact x_iret C0 hr hw dX8_count_222
noncomputable def m4_soundAt_19 (fl : Nat) (len : Nat → Nat) (X : Xm) (I : Im) (zs0 : Option Nat) : Option (Option Nat) :=
  some (zs0)
set_option maxHeartbeats 4000000 in
set_option maxRecDepth 100000 in
theorem w4_soundAt_19 {p : Program} {l : Launch} {e : Env} {s : State} {m : MethodId} {args : Array Value} {below : List Frame} {meth : Method} {c : Code} {E : EN} {G : GM} {X : Xm} {I : Im} (C0 : CX p s m args meth c E cX4_soundAt RX4 4) (hr : meth.sig.returnType = (some (.object "RadioCues$Sound"))) (hz : s.heap.size + 0 ≤ eB E + G.1) {rr : Option Nat} (fl : Nat) : ∀ (H : Heap) (locs : List Loc) (ls : Array Slot) (zs0 : Option Nat) (zts0 : ∀ a, zs0 = some a → okA E G 7 a), WD E G I X s.heap H locs → lv_has ls 4 [] → m4_soundAt_19 fl G.2.2 X I zs0 = some rr → W p l e ({ frames := 1, cells := 0, slots := 0, locals := 21 } : Room) s m args below meth c H locs 0 0 (MQ below (QO E G 7 rr I X) args s 0 0 (eA E)) (F0 m 19 ls [va_rf zs0]) := by
  intro H locs ls zs0 zts0 hw hl hf
  unfold m4_soundAt_19 at hf
  have hx := C0.1; have hb := C0.2.1; have hml := C0.2.2.1; have hown := C0.2.2.2.1; have hts := C0.2.2.2.2.1
  obtain rfl := Option.some.inj hf
  exact x_oret (r := zs0) (k := 7) C0 hr zts0 hw dX4_soundAt_19
noncomputable def m4_soundAt (fl : Nat) (len : Nat → Nat) (X : Xm) (I : Im) (zx0 : Nat) (zx1 : Int32) (zx2 : Int32) : Option (Option Nat) :=
  nn (m4_reelAt fl len X I zx0 zx1) fun zv1 =>
  if zv1 = none then
    m4_soundAt_19 fl len X I none
  else
    nn zv1 fun zb4 =>
    nn (m5_soundNumbered fl len X I zb4 zx2) fun zv5 =>
    m4_soundAt_19 fl len X I zv5
theorem hy4_soundAt : yX4_soundAt.cls = RX4 ∧ yX4_soundAt.cls ≠ "java/lang/invoke/MethodHandle" ∧ yX4_soundAt.cls ≠ "java/lang/invoke/VarHandle" ∧ (parseMethodDescriptor yX4_soundAt.desc).map (fun d => d.parameters.length) = some 2 := ⟨rfl, by decide +kernel, by decide +kernel, by decide +kernel⟩
set_option maxHeartbeats 4000000 in
set_option maxRecDepth 100000 in
theorem c4_soundAt (l : Launch) (E : EN) (G : GM) (fl : Nat) (X : Xm) (I : Im) (zx0 : Nat) (zx1 : Int32) (zx2 : Int32) (zt0 : okA E G 4 zx0) {rr : Option Nat} (hf : m4_soundAt fl G.2.2 X I zx0 zx1 zx2 = some rr) : MT l yX4_soundAt cX4_soundAt 4 (some (.object "RadioCues$Sound")) ({ frames := 1, cells := 0, slots := 0, locals := 21 } : Room) E G I X [.ref zx0, .int zx1, .int zx2] (QO E G 7 rr I X) 0 0 := by
  refine Met.ofW (cc := cX4_soundAt) (maxL := 4) (ret := (some (.object "RadioCues$Sound"))) (by decide +kernel) rfl ?_
  intro p e s m args below meth c s₁ B hml hv
  obtain ⟨rfl, hw0, hSE⟩ := hv
  have C0 : CX p s m ([.ref zx0, .int zx1, .int zx2] : List Value).toArray meth c E cX4_soundAt RX4 4 := ⟨B.exec, B.bytes, hml, findClass_of_methodNamed B.named, fun w hw => atoms_spec (ws := WS yX4_soundAt cX4_soundAt 4 (some (.object "RadioCues$Sound"))) B.pre w (List.mem_cons_of_mem _ hw), B.notSynchronized, hSE⟩
  have hz : s.heap.size + 0 ≤ eB E + G.1 := Nat.le_of_eq hw0.2.1
  have hw : WD E G I X s.heap s.heap [] := ⟨hw0, va_S.rf⟩
  have hr := B.returns
  have hx := C0.1; have hb := C0.2.1; have hml := C0.2.2.1; have hown := C0.2.2.2.1; have hts := C0.2.2.2.2.1
  have hl := lv_entry ([.ref zx0, .int zx1, .int zx2]) (n := 4) (Nat.le_of_ble_eq_true rfl)
  rw [lg_entry_eq]
  generalize (lg_sl ([.ref zx0, .int zx1, .int zx2]) ++ List.replicate (4 - (lg_sl ([.ref zx0, .int zx1, .int zx2])).length) Slot.unset).toArray = ls at hl ⊢
  have hl : lv_has ls 4 [(0, .ref zx0), (1, .int zx1), (2, .int zx2)] := hl
  unfold m4_soundAt at hf
  refine lv_aload_n hx hb dX4_soundAt_0 rfl (lv_at hl 0 rfl) ?_
  refine lv_iload_n hx hb dX4_soundAt_1 rfl (lv_at hl 1 rfl) ?_
  obtain ⟨zv1, ze2, hf⟩ := nn_some hf
  refine x_co (r := zv1) (I1 := I) (X1 := X) (x_runV (As := [.int zx1]) (rest := []) C0 (c4_reelAt l E G fl X I zx0 zx1 zt0 ze2) hw 4 zt0 (by decide) rfl wd22 wd214 wd215 wd216 wd202 ⟨rfl, rfl⟩ hy4_reelAt ⟨Nat.le_of_ble_eq_true rfl, Nat.le_of_ble_eq_true rfl⟩ rfl hl.1 (Nat.le_of_ble_eq_true rfl) ⟨Nat.zero_le _, Nat.zero_le _⟩ dX4_soundAt_2) hw (fun H locs hw tzv1 => ?_)
  refine x_astore_n (lv' := [(3, va_rf zv1), (0, .ref zx0), (1, .int zx1), (2, .int zx2)]) C0 dX4_soundAt_5 rfl hl (by decide) rfl (fun ls hl => ?_)
  refine x_aload_n C0 dX4_soundAt_6 rfl (lv_at hl 0 rfl) ?_
  refine x_ifnonnull (tgt := 14) C0 dX4_soundAt_7 (by decide) (fun zc3 => ?_) (fun zc3 => ?_)
  · have hf := ite_f hf zc3
    refine x_aload_n C0 dX4_soundAt_14 rfl (lv_at hl 0 rfl) ?_
    refine lv_iload_n hx hb dX4_soundAt_15 rfl (lv_at hl 3 rfl) ?_
    obtain ⟨zb4, ezb4, hfzb4⟩ := nn_some hf
    have tzb4 : okA E G 5 zb4 := tzv1 _ ezb4
    subst ezb4
    have hf := hfzb4
    obtain ⟨zv5, ze6, hf⟩ := nn_some hf
    refine x_co (r := zv5) (I1 := I) (X1 := X) (x_runV (As := [.int zx2]) (rest := []) C0 (c5_soundNumbered l E G fl X I zb4 zx2 tzb4 ze6) hw 5 tzb4 (by decide) rfl wd23 wd220 wd207 wd208 wd159 ⟨rfl, rfl⟩ hy5_soundNumbered ⟨Nat.le_of_ble_eq_true rfl, Nat.le_of_ble_eq_true rfl⟩ rfl hl.1 (Nat.le_of_ble_eq_true rfl) ⟨Nat.zero_le _, Nat.zero_le _⟩ dX4_soundAt_16) hw (fun H locs hw tzv5 => ?_)
    exact w4_soundAt_19 C0 hr hz fl _ _ _ zv5 tzv5 hw (lv_sub hl [] rfl) hf
  · have hf := ite_t hf zc3
    refine lv_null hx hb dX4_soundAt_10 ?_
    refine lv_goto (tgt := 19) hx hb dX4_soundAt_11 (by decide) ?_
    exact w4_soundAt_19 C0 hr hz fl _ _ _ none (fun a h => by cases h) hw (lv_sub hl [] rfl) hf
noncomputable def m8_played_27 (fl : Nat) (len : Nat → Nat) (X : Xm) (I : Im) : Option (Int32) :=
  some ((-1 : Int32))
set_option maxHeartbeats 4000000 in
set_option maxRecDepth 100000 in
theorem w8_played_27 {p : Program} {l : Launch} {e : Env} {s : State} {m : MethodId} {args : Array Value} {below : List Frame} {meth : Method} {c : Code} {E : EN} {G : GM} {X : Xm} {I : Im} (C0 : CX p s m args meth c E cX8_played RX8 6) (hr : meth.sig.returnType = (some .int)) (hz : s.heap.size + 0 ≤ eB E + G.1) {rr : Int32} (fl : Nat) : ∀ (H : Heap) (locs : List Loc) (ls : Array Slot) , WD E G I X s.heap H locs → lv_has ls 6 [] → m8_played_27 fl G.2.2 X I = some rr → W p l e ({ frames := 2, cells := 0, slots := 0, locals := 44 } : Room) s m args below meth c H locs 0 0 (MQ below (QI E G rr I X) args s 0 0 (eA E)) (F0 m 27 ls []) := by
  intro H locs ls hw hl hf
  unfold m8_played_27 at hf
  have hx := C0.1; have hb := C0.2.1; have hml := C0.2.2.1; have hown := C0.2.2.2.1; have hts := C0.2.2.2.2.1
  refine lv_iconst (v := (-1 : Int32)) hx hb dX8_played_27 (by decide) ?_
  obtain rfl := Option.some.inj hf
  exact x_iret C0 hr hw dX8_played_28
noncomputable def m8_played (fl : Nat) (len : Nat → Nat) (X : Xm) (I : Im) (zx0 : Nat) (zx1 : Int32) (zx2 : Int32) : Option (Int32) :=
  if zx1 < 0 then
    m8_played_27 fl len X I 
  else
    nn (gR X 128 zx0) fun zv2 =>
    if (gF I 70 zv2) ≤ zx1 then
      m8_played_27 fl len X I 
    else
      nn (gR X 69 zv2) fun zv4 =>
      if zx1 < (nI (len zv4)) then
        ck (inb zx1 (len zv4) = true) <|
        lt (((gA I zv4 (zx1).toNatClampNeg) / (6 : Int32))) fun zv7 =>
        lt (((gA I zv4 (zx1).toNatClampNeg) - (gA I zv4 (zx1).toNatClampNeg) / (6 : Int32) * (6 : Int32))) fun zv8 =>
        nn (m4_soundAt fl len X I zv2 zv7 zv8) fun zv9 =>
        if zv9 = none then
          some ((-1 : Int32))
        else
          if zx2 = (0 : Int32) then
            some (zv7)
          else
            if zx2 = (1 : Int32) then
              some (zv8)
            else
              if zx2 = (2 : Int32) then
                nn zv9 fun zb15 =>
                some ((gF I 115 zb15))
              else
                some ((-2 : Int32))
      else
        m8_played_27 fl len X I 
theorem hy8_played : yX8_played.cls = RX8 ∧ yX8_played.cls ≠ "java/lang/invoke/MethodHandle" ∧ yX8_played.cls ≠ "java/lang/invoke/VarHandle" ∧ (parseMethodDescriptor yX8_played.desc).map (fun d => d.parameters.length) = some 2 := ⟨rfl, by decide +kernel, by decide +kernel, by decide +kernel⟩
set_option maxHeartbeats 4000000 in
set_option maxRecDepth 100000 in
theorem c8_played (l : Launch) (E : EN) (G : GM) (fl : Nat) (X : Xm) (I : Im) (zx0 : Nat) (zx1 : Int32) (zx2 : Int32) (zt0 : okA E G 8 zx0) {rr : Int32} (hf : m8_played fl G.2.2 X I zx0 zx1 zx2 = some rr) : MT l yX8_played cX8_played 6 (some .int) ({ frames := 2, cells := 0, slots := 0, locals := 44 } : Room) E G I X [.ref zx0, .int zx1, .int zx2] (QI E G rr I X) 0 0 := by
  refine Met.ofW (cc := cX8_played) (maxL := 6) (ret := (some .int)) (by decide +kernel) rfl ?_
  intro p e s m args below meth c s₁ B hml hv
  obtain ⟨rfl, hw0, hSE⟩ := hv
  have C0 : CX p s m ([.ref zx0, .int zx1, .int zx2] : List Value).toArray meth c E cX8_played RX8 6 := ⟨B.exec, B.bytes, hml, findClass_of_methodNamed B.named, fun w hw => atoms_spec (ws := WS yX8_played cX8_played 6 (some .int)) B.pre w (List.mem_cons_of_mem _ hw), B.notSynchronized, hSE⟩
  have hz : s.heap.size + 0 ≤ eB E + G.1 := Nat.le_of_eq hw0.2.1
  have hw : WD E G I X s.heap s.heap [] := ⟨hw0, va_S.rf⟩
  have hr := B.returns
  have hx := C0.1; have hb := C0.2.1; have hml := C0.2.2.1; have hown := C0.2.2.2.1; have hts := C0.2.2.2.2.1
  have hl := lv_entry ([.ref zx0, .int zx1, .int zx2]) (n := 6) (Nat.le_of_ble_eq_true rfl)
  rw [lg_entry_eq]
  generalize (lg_sl ([.ref zx0, .int zx1, .int zx2]) ++ List.replicate (6 - (lg_sl ([.ref zx0, .int zx1, .int zx2])).length) Slot.unset).toArray = ls at hl ⊢
  have hl : lv_has ls 6 [(0, .ref zx0), (1, .int zx1), (2, .int zx2)] := hl
  unfold m8_played at hf
  refine lv_iload_n hx hb dX8_played_0 rfl (lv_at hl 1 rfl) ?_
  refine lv_if_lt (tgt := 27) hx hb dX8_played_1 (by decide) (fun zc1 => ?_) (fun zc1 => ?_)
  · have hf := ite_t hf zc1
    exact w8_played_27 C0 hr hz fl _ _ _ hw (lv_sub hl [] rfl) hf
  · have hf := ite_f hf zc1
    refine lv_iload_n hx hb dX8_played_4 rfl (lv_at hl 1 rfl) ?_
    refine lv_aload_n hx hb dX8_played_5 rfl (lv_at hl 0 rfl) ?_
    obtain ⟨zv2, ezv2, hf⟩ := nn_some hf
    have tzv2 : okA E G 4 zv2 := wt_r hw ezv2
    refine xg_8_0 C0 hw zt0 wd319 ezv2 dX8_played_6 ?_
    refine xg_4_6 C0 hw tzv2 wd386 dX8_played_9 ?_
    refine lv_icmp_ge (tgt := 27) hx hb dX8_played_12 (by decide) (fun zc3 => ?_) (fun zc3 => ?_)
    · have hf := ite_t hf zc3
      exact w8_played_27 C0 hr hz fl _ _ _ hw (lv_sub hl [] rfl) hf
    · have hf := ite_f hf zc3
      refine lv_iload_n hx hb dX8_played_15 rfl (lv_at hl 1 rfl) ?_
      refine lv_aload_n hx hb dX8_played_16 rfl (lv_at hl 0 rfl) ?_
      refine xg_8_0 C0 hw zt0 wd319 ezv2 dX8_played_17 ?_
      obtain ⟨zv4, ezv4, hf⟩ := nn_some hf
      have tzv4 : okA E G 11 zv4 := wt_r hw ezv4
      refine xg_4_5 C0 hw tzv2 wd387 ezv4 dX8_played_20 ?_
      refine x_alen C0 hw 11 tzv4 (by decide) rfl dX8_played_23 ?_
      refine lv_icmp_lt (tgt := 29) hx hb dX8_played_24 (by decide) (fun zc5 => ?_) (fun zc5 => ?_)
      · have hf := ite_t hf zc5
        refine lv_aload_n hx hb dX8_played_29 rfl (lv_at hl 0 rfl) ?_
        refine xg_8_0 C0 hw zt0 wd319 ezv2 dX8_played_30 ?_
        refine xg_4_5 C0 hw tzv2 wd387 ezv4 dX8_played_33 ?_
        refine lv_iload_n hx hb dX8_played_36 rfl (lv_at hl 1 rfl) ?_
        obtain ⟨zhb6, hf⟩ := ck_some hf
        refine x_iald C0 hw tzv4 zhb6 dX8_played_37 ?_
        refine lv_bipush (v := (6 : Int32)) hx hb dX8_played_38 (by decide) ?_
        refine lv_idiv hx hb dX8_played_40 (by decide) ?_
        refine lv_topi (fun zv7 ezv7 => ?_)
        have hf := lt_at hf ezv7
        refine lv_istore_n (lv' := [(3, .int zv7), (0, .ref zx0), (1, .int zx1), (2, .int zx2)]) hx hb dX8_played_41 rfl hl (by decide) rfl (fun ls hl => ?_)
        refine lv_aload_n hx hb dX8_played_42 rfl (lv_at hl 1 rfl) ?_
        refine xg_8_0 C0 hw zt0 wd319 ezv2 dX8_played_43 ?_
        refine xg_4_5 C0 hw tzv2 wd387 ezv4 dX8_played_46 ?_
        refine lv_iload_n hx hb dX8_played_49 rfl (lv_at hl 2 rfl) ?_
        refine x_iald C0 hw tzv4 zhb6 dX8_played_50 ?_
        refine lv_bipush (v := (6 : Int32)) hx hb dX8_played_51 (by decide) ?_
        refine lv_irem hx hb dX8_played_53 (by decide) ?_
        refine lv_topi (fun zv8 ezv8 => ?_)
        have hf := lt_at hf ezv8
        refine lv_istore (lv' := [(4, .int zv8), (3, .int zv7), (0, .ref zx0), (1, .int zx1), (2, .int zx2)]) hx hb dX8_played_54 hl (by decide) rfl (fun ls hl => ?_)
        refine lv_aload_n hx hb dX8_played_56 rfl (lv_at hl 2 rfl) ?_
        refine xg_8_0 C0 hw zt0 wd319 ezv2 dX8_played_57 ?_
        refine lv_iload_n hx hb dX8_played_60 rfl (lv_at hl 1 rfl) ?_
        refine lv_iload hx hb dX8_played_61 (lv_at hl 0 rfl) ?_
        obtain ⟨zv9, ze10, hf⟩ := nn_some hf
        refine x_co (r := zv9) (I1 := I) (X1 := X) (x_runV (As := [.int zv7, .int zv8]) (rest := []) C0 (c4_soundAt l E G fl X I zv2 zv7 zv8 tzv2 ze10) hw 4 tzv2 (by decide) rfl wd27 wd385 wd233 wd234 wd202 ⟨rfl, rfl⟩ hy4_soundAt ⟨Nat.le_of_ble_eq_true rfl, Nat.le_of_ble_eq_true rfl⟩ rfl hl.1 (Nat.le_of_ble_eq_true rfl) ⟨Nat.zero_le _, Nat.zero_le _⟩ dX8_played_63) hw (fun H locs hw tzv9 => ?_)
        refine x_astore (lv' := [(5, va_rf zv9), (4, .int zv8), (3, .int zv7), (0, .ref zx0), (1, .int zx1), (2, .int zx2)]) C0 dX8_played_66 hl (by decide) rfl (fun ls hl => ?_)
        refine x_aload C0 dX8_played_68 (lv_at hl 0 rfl) ?_
        refine x_ifnonnull (tgt := 75) C0 dX8_played_70 (by decide) (fun zc11 => ?_) (fun zc11 => ?_)
        · have hf := ite_f hf zc11
          refine lv_iload_n hx hb dX8_played_75 rfl (lv_at hl 5 rfl) ?_
          by_cases zc12 : zx2 = (0 : Int32)
          · have hf := ite_t hf zc12
            refine lv_tableIn (off := 28) (tgt := 104) hx hb dX8_played_76 (by rw [zc12]; decide) (by rw [zc12]; decide) (by rw [zc12]; rfl) (by decide) ?_
            refine lv_iload_n hx hb dX8_played_104 rfl (lv_at hl 2 rfl) ?_
            obtain rfl := Option.some.inj hf
            exact x_iret C0 hr hw dX8_played_105
          · have hf := ite_f hf zc12
            by_cases zc13 : zx2 = (1 : Int32)
            · have hf := ite_t hf zc13
              refine lv_tableIn (off := 30) (tgt := 106) hx hb dX8_played_76 (by rw [zc13]; decide) (by rw [zc13]; decide) (by rw [zc13]; rfl) (by decide) ?_
              refine lv_iload hx hb dX8_played_106 (lv_at hl 1 rfl) ?_
              obtain rfl := Option.some.inj hf
              exact x_iret C0 hr hw dX8_played_108
            · have hf := ite_f hf zc13
              by_cases zc14 : zx2 = (2 : Int32)
              · have hf := ite_t hf zc14
                refine lv_tableIn (off := 33) (tgt := 109) hx hb dX8_played_76 (by rw [zc14]; decide) (by rw [zc14]; decide) (by rw [zc14]; rfl) (by decide) ?_
                refine x_aload C0 dX8_played_109 (lv_at hl 0 rfl) ?_
                obtain ⟨zb15, ezb15, hfzb15⟩ := nn_some hf
                have tzb15 : okA E G 7 zb15 := tzv9 _ ezb15
                subst ezb15
                have hf := hfzb15
                refine xg_7_3 C0 hw tzb15 wd384 dX8_played_111 ?_
                obtain rfl := Option.some.inj hf
                exact x_iret C0 hr hw dX8_played_114
              · have hf := ite_f hf zc14
                have zq0 := tsw_ne _ zc12 (show ((0 : Int32)).toInt = 0 by decide)
                have zq1 := tsw_ne _ zc13 (show ((1 : Int32)).toInt = 1 by decide)
                have zq2 := tsw_ne _ zc14 (show ((2 : Int32)).toInt = 2 by decide)
                refine lv_tableOut (tgt := 115) hx hb dX8_played_76 (by omega) (by decide) ?_
                refine lv_bipush (v := (-2 : Int32)) hx hb dX8_played_115 (by decide) ?_
                obtain rfl := Option.some.inj hf
                exact x_iret C0 hr hw dX8_played_117
        · have hf := ite_t hf zc11
          refine lv_iconst (v := (-1 : Int32)) hx hb dX8_played_73 (by decide) ?_
          obtain rfl := Option.some.inj hf
          exact x_iret C0 hr hw dX8_played_74
      · have hf := ite_f hf zc5
        exact w8_played_27 C0 hr hz fl _ _ _ hw (lv_sub hl [] rfl) hf
noncomputable def m5_tapeLength_28 (fl : Nat) (len : Nat → Nat) (X : Xm) (I : Im) (zs0 : Int32) : Option (Int32) :=
  some (zs0)
set_option maxHeartbeats 4000000 in
set_option maxRecDepth 100000 in
theorem w5_tapeLength_28 {p : Program} {l : Launch} {e : Env} {s : State} {m : MethodId} {args : Array Value} {below : List Frame} {meth : Method} {c : Code} {E : EN} {G : GM} {X : Xm} {I : Im} (C0 : CX p s m args meth c E cX5_tapeLength RX5 2) (hr : meth.sig.returnType = (some .int)) (hz : s.heap.size + 0 ≤ eB E + G.1) {rr : Int32} (fl : Nat) : ∀ (H : Heap) (locs : List Loc) (ls : Array Slot) (zs0 : Int32) , WD E G I X s.heap H locs → lv_has ls 2 [] → m5_tapeLength_28 fl G.2.2 X I zs0 = some rr → W p l e ({ frames := 1, cells := 0, slots := 0, locals := 21 } : Room) s m args below meth c H locs 0 0 (MQ below (QI E G rr I X) args s 0 0 (eA E)) (F0 m 28 ls [.int zs0]) := by
  intro H locs ls zs0 hw hl hf
  unfold m5_tapeLength_28 at hf
  have hx := C0.1; have hb := C0.2.1; have hml := C0.2.2.1; have hown := C0.2.2.2.1; have hts := C0.2.2.2.2.1
  obtain rfl := Option.some.inj hf
  exact x_iret C0 hr hw dX5_tapeLength_28
noncomputable def m5_tapeLength (fl : Nat) (len : Nat → Nat) (X : Xm) (I : Im) (zx0 : Nat) : Option (Int32) :=
  nn (m5_soundNumbered fl len X I zx0 ((gF I 81 zx0) - (1 : Int32))) fun zv1 =>
  if zv1 = none then
    m5_tapeLength_28 fl len X I (0 : Int32)
  else
    nn zv1 fun zb4 =>
    m5_tapeLength_28 fl len X I ((gF I 114 zb4) + (gF I 112 zb4))
theorem hy5_tapeLength : yX5_tapeLength.cls = RX5 ∧ yX5_tapeLength.cls ≠ "java/lang/invoke/MethodHandle" ∧ yX5_tapeLength.cls ≠ "java/lang/invoke/VarHandle" ∧ (parseMethodDescriptor yX5_tapeLength.desc).map (fun d => d.parameters.length) = some 0 := ⟨rfl, by decide +kernel, by decide +kernel, by decide +kernel⟩
set_option maxHeartbeats 4000000 in
set_option maxRecDepth 100000 in
theorem c5_tapeLength (l : Launch) (E : EN) (G : GM) (fl : Nat) (X : Xm) (I : Im) (zx0 : Nat) (zt0 : okA E G 5 zx0) {rr : Int32} (hf : m5_tapeLength fl G.2.2 X I zx0 = some rr) : MT l yX5_tapeLength cX5_tapeLength 2 (some .int) ({ frames := 1, cells := 0, slots := 0, locals := 21 } : Room) E G I X [.ref zx0] (QI E G rr I X) 0 0 := by
  refine Met.ofW (cc := cX5_tapeLength) (maxL := 2) (ret := (some .int)) (by decide +kernel) rfl ?_
  intro p e s m args below meth c s₁ B hml hv
  obtain ⟨rfl, hw0, hSE⟩ := hv
  have C0 : CX p s m ([.ref zx0] : List Value).toArray meth c E cX5_tapeLength RX5 2 := ⟨B.exec, B.bytes, hml, findClass_of_methodNamed B.named, fun w hw => atoms_spec (ws := WS yX5_tapeLength cX5_tapeLength 2 (some .int)) B.pre w (List.mem_cons_of_mem _ hw), B.notSynchronized, hSE⟩
  have hz : s.heap.size + 0 ≤ eB E + G.1 := Nat.le_of_eq hw0.2.1
  have hw : WD E G I X s.heap s.heap [] := ⟨hw0, va_S.rf⟩
  have hr := B.returns
  have hx := C0.1; have hb := C0.2.1; have hml := C0.2.2.1; have hown := C0.2.2.2.1; have hts := C0.2.2.2.2.1
  have hl := lv_entry ([.ref zx0]) (n := 2) (Nat.le_of_ble_eq_true rfl)
  rw [lg_entry_eq]
  generalize (lg_sl ([.ref zx0]) ++ List.replicate (2 - (lg_sl ([.ref zx0])).length) Slot.unset).toArray = ls at hl ⊢
  have hl : lv_has ls 2 [(0, .ref zx0)] := hl
  unfold m5_tapeLength at hf
  refine lv_aload_n hx hb dX5_tapeLength_0 rfl (lv_at hl 0 rfl) ?_
  refine lv_aload_n hx hb dX5_tapeLength_1 rfl (lv_at hl 0 rfl) ?_
  refine xg_5_1 C0 hw zt0 wd177 dX5_tapeLength_2 ?_
  refine lv_iconst (v := (1 : Int32)) hx hb dX5_tapeLength_5 (by decide) ?_
  refine lv_isub hx hb dX5_tapeLength_6 ?_
  obtain ⟨zv1, ze2, hf⟩ := nn_some hf
  refine x_co (r := zv1) (I1 := I) (X1 := X) (x_runV (As := [.int ((gF I 81 zx0) - (1 : Int32))]) (rest := []) C0 (c5_soundNumbered l E G fl X I zx0 ((gF I 81 zx0) - (1 : Int32)) zt0 ze2) hw 5 zt0 (by decide) rfl wd23 wd206 wd207 wd208 wd159 ⟨rfl, rfl⟩ hy5_soundNumbered ⟨Nat.le_of_ble_eq_true rfl, Nat.le_of_ble_eq_true rfl⟩ rfl hl.1 (Nat.le_of_ble_eq_true rfl) ⟨Nat.zero_le _, Nat.zero_le _⟩ dX5_tapeLength_7) hw (fun H locs hw tzv1 => ?_)
  refine x_astore_n (lv' := [(1, va_rf zv1), (0, .ref zx0)]) C0 dX5_tapeLength_10 rfl hl (by decide) rfl (fun ls hl => ?_)
  refine x_aload_n C0 dX5_tapeLength_11 rfl (lv_at hl 0 rfl) ?_
  refine x_ifnonnull (tgt := 19) C0 dX5_tapeLength_12 (by decide) (fun zc3 => ?_) (fun zc3 => ?_)
  · have hf := ite_f hf zc3
    refine x_aload_n C0 dX5_tapeLength_19 rfl (lv_at hl 0 rfl) ?_
    obtain ⟨zb4, ezb4, hfzb4⟩ := nn_some hf
    have tzb4 : okA E G 7 zb4 := tzv1 _ ezb4
    subst ezb4
    have hf := hfzb4
    refine xg_7_2 C0 hw tzb4 wd204 dX5_tapeLength_20 ?_
    refine lv_aload_n hx hb dX5_tapeLength_23 rfl (lv_at hl 0 rfl) ?_
    refine xg_7_0 C0 hw tzb4 wd205 dX5_tapeLength_24 ?_
    refine lv_iadd hx hb dX5_tapeLength_27 ?_
    exact w5_tapeLength_28 C0 hr hz fl _ _ _ ((gF I 114 zb4) + (gF I 112 zb4)) hw (lv_sub hl [] rfl) hf
  · have hf := ite_t hf zc3
    refine lv_iconst (v := (0 : Int32)) hx hb dX5_tapeLength_15 (by decide) ?_
    refine lv_goto (tgt := 28) hx hb dX5_tapeLength_16 (by decide) ?_
    exact w5_tapeLength_28 C0 hr hz fl _ _ _ (0 : Int32) hw (lv_sub hl [] rfl) hf
noncomputable def m8_ofReel (fl : Nat) (len : Nat → Nat) (X : Xm) (I : Im) (zx0 : Nat) (zx1 : Int32) (zx2 : Int32) : Option (Int32) :=
  nn (gR X 128 zx0) fun zv1 =>
  nn (m4_reelAt fl len X I zv1 zx1) fun zv2 =>
  if zv2 = none then
    some ((-1 : Int32))
  else
    if zx2 = (0 : Int32) then
      nn zv2 fun zb6 =>
      some ((gF I 82 zb6))
    else
      if zx2 = (1 : Int32) then
        nn zv2 fun zb8 =>
        some ((gF I 83 zb8))
      else
        if zx2 = (2 : Int32) then
          nn zv2 fun zb10 =>
          some ((gF I 84 zb10))
        else
          if zx2 = (3 : Int32) then
            nn zv2 fun zb12 =>
            some ((gF I 81 zb12))
          else
            if zx2 = (4 : Int32) then
              nn zv2 fun zb14 =>
              nn (m5_tapeLength fl len X I zb14) fun zv15 =>
              some (zv15)
            else
              if zx2 = (5 : Int32) then
                nn (gR X 65 zv1) fun zv18 =>
                nn (m6_nextFor fl len X I zv18 zx1) fun zv19 =>
                some (zv19)
              else
                some ((-2 : Int32))
theorem hy8_ofReel : yX8_ofReel.cls = RX8 ∧ yX8_ofReel.cls ≠ "java/lang/invoke/MethodHandle" ∧ yX8_ofReel.cls ≠ "java/lang/invoke/VarHandle" ∧ (parseMethodDescriptor yX8_ofReel.desc).map (fun d => d.parameters.length) = some 2 := ⟨rfl, by decide +kernel, by decide +kernel, by decide +kernel⟩
set_option maxHeartbeats 4000000 in
set_option maxRecDepth 100000 in
theorem c8_ofReel (l : Launch) (E : EN) (G : GM) (fl : Nat) (X : Xm) (I : Im) (zx0 : Nat) (zx1 : Int32) (zx2 : Int32) (zt0 : okA E G 8 zx0) {rr : Int32} (hf : m8_ofReel fl G.2.2 X I zx0 zx1 zx2 = some rr) : MT l yX8_ofReel cX8_ofReel 4 (some .int) ({ frames := 2, cells := 0, slots := 0, locals := 43 } : Room) E G I X [.ref zx0, .int zx1, .int zx2] (QI E G rr I X) 0 0 := by
  refine Met.ofW (cc := cX8_ofReel) (maxL := 4) (ret := (some .int)) (by decide +kernel) rfl ?_
  intro p e s m args below meth c s₁ B hml hv
  obtain ⟨rfl, hw0, hSE⟩ := hv
  have C0 : CX p s m ([.ref zx0, .int zx1, .int zx2] : List Value).toArray meth c E cX8_ofReel RX8 4 := ⟨B.exec, B.bytes, hml, findClass_of_methodNamed B.named, fun w hw => atoms_spec (ws := WS yX8_ofReel cX8_ofReel 4 (some .int)) B.pre w (List.mem_cons_of_mem _ hw), B.notSynchronized, hSE⟩
  have hz : s.heap.size + 0 ≤ eB E + G.1 := Nat.le_of_eq hw0.2.1
  have hw : WD E G I X s.heap s.heap [] := ⟨hw0, va_S.rf⟩
  have hr := B.returns
  have hx := C0.1; have hb := C0.2.1; have hml := C0.2.2.1; have hown := C0.2.2.2.1; have hts := C0.2.2.2.2.1
  have hl := lv_entry ([.ref zx0, .int zx1, .int zx2]) (n := 4) (Nat.le_of_ble_eq_true rfl)
  rw [lg_entry_eq]
  generalize (lg_sl ([.ref zx0, .int zx1, .int zx2]) ++ List.replicate (4 - (lg_sl ([.ref zx0, .int zx1, .int zx2])).length) Slot.unset).toArray = ls at hl ⊢
  have hl : lv_has ls 4 [(0, .ref zx0), (1, .int zx1), (2, .int zx2)] := hl
  unfold m8_ofReel at hf
  refine lv_aload_n hx hb dX8_ofReel_0 rfl (lv_at hl 0 rfl) ?_
  obtain ⟨zv1, ezv1, hf⟩ := nn_some hf
  have tzv1 : okA E G 4 zv1 := wt_r hw ezv1
  refine xg_8_0 C0 hw zt0 wd319 ezv1 dX8_ofReel_1 ?_
  refine lv_iload_n hx hb dX8_ofReel_4 rfl (lv_at hl 1 rfl) ?_
  obtain ⟨zv2, ze3, hf⟩ := nn_some hf
  refine x_co (r := zv2) (I1 := I) (X1 := X) (x_runV (As := [.int zx1]) (rest := []) C0 (c4_reelAt l E G fl X I zv1 zx1 tzv1 ze3) hw 4 tzv1 (by decide) rfl wd22 wd378 wd215 wd216 wd202 ⟨rfl, rfl⟩ hy4_reelAt ⟨Nat.le_of_ble_eq_true rfl, Nat.le_of_ble_eq_true rfl⟩ rfl hl.1 (Nat.le_of_ble_eq_true rfl) ⟨Nat.zero_le _, Nat.zero_le _⟩ dX8_ofReel_5) hw (fun H locs hw tzv2 => ?_)
  refine x_astore_n (lv' := [(3, va_rf zv2), (0, .ref zx0), (1, .int zx1), (2, .int zx2)]) C0 dX8_ofReel_8 rfl hl (by decide) rfl (fun ls hl => ?_)
  refine x_aload_n C0 dX8_ofReel_9 rfl (lv_at hl 0 rfl) ?_
  refine x_ifnonnull (tgt := 15) C0 dX8_ofReel_10 (by decide) (fun zc4 => ?_) (fun zc4 => ?_)
  · have hf := ite_f hf zc4
    refine lv_iload_n hx hb dX8_ofReel_15 rfl (lv_at hl 3 rfl) ?_
    by_cases zc5 : zx2 = (0 : Int32)
    · have hf := ite_t hf zc5
      refine lv_tableIn (off := 40) (tgt := 56) hx hb dX8_ofReel_16 (by rw [zc5]; decide) (by rw [zc5]; decide) (by rw [zc5]; rfl) (by decide) ?_
      refine x_aload_n C0 dX8_ofReel_56 rfl (lv_at hl 0 rfl) ?_
      obtain ⟨zb6, ezb6, hfzb6⟩ := nn_some hf
      have tzb6 : okA E G 5 zb6 := tzv2 _ ezb6
      subst ezb6
      have hf := hfzb6
      refine xg_5_2 C0 hw tzb6 wd374 dX8_ofReel_57 ?_
      obtain rfl := Option.some.inj hf
      exact x_iret C0 hr hw dX8_ofReel_60
    · have hf := ite_f hf zc5
      by_cases zc7 : zx2 = (1 : Int32)
      · have hf := ite_t hf zc7
        refine lv_tableIn (off := 45) (tgt := 61) hx hb dX8_ofReel_16 (by rw [zc7]; decide) (by rw [zc7]; decide) (by rw [zc7]; rfl) (by decide) ?_
        refine x_aload_n C0 dX8_ofReel_61 rfl (lv_at hl 0 rfl) ?_
        obtain ⟨zb8, ezb8, hfzb8⟩ := nn_some hf
        have tzb8 : okA E G 5 zb8 := tzv2 _ ezb8
        subst ezb8
        have hf := hfzb8
        refine xg_5_3 C0 hw tzb8 wd375 dX8_ofReel_62 ?_
        obtain rfl := Option.some.inj hf
        exact x_iret C0 hr hw dX8_ofReel_65
      · have hf := ite_f hf zc7
        by_cases zc9 : zx2 = (2 : Int32)
        · have hf := ite_t hf zc9
          refine lv_tableIn (off := 50) (tgt := 66) hx hb dX8_ofReel_16 (by rw [zc9]; decide) (by rw [zc9]; decide) (by rw [zc9]; rfl) (by decide) ?_
          refine x_aload_n C0 dX8_ofReel_66 rfl (lv_at hl 0 rfl) ?_
          obtain ⟨zb10, ezb10, hfzb10⟩ := nn_some hf
          have tzb10 : okA E G 5 zb10 := tzv2 _ ezb10
          subst ezb10
          have hf := hfzb10
          refine xg_5_4 C0 hw tzb10 wd376 dX8_ofReel_67 ?_
          obtain rfl := Option.some.inj hf
          exact x_iret C0 hr hw dX8_ofReel_70
        · have hf := ite_f hf zc9
          by_cases zc11 : zx2 = (3 : Int32)
          · have hf := ite_t hf zc11
            refine lv_tableIn (off := 55) (tgt := 71) hx hb dX8_ofReel_16 (by rw [zc11]; decide) (by rw [zc11]; decide) (by rw [zc11]; rfl) (by decide) ?_
            refine x_aload_n C0 dX8_ofReel_71 rfl (lv_at hl 0 rfl) ?_
            obtain ⟨zb12, ezb12, hfzb12⟩ := nn_some hf
            have tzb12 : okA E G 5 zb12 := tzv2 _ ezb12
            subst ezb12
            have hf := hfzb12
            refine xg_5_1 C0 hw tzb12 wd377 dX8_ofReel_72 ?_
            obtain rfl := Option.some.inj hf
            exact x_iret C0 hr hw dX8_ofReel_75
          · have hf := ite_f hf zc11
            by_cases zc13 : zx2 = (4 : Int32)
            · have hf := ite_t hf zc13
              refine lv_tableIn (off := 60) (tgt := 76) hx hb dX8_ofReel_16 (by rw [zc13]; decide) (by rw [zc13]; decide) (by rw [zc13]; rfl) (by decide) ?_
              refine x_aload_n C0 dX8_ofReel_76 rfl (lv_at hl 0 rfl) ?_
              obtain ⟨zb14, ezb14, hfzb14⟩ := nn_some hf
              have tzb14 : okA E G 5 zb14 := tzv2 _ ezb14
              subst ezb14
              have hf := hfzb14
              obtain ⟨zv15, ze16, hf⟩ := nn_some hf
              refine x_ci (r := zv15) (I1 := I) (X1 := X) (x_runV (As := []) (rest := []) C0 (c5_tapeLength l E G fl X I zb14 tzb14 ze16) hw 5 tzb14 (by decide) rfl wd24 wd379 wd212 wd213 wd159 ⟨rfl, rfl⟩ hy5_tapeLength ⟨Nat.le_of_ble_eq_true rfl, Nat.le_of_ble_eq_true rfl⟩ rfl hl.1 (Nat.le_of_ble_eq_true rfl) ⟨Nat.zero_le _, Nat.zero_le _⟩ dX8_ofReel_77) hw (fun H locs hw => ?_)
              obtain rfl := Option.some.inj hf
              exact x_iret C0 hr hw dX8_ofReel_80
            · have hf := ite_f hf zc13
              by_cases zc17 : zx2 = (5 : Int32)
              · have hf := ite_t hf zc17
                refine lv_tableIn (off := 65) (tgt := 81) hx hb dX8_ofReel_16 (by rw [zc17]; decide) (by rw [zc17]; decide) (by rw [zc17]; rfl) (by decide) ?_
                refine lv_aload_n hx hb dX8_ofReel_81 rfl (lv_at hl 1 rfl) ?_
                refine xg_8_0 C0 hw zt0 wd319 ezv1 dX8_ofReel_82 ?_
                obtain ⟨zv18, ezv18, hf⟩ := nn_some hf
                have tzv18 : okA E G 6 zv18 := wt_r hw ezv18
                refine xg_4_1 C0 hw tzv1 wd354 ezv18 dX8_ofReel_85 ?_
                refine lv_iload_n hx hb dX8_ofReel_88 rfl (lv_at hl 2 rfl) ?_
                obtain ⟨zv19, ze20, hf⟩ := nn_some hf
                refine x_ci (r := zv19) (I1 := I) (X1 := X) (x_runV (As := [.int zx1]) (rest := []) C0 (c6_nextFor l E G fl X I zv18 zx1 tzv18 ze20) hw 6 tzv18 (by decide) rfl wd47 wd380 wd286 wd287 wd146 ⟨rfl, rfl⟩ hy6_nextFor ⟨Nat.le_of_ble_eq_true rfl, Nat.le_of_ble_eq_true rfl⟩ rfl hl.1 (Nat.le_of_ble_eq_true rfl) ⟨Nat.zero_le _, Nat.zero_le _⟩ dX8_ofReel_89) hw (fun H locs hw => ?_)
                obtain rfl := Option.some.inj hf
                exact x_iret C0 hr hw dX8_ofReel_92
              · have hf := ite_f hf zc17
                have zq0 := tsw_ne _ zc5 (show ((0 : Int32)).toInt = 0 by decide)
                have zq1 := tsw_ne _ zc7 (show ((1 : Int32)).toInt = 1 by decide)
                have zq2 := tsw_ne _ zc9 (show ((2 : Int32)).toInt = 2 by decide)
                have zq3 := tsw_ne _ zc11 (show ((3 : Int32)).toInt = 3 by decide)
                have zq4 := tsw_ne _ zc13 (show ((4 : Int32)).toInt = 4 by decide)
                have zq5 := tsw_ne _ zc17 (show ((5 : Int32)).toInt = 5 by decide)
                refine lv_tableOut (tgt := 93) hx hb dX8_ofReel_16 (by omega) (by decide) ?_
                refine lv_bipush (v := (-2 : Int32)) hx hb dX8_ofReel_93 (by decide) ?_
                obtain rfl := Option.some.inj hf
                exact x_iret C0 hr hw dX8_ofReel_95
  · have hf := ite_t hf zc4
    refine lv_iconst (v := (-1 : Int32)) hx hb dX8_ofReel_13 (by decide) ?_
    obtain rfl := Option.some.inj hf
    exact x_iret C0 hr hw dX8_ofReel_14
noncomputable def m2_countOn_37 (fl : Nat) (len : Nat → Nat) (X : Xm) (I : Im) (zx2 : Int32) : Option (Int32) :=
  some (zx2)
set_option maxHeartbeats 4000000 in
set_option maxRecDepth 100000 in
theorem w2_countOn_37 {p : Program} {l : Launch} {e : Env} {s : State} {m : MethodId} {args : Array Value} {below : List Frame} {meth : Method} {c : Code} {E : EN} {G : GM} {X : Xm} {I : Im} (C0 : CX p s m args meth c E cX2_countOn RX2 4) (hr : meth.sig.returnType = (some .int)) (hz : s.heap.size + 0 ≤ eB E + G.1) {rr : Int32} (fl : Nat) : ∀ (H : Heap) (locs : List Loc) (ls : Array Slot) (zx2 : Int32) , WD E G I X s.heap H locs → lv_has ls 4 [(2, .int zx2)] → m2_countOn_37 fl G.2.2 X I zx2 = some rr → W p l e ({ frames := 0, cells := 0, slots := 0, locals := 0 } : Room) s m args below meth c H locs 0 0 (MQ below (QI E G rr I X) args s 0 0 (eA E)) (F0 m 37 ls []) := by
  intro H locs ls zx2 hw hl hf
  unfold m2_countOn_37 at hf
  have hx := C0.1; have hb := C0.2.1; have hml := C0.2.2.1; have hown := C0.2.2.2.1; have hts := C0.2.2.2.2.1
  refine lv_iload_n hx hb dX2_countOn_37 rfl (lv_at hl 0 rfl) ?_
  obtain rfl := Option.some.inj hf
  exact x_iret C0 hr hw dX2_countOn_38
noncomputable def m2_countOn_31 (fl : Nat) (len : Nat → Nat) (X : Xm) (I : Im) (zr4 : Nat → Int32 → Int32 → Int32 → Option (Int32)) (zx0 : Nat) (zx1 : Int32) (zx2 : Int32) (zx3 : Int32) (p_32 : Nat) : Option (Int32) :=
  lt (zx3 + 1) fun zv1 =>
  zr4 zx0 zx1 zx2 zv1
set_option maxHeartbeats 4000000 in
set_option maxRecDepth 100000 in
theorem w2_countOn_31 {p : Program} {l : Launch} {e : Env} {s : State} {m : MethodId} {args : Array Value} {below : List Frame} {meth : Method} {c : Code} {E : EN} {G : GM} {X : Xm} {I : Im} (C0 : CX p s m args meth c E cX2_countOn RX2 4) (hr : meth.sig.returnType = (some .int)) (hz : s.heap.size + 0 ≤ eB E + G.1) {rr : Int32} (fl : Nat) (zr4 : Nat → Int32 → Int32 → Int32 → Option (Int32)) (zhr4 : ∀ (H : Heap) (locs : List Loc) (ls : Array Slot) (zx0 : Nat) (zx1 : Int32) (zx2 : Int32) (zx3 : Int32) (zt0 : okA E G 2 zx0), WD E G I X s.heap H locs → lv_has ls 4 [(0, .ref zx0), (1, .int zx1), (2, .int zx2), (3, .int zx3)] → zr4 zx0 zx1 zx2 zx3 = some rr → W p l e ({ frames := 0, cells := 0, slots := 0, locals := 0 } : Room) s m args below meth c H locs 0 0 (MQ below (QI E G rr I X) args s 0 0 (eA E)) (F0 m 4 ls [])) : ∀ (H : Heap) (locs : List Loc) (ls : Array Slot) (zx0 : Nat) (zx1 : Int32) (zx2 : Int32) (zx3 : Int32) (p_32 : Nat) (zt0 : okA E G 2 zx0) (ep_32 : gR X 32 zx0 = some p_32) (tp_32 : okA E G 11 p_32), WD E G I X s.heap H locs → lv_has ls 4 [(0, .ref zx0), (1, .int zx1), (2, .int zx2), (3, .int zx3)] → m2_countOn_31 fl G.2.2 X I zr4 zx0 zx1 zx2 zx3 p_32 = some rr → W p l e ({ frames := 0, cells := 0, slots := 0, locals := 0 } : Room) s m args below meth c H locs 0 0 (MQ below (QI E G rr I X) args s 0 0 (eA E)) (F0 m 31 ls []) := by
  intro H locs ls zx0 zx1 zx2 zx3 p_32 zt0 ep_32 tp_32 hw hl hf
  unfold m2_countOn_31 at hf
  have hx := C0.1; have hb := C0.2.1; have hml := C0.2.2.1; have hown := C0.2.2.2.1; have hts := C0.2.2.2.2.1
  obtain ⟨zv1, ezv1⟩ : ∃ y : Int32, y = zx3 + 1 := ⟨_, rfl⟩
  have hf := lt_at hf ezv1
  refine lv_iinc (v := zv1) (lv' := [(3, .int zv1), (0, .ref zx0), (1, .int zx1), (2, .int zx2)]) hx hb dX2_countOn_31 hl (k := 3) rfl (by rw [ezv1]; rfl) (by decide) rfl (fun ls hl => ?_)
  refine lv_goto (tgt := 4) hx hb dX2_countOn_34 (by decide) ?_
  exact zhr4 _ _ _ zx0 zx1 zx2 zv1 zt0 hw (lv_sub hl [1, 2, 3, 0] rfl) hf
noncomputable def m2_countOn_4b (fl : Nat) (len : Nat → Nat) (X : Xm) (I : Im) (zr4 : Nat → Int32 → Int32 → Int32 → Option (Int32)) (zx0 : Nat) (zx1 : Int32) (zx2 : Int32) (zx3 : Int32) : Option (Int32) :=
  if (gF I 35 zx0) ≤ zx3 then
    m2_countOn_37 fl len X I zx2
  else
    if (24 : Int32) ≤ zx3 then
      m2_countOn_37 fl len X I zx2
    else
      nn (gR X 32 zx0) fun zv3 =>
      ck (inb zx3 (len zv3) = true) <|
      if (gA I zv3 (zx3).toNatClampNeg) = zx1 then
        lt (zx2 + 1) fun zv6 =>
        m2_countOn_31 fl len X I zr4 zx0 zx1 zv6 zx3 zv3
      else
        m2_countOn_31 fl len X I zr4 zx0 zx1 zx2 zx3 zv3
noncomputable def m2_countOn_4 (fl : Nat) (len : Nat → Nat) (X : Xm) (I : Im) (n : Nat) : Nat → Int32 → Int32 → Int32 → Option (Int32) :=
  Nat.rec (fun _ _ _ _ => none) (fun _ r => m2_countOn_4b fl len X I r) n
set_option maxHeartbeats 4000000 in
set_option maxRecDepth 100000 in
theorem w2_countOn_4b {p : Program} {l : Launch} {e : Env} {s : State} {m : MethodId} {args : Array Value} {below : List Frame} {meth : Method} {c : Code} {E : EN} {G : GM} {X : Xm} {I : Im} (C0 : CX p s m args meth c E cX2_countOn RX2 4) (hr : meth.sig.returnType = (some .int)) (hz : s.heap.size + 0 ≤ eB E + G.1) {rr : Int32} (fl : Nat) (zr4 : Nat → Int32 → Int32 → Int32 → Option (Int32)) (zhr4 : ∀ (H : Heap) (locs : List Loc) (ls : Array Slot) (zx0 : Nat) (zx1 : Int32) (zx2 : Int32) (zx3 : Int32) (zt0 : okA E G 2 zx0), WD E G I X s.heap H locs → lv_has ls 4 [(0, .ref zx0), (1, .int zx1), (2, .int zx2), (3, .int zx3)] → zr4 zx0 zx1 zx2 zx3 = some rr → W p l e ({ frames := 0, cells := 0, slots := 0, locals := 0 } : Room) s m args below meth c H locs 0 0 (MQ below (QI E G rr I X) args s 0 0 (eA E)) (F0 m 4 ls [])) : ∀ (H : Heap) (locs : List Loc) (ls : Array Slot) (zx0 : Nat) (zx1 : Int32) (zx2 : Int32) (zx3 : Int32) (zt0 : okA E G 2 zx0), WD E G I X s.heap H locs → lv_has ls 4 [(0, .ref zx0), (1, .int zx1), (2, .int zx2), (3, .int zx3)] → m2_countOn_4b fl G.2.2 X I zr4 zx0 zx1 zx2 zx3 = some rr → W p l e ({ frames := 0, cells := 0, slots := 0, locals := 0 } : Room) s m args below meth c H locs 0 0 (MQ below (QI E G rr I X) args s 0 0 (eA E)) (F0 m 4 ls []) := by
  intro H locs ls zx0 zx1 zx2 zx3 zt0 hw hl hf
  unfold m2_countOn_4b at hf
  have hx := C0.1; have hb := C0.2.1; have hml := C0.2.2.1; have hown := C0.2.2.2.1; have hts := C0.2.2.2.2.1
  refine lv_iload_n hx hb dX2_countOn_4 rfl (lv_at hl 3 rfl) ?_
  refine lv_aload_n hx hb dX2_countOn_5 rfl (lv_at hl 0 rfl) ?_
  refine xg_2_3 C0 hw zt0 wd119 dX2_countOn_6 ?_
  refine lv_icmp_ge (tgt := 37) hx hb dX2_countOn_9 (by decide) (fun zc1 => ?_) (fun zc1 => ?_)
  · have hf := ite_t hf zc1
    exact w2_countOn_37 C0 hr hz fl _ _ _ zx2 hw (lv_sub hl [2] rfl) hf
  · have hf := ite_f hf zc1
    refine lv_iload_n hx hb dX2_countOn_12 rfl (lv_at hl 3 rfl) ?_
    refine lv_bipush (v := (24 : Int32)) hx hb dX2_countOn_13 (by decide) ?_
    refine lv_icmp_ge (tgt := 37) hx hb dX2_countOn_15 (by decide) (fun zc2 => ?_) (fun zc2 => ?_)
    · have hf := ite_t hf zc2
      exact w2_countOn_37 C0 hr hz fl _ _ _ zx2 hw (lv_sub hl [2] rfl) hf
    · have hf := ite_f hf zc2
      refine lv_aload_n hx hb dX2_countOn_18 rfl (lv_at hl 0 rfl) ?_
      obtain ⟨zv3, ezv3, hf⟩ := nn_some hf
      have tzv3 : okA E G 11 zv3 := wt_r hw ezv3
      refine xg_2_0 C0 hw zt0 wd116 ezv3 dX2_countOn_19 ?_
      refine lv_iload_n hx hb dX2_countOn_22 rfl (lv_at hl 3 rfl) ?_
      obtain ⟨zhb4, hf⟩ := ck_some hf
      refine x_iald C0 hw tzv3 zhb4 dX2_countOn_23 ?_
      refine lv_iload_n hx hb dX2_countOn_24 rfl (lv_at hl 1 rfl) ?_
      refine lv_icmp_ne (tgt := 31) hx hb dX2_countOn_25 (by decide) (fun zc5 => ?_) (fun zc5 => ?_)
      · have hf := ite_f hf zc5
        exact w2_countOn_31 C0 hr hz fl zr4 zhr4 _ _ _ zx0 zx1 zx2 zx3 zv3 zt0 ezv3 tzv3 hw (lv_sub hl [0, 1, 2, 3] rfl) hf
      · have hf := ite_t hf zc5
        obtain ⟨zv6, ezv6⟩ : ∃ y : Int32, y = zx2 + 1 := ⟨_, rfl⟩
        have hf := lt_at hf ezv6
        refine lv_iinc (v := zv6) (lv' := [(2, .int zv6), (0, .ref zx0), (1, .int zx1), (3, .int zx3)]) hx hb dX2_countOn_28 hl (k := 2) rfl (by rw [ezv6]; rfl) (by decide) rfl (fun ls hl => ?_)
        exact w2_countOn_31 C0 hr hz fl zr4 zhr4 _ _ _ zx0 zx1 zv6 zx3 zv3 zt0 ezv3 tzv3 hw (lv_sub hl [1, 2, 0, 3] rfl) hf
theorem w2_countOn_4 {p : Program} {l : Launch} {e : Env} {s : State} {m : MethodId} {args : Array Value} {below : List Frame} {meth : Method} {c : Code} {E : EN} {G : GM} {X : Xm} {I : Im} (C0 : CX p s m args meth c E cX2_countOn RX2 4) (hr : meth.sig.returnType = (some .int)) (hz : s.heap.size + 0 ≤ eB E + G.1) {rr : Int32} (fl : Nat) : ∀ (n : Nat) (H : Heap) (locs : List Loc) (ls : Array Slot) (zx0 : Nat) (zx1 : Int32) (zx2 : Int32) (zx3 : Int32) (zt0 : okA E G 2 zx0), WD E G I X s.heap H locs → lv_has ls 4 [(0, .ref zx0), (1, .int zx1), (2, .int zx2), (3, .int zx3)] → m2_countOn_4 fl G.2.2 X I n zx0 zx1 zx2 zx3 = some rr → W p l e ({ frames := 0, cells := 0, slots := 0, locals := 0 } : Room) s m args below meth c H locs 0 0 (MQ below (QI E G rr I X) args s 0 0 (eA E)) (F0 m 4 ls []) := by
  intro n
  induction n with
  | zero => intro H locs ls zx0 zx1 zx2 zx3 zt0 hw hl hf; exact absurd (show (none : Option (Int32)) = some rr from hf) (by simp)
  | succ n ih => intro H locs ls zx0 zx1 zx2 zx3 zt0 hw hl hf; exact w2_countOn_4b C0 hr hz fl _ ih H locs ls zx0 zx1 zx2 zx3 zt0 hw hl hf
noncomputable def m2_countOn (fl : Nat) (len : Nat → Nat) (X : Xm) (I : Im) (zx0 : Nat) (zx1 : Int32) : Option (Int32) :=
  m2_countOn_4 fl len X I fl zx0 zx1 (0 : Int32) (0 : Int32)
theorem hy2_countOn : yX2_countOn.cls = RX2 ∧ yX2_countOn.cls ≠ "java/lang/invoke/MethodHandle" ∧ yX2_countOn.cls ≠ "java/lang/invoke/VarHandle" ∧ (parseMethodDescriptor yX2_countOn.desc).map (fun d => d.parameters.length) = some 1 := ⟨rfl, by decide +kernel, by decide +kernel, by decide +kernel⟩
set_option maxHeartbeats 4000000 in
set_option maxRecDepth 100000 in
theorem c2_countOn (l : Launch) (E : EN) (G : GM) (fl : Nat) (X : Xm) (I : Im) (zx0 : Nat) (zx1 : Int32) (zt0 : okA E G 2 zx0) {rr : Int32} (hf : m2_countOn fl G.2.2 X I zx0 zx1 = some rr) : MT l yX2_countOn cX2_countOn 4 (some .int) ({ frames := 0, cells := 0, slots := 0, locals := 0 } : Room) E G I X [.ref zx0, .int zx1] (QI E G rr I X) 0 0 := by
  refine Met.ofW (cc := cX2_countOn) (maxL := 4) (ret := (some .int)) (by decide +kernel) rfl ?_
  intro p e s m args below meth c s₁ B hml hv
  obtain ⟨rfl, hw0, hSE⟩ := hv
  have C0 : CX p s m ([.ref zx0, .int zx1] : List Value).toArray meth c E cX2_countOn RX2 4 := ⟨B.exec, B.bytes, hml, findClass_of_methodNamed B.named, fun w hw => atoms_spec (ws := WS yX2_countOn cX2_countOn 4 (some .int)) B.pre w (List.mem_cons_of_mem _ hw), B.notSynchronized, hSE⟩
  have hz : s.heap.size + 0 ≤ eB E + G.1 := Nat.le_of_eq hw0.2.1
  have hw : WD E G I X s.heap s.heap [] := ⟨hw0, va_S.rf⟩
  have hr := B.returns
  have hx := C0.1; have hb := C0.2.1; have hml := C0.2.2.1; have hown := C0.2.2.2.1; have hts := C0.2.2.2.2.1
  have hl := lv_entry ([.ref zx0, .int zx1]) (n := 4) (Nat.le_of_ble_eq_true rfl)
  rw [lg_entry_eq]
  generalize (lg_sl ([.ref zx0, .int zx1]) ++ List.replicate (4 - (lg_sl ([.ref zx0, .int zx1])).length) Slot.unset).toArray = ls at hl ⊢
  have hl : lv_has ls 4 [(0, .ref zx0), (1, .int zx1)] := hl
  unfold m2_countOn at hf
  refine lv_iconst (v := (0 : Int32)) hx hb dX2_countOn_0 (by decide) ?_
  refine lv_istore_n (lv' := [(2, .int (0 : Int32)), (0, .ref zx0), (1, .int zx1)]) hx hb dX2_countOn_1 rfl hl (by decide) rfl (fun ls hl => ?_)
  refine lv_iconst (v := (0 : Int32)) hx hb dX2_countOn_2 (by decide) ?_
  refine lv_istore_n (lv' := [(3, .int (0 : Int32)), (2, .int (0 : Int32)), (0, .ref zx0), (1, .int zx1)]) hx hb dX2_countOn_3 rfl hl (by decide) rfl (fun ls hl => ?_)
  exact w2_countOn_4 C0 hr hz fl fl _ _ _ zx0 zx1 (0 : Int32) (0 : Int32) zt0 hw (lv_sub hl [2, 3, 1, 0] rfl) hf
noncomputable def m8_ofChannel (fl : Nat) (len : Nat → Nat) (X : Xm) (I : Im) (zx0 : Nat) (zx1 : Int32) (zx2 : Int32) : Option (Int32) :=
  nn (gR X 128 zx0) fun zv1 =>
  nn (m4_channelAt fl len X I zv1 zx1) fun zv2 =>
  if zv2 = none then
    some ((-1 : Int32))
  else
    if zx2 = (0 : Int32) then
      nn zv2 fun zb6 =>
      some ((gF I 0 zb6))
    else
      if zx2 = (1 : Int32) then
        nn zv2 fun zb8 =>
        some ((gF I 1 zb8))
      else
        if zx2 = (2 : Int32) then
          nn (gR X 68 zv1) fun zv10 =>
          nn (m2_countOn fl len X I zv10 zx1) fun zv11 =>
          some (zv11)
        else
          some ((-2 : Int32))
theorem hy8_ofChannel : yX8_ofChannel.cls = RX8 ∧ yX8_ofChannel.cls ≠ "java/lang/invoke/MethodHandle" ∧ yX8_ofChannel.cls ≠ "java/lang/invoke/VarHandle" ∧ (parseMethodDescriptor yX8_ofChannel.desc).map (fun d => d.parameters.length) = some 2 := ⟨rfl, by decide +kernel, by decide +kernel, by decide +kernel⟩
set_option maxHeartbeats 4000000 in
set_option maxRecDepth 100000 in
theorem c8_ofChannel (l : Launch) (E : EN) (G : GM) (fl : Nat) (X : Xm) (I : Im) (zx0 : Nat) (zx1 : Int32) (zx2 : Int32) (zt0 : okA E G 8 zx0) {rr : Int32} (hf : m8_ofChannel fl G.2.2 X I zx0 zx1 zx2 = some rr) : MT l yX8_ofChannel cX8_ofChannel 4 (some .int) ({ frames := 1, cells := 0, slots := 0, locals := 23 } : Room) E G I X [.ref zx0, .int zx1, .int zx2] (QI E G rr I X) 0 0 := by
  refine Met.ofW (cc := cX8_ofChannel) (maxL := 4) (ret := (some .int)) (by decide +kernel) rfl ?_
  intro p e s m args below meth c s₁ B hml hv
  obtain ⟨rfl, hw0, hSE⟩ := hv
  have C0 : CX p s m ([.ref zx0, .int zx1, .int zx2] : List Value).toArray meth c E cX8_ofChannel RX8 4 := ⟨B.exec, B.bytes, hml, findClass_of_methodNamed B.named, fun w hw => atoms_spec (ws := WS yX8_ofChannel cX8_ofChannel 4 (some .int)) B.pre w (List.mem_cons_of_mem _ hw), B.notSynchronized, hSE⟩
  have hz : s.heap.size + 0 ≤ eB E + G.1 := Nat.le_of_eq hw0.2.1
  have hw : WD E G I X s.heap s.heap [] := ⟨hw0, va_S.rf⟩
  have hr := B.returns
  have hx := C0.1; have hb := C0.2.1; have hml := C0.2.2.1; have hown := C0.2.2.2.1; have hts := C0.2.2.2.2.1
  have hl := lv_entry ([.ref zx0, .int zx1, .int zx2]) (n := 4) (Nat.le_of_ble_eq_true rfl)
  rw [lg_entry_eq]
  generalize (lg_sl ([.ref zx0, .int zx1, .int zx2]) ++ List.replicate (4 - (lg_sl ([.ref zx0, .int zx1, .int zx2])).length) Slot.unset).toArray = ls at hl ⊢
  have hl : lv_has ls 4 [(0, .ref zx0), (1, .int zx1), (2, .int zx2)] := hl
  unfold m8_ofChannel at hf
  refine lv_aload_n hx hb dX8_ofChannel_0 rfl (lv_at hl 0 rfl) ?_
  obtain ⟨zv1, ezv1, hf⟩ := nn_some hf
  have tzv1 : okA E G 4 zv1 := wt_r hw ezv1
  refine xg_8_0 C0 hw zt0 wd319 ezv1 dX8_ofChannel_1 ?_
  refine lv_iload_n hx hb dX8_ofChannel_4 rfl (lv_at hl 1 rfl) ?_
  obtain ⟨zv2, ze3, hf⟩ := nn_some hf
  refine x_co (r := zv2) (I1 := I) (X1 := X) (x_runV (As := [.int zx1]) (rest := []) C0 (c4_channelAt l E G fl X I zv1 zx1 tzv1 ze3) hw 4 tzv1 (by decide) rfl wd34 wd391 wd247 wd248 wd202 ⟨rfl, rfl⟩ hy4_channelAt ⟨Nat.le_of_ble_eq_true rfl, Nat.le_of_ble_eq_true rfl⟩ rfl hl.1 (Nat.le_of_ble_eq_true rfl) ⟨Nat.zero_le _, Nat.zero_le _⟩ dX8_ofChannel_5) hw (fun H locs hw tzv2 => ?_)
  refine x_astore_n (lv' := [(3, va_rf zv2), (0, .ref zx0), (1, .int zx1), (2, .int zx2)]) C0 dX8_ofChannel_8 rfl hl (by decide) rfl (fun ls hl => ?_)
  refine x_aload_n C0 dX8_ofChannel_9 rfl (lv_at hl 0 rfl) ?_
  refine x_ifnonnull (tgt := 15) C0 dX8_ofChannel_10 (by decide) (fun zc4 => ?_) (fun zc4 => ?_)
  · have hf := ite_f hf zc4
    refine lv_iload_n hx hb dX8_ofChannel_15 rfl (lv_at hl 3 rfl) ?_
    by_cases zc5 : zx2 = (0 : Int32)
    · have hf := ite_t hf zc5
      refine lv_tableIn (off := 28) (tgt := 44) hx hb dX8_ofChannel_16 (by rw [zc5]; decide) (by rw [zc5]; decide) (by rw [zc5]; rfl) (by decide) ?_
      refine x_aload_n C0 dX8_ofChannel_44 rfl (lv_at hl 0 rfl) ?_
      obtain ⟨zb6, ezb6, hfzb6⟩ := nn_some hf
      have tzb6 : okA E G 0 zb6 := tzv2 _ ezb6
      subst ezb6
      have hf := hfzb6
      refine xg_0_0 C0 hw tzb6 wd388 dX8_ofChannel_45 ?_
      obtain rfl := Option.some.inj hf
      exact x_iret C0 hr hw dX8_ofChannel_48
    · have hf := ite_f hf zc5
      by_cases zc7 : zx2 = (1 : Int32)
      · have hf := ite_t hf zc7
        refine lv_tableIn (off := 33) (tgt := 49) hx hb dX8_ofChannel_16 (by rw [zc7]; decide) (by rw [zc7]; decide) (by rw [zc7]; rfl) (by decide) ?_
        refine x_aload_n C0 dX8_ofChannel_49 rfl (lv_at hl 0 rfl) ?_
        obtain ⟨zb8, ezb8, hfzb8⟩ := nn_some hf
        have tzb8 : okA E G 0 zb8 := tzv2 _ ezb8
        subst ezb8
        have hf := hfzb8
        refine xg_0_1 C0 hw tzb8 wd389 dX8_ofChannel_50 ?_
        obtain rfl := Option.some.inj hf
        exact x_iret C0 hr hw dX8_ofChannel_53
      · have hf := ite_f hf zc7
        by_cases zc9 : zx2 = (2 : Int32)
        · have hf := ite_t hf zc9
          refine lv_tableIn (off := 38) (tgt := 54) hx hb dX8_ofChannel_16 (by rw [zc9]; decide) (by rw [zc9]; decide) (by rw [zc9]; rfl) (by decide) ?_
          refine lv_aload_n hx hb dX8_ofChannel_54 rfl (lv_at hl 1 rfl) ?_
          refine xg_8_0 C0 hw zt0 wd319 ezv1 dX8_ofChannel_55 ?_
          obtain ⟨zv10, ezv10, hf⟩ := nn_some hf
          have tzv10 : okA E G 2 zv10 := wt_r hw ezv10
          refine xg_4_4 C0 hw tzv1 wd390 ezv10 dX8_ofChannel_58 ?_
          refine lv_iload_n hx hb dX8_ofChannel_61 rfl (lv_at hl 2 rfl) ?_
          obtain ⟨zv11, ze12, hf⟩ := nn_some hf
          refine x_ci (r := zv11) (I1 := I) (X1 := X) (x_runV (As := [.int zx1]) (rest := []) C0 (c2_countOn l E G fl X I zv10 zx1 tzv10 ze12) hw 2 tzv10 (by decide) rfl wd9 wd392 wd393 wd394 wd154 ⟨rfl, rfl⟩ hy2_countOn ⟨Nat.le_of_ble_eq_true rfl, Nat.le_of_ble_eq_true rfl⟩ rfl hl.1 (Nat.le_of_ble_eq_true rfl) ⟨Nat.zero_le _, Nat.zero_le _⟩ dX8_ofChannel_62) hw (fun H locs hw => ?_)
          obtain rfl := Option.some.inj hf
          exact x_iret C0 hr hw dX8_ofChannel_65
        · have hf := ite_f hf zc9
          have zq0 := tsw_ne _ zc5 (show ((0 : Int32)).toInt = 0 by decide)
          have zq1 := tsw_ne _ zc7 (show ((1 : Int32)).toInt = 1 by decide)
          have zq2 := tsw_ne _ zc9 (show ((2 : Int32)).toInt = 2 by decide)
          refine lv_tableOut (tgt := 66) hx hb dX8_ofChannel_16 (by omega) (by decide) ?_
          refine lv_bipush (v := (-2 : Int32)) hx hb dX8_ofChannel_66 (by decide) ?_
          obtain rfl := Option.some.inj hf
          exact x_iret C0 hr hw dX8_ofChannel_68
  · have hf := ite_t hf zc4
    refine lv_iconst (v := (-1 : Int32)) hx hb dX8_ofChannel_13 (by decide) ?_
    obtain rfl := Option.some.inj hf
    exact x_iret C0 hr hw dX8_ofChannel_14
noncomputable def m8_ofSound (fl : Nat) (len : Nat → Nat) (X : Xm) (I : Im) (zx0 : Nat) (zx1 : Int32) (zx2 : Int32) (zx3 : Int32) : Option (Int32) :=
  nn (gR X 128 zx0) fun zv1 =>
  nn (m4_soundAt fl len X I zv1 zx1 zx2) fun zv2 =>
  if zv2 = none then
    some ((-1 : Int32))
  else
    if zx3 = (0 : Int32) then
      nn zv2 fun zb6 =>
      some ((gF I 112 zb6))
    else
      if zx3 = (1 : Int32) then
        nn zv2 fun zb8 =>
        some ((gF I 113 zb8))
      else
        if zx3 = (2 : Int32) then
          nn zv2 fun zb10 =>
          some ((gF I 114 zb10))
        else
          if zx3 = (3 : Int32) then
            nn zv2 fun zb12 =>
            some ((gF I 115 zb12))
          else
            some ((-2 : Int32))
theorem hy8_ofSound : yX8_ofSound.cls = RX8 ∧ yX8_ofSound.cls ≠ "java/lang/invoke/MethodHandle" ∧ yX8_ofSound.cls ≠ "java/lang/invoke/VarHandle" ∧ (parseMethodDescriptor yX8_ofSound.desc).map (fun d => d.parameters.length) = some 3 := ⟨rfl, by decide +kernel, by decide +kernel, by decide +kernel⟩
set_option maxHeartbeats 4000000 in
set_option maxRecDepth 100000 in
theorem c8_ofSound (l : Launch) (E : EN) (G : GM) (fl : Nat) (X : Xm) (I : Im) (zx0 : Nat) (zx1 : Int32) (zx2 : Int32) (zx3 : Int32) (zt0 : okA E G 8 zx0) {rr : Int32} (hf : m8_ofSound fl G.2.2 X I zx0 zx1 zx2 zx3 = some rr) : MT l yX8_ofSound cX8_ofSound 5 (some .int) ({ frames := 2, cells := 0, slots := 0, locals := 44 } : Room) E G I X [.ref zx0, .int zx1, .int zx2, .int zx3] (QI E G rr I X) 0 0 := by
  refine Met.ofW (cc := cX8_ofSound) (maxL := 5) (ret := (some .int)) (by decide +kernel) rfl ?_
  intro p e s m args below meth c s₁ B hml hv
  obtain ⟨rfl, hw0, hSE⟩ := hv
  have C0 : CX p s m ([.ref zx0, .int zx1, .int zx2, .int zx3] : List Value).toArray meth c E cX8_ofSound RX8 5 := ⟨B.exec, B.bytes, hml, findClass_of_methodNamed B.named, fun w hw => atoms_spec (ws := WS yX8_ofSound cX8_ofSound 5 (some .int)) B.pre w (List.mem_cons_of_mem _ hw), B.notSynchronized, hSE⟩
  have hz : s.heap.size + 0 ≤ eB E + G.1 := Nat.le_of_eq hw0.2.1
  have hw : WD E G I X s.heap s.heap [] := ⟨hw0, va_S.rf⟩
  have hr := B.returns
  have hx := C0.1; have hb := C0.2.1; have hml := C0.2.2.1; have hown := C0.2.2.2.1; have hts := C0.2.2.2.2.1
  have hl := lv_entry ([.ref zx0, .int zx1, .int zx2, .int zx3]) (n := 5) (Nat.le_of_ble_eq_true rfl)
  rw [lg_entry_eq]
  generalize (lg_sl ([.ref zx0, .int zx1, .int zx2, .int zx3]) ++ List.replicate (5 - (lg_sl ([.ref zx0, .int zx1, .int zx2, .int zx3])).length) Slot.unset).toArray = ls at hl ⊢
  have hl : lv_has ls 5 [(0, .ref zx0), (1, .int zx1), (2, .int zx2), (3, .int zx3)] := hl
  unfold m8_ofSound at hf
  refine lv_aload_n hx hb dX8_ofSound_0 rfl (lv_at hl 0 rfl) ?_
  obtain ⟨zv1, ezv1, hf⟩ := nn_some hf
  have tzv1 : okA E G 4 zv1 := wt_r hw ezv1
  refine xg_8_0 C0 hw zt0 wd319 ezv1 dX8_ofSound_1 ?_
  refine lv_iload_n hx hb dX8_ofSound_4 rfl (lv_at hl 1 rfl) ?_
  refine lv_iload_n hx hb dX8_ofSound_5 rfl (lv_at hl 2 rfl) ?_
  obtain ⟨zv2, ze3, hf⟩ := nn_some hf
  refine x_co (r := zv2) (I1 := I) (X1 := X) (x_runV (As := [.int zx1, .int zx2]) (rest := []) C0 (c4_soundAt l E G fl X I zv1 zx1 zx2 tzv1 ze3) hw 4 tzv1 (by decide) rfl wd27 wd385 wd233 wd234 wd202 ⟨rfl, rfl⟩ hy4_soundAt ⟨Nat.le_of_ble_eq_true rfl, Nat.le_of_ble_eq_true rfl⟩ rfl hl.1 (Nat.le_of_ble_eq_true rfl) ⟨Nat.zero_le _, Nat.zero_le _⟩ dX8_ofSound_6) hw (fun H locs hw tzv2 => ?_)
  refine x_astore (lv' := [(4, va_rf zv2), (0, .ref zx0), (1, .int zx1), (2, .int zx2), (3, .int zx3)]) C0 dX8_ofSound_9 hl (by decide) rfl (fun ls hl => ?_)
  refine x_aload C0 dX8_ofSound_11 (lv_at hl 0 rfl) ?_
  refine x_ifnonnull (tgt := 18) C0 dX8_ofSound_13 (by decide) (fun zc4 => ?_) (fun zc4 => ?_)
  · have hf := ite_f hf zc4
    refine lv_iload_n hx hb dX8_ofSound_18 rfl (lv_at hl 4 rfl) ?_
    by_cases zc5 : zx3 = (0 : Int32)
    · have hf := ite_t hf zc5
      refine lv_tableIn (off := 29) (tgt := 48) hx hb dX8_ofSound_19 (by rw [zc5]; decide) (by rw [zc5]; decide) (by rw [zc5]; rfl) (by decide) ?_
      refine x_aload C0 dX8_ofSound_48 (lv_at hl 0 rfl) ?_
      obtain ⟨zb6, ezb6, hfzb6⟩ := nn_some hf
      have tzb6 : okA E G 7 zb6 := tzv2 _ ezb6
      subst ezb6
      have hf := hfzb6
      refine xg_7_0 C0 hw tzb6 wd381 dX8_ofSound_50 ?_
      obtain rfl := Option.some.inj hf
      exact x_iret C0 hr hw dX8_ofSound_53
    · have hf := ite_f hf zc5
      by_cases zc7 : zx3 = (1 : Int32)
      · have hf := ite_t hf zc7
        refine lv_tableIn (off := 35) (tgt := 54) hx hb dX8_ofSound_19 (by rw [zc7]; decide) (by rw [zc7]; decide) (by rw [zc7]; rfl) (by decide) ?_
        refine x_aload C0 dX8_ofSound_54 (lv_at hl 0 rfl) ?_
        obtain ⟨zb8, ezb8, hfzb8⟩ := nn_some hf
        have tzb8 : okA E G 7 zb8 := tzv2 _ ezb8
        subst ezb8
        have hf := hfzb8
        refine xg_7_1 C0 hw tzb8 wd382 dX8_ofSound_56 ?_
        obtain rfl := Option.some.inj hf
        exact x_iret C0 hr hw dX8_ofSound_59
      · have hf := ite_f hf zc7
        by_cases zc9 : zx3 = (2 : Int32)
        · have hf := ite_t hf zc9
          refine lv_tableIn (off := 41) (tgt := 60) hx hb dX8_ofSound_19 (by rw [zc9]; decide) (by rw [zc9]; decide) (by rw [zc9]; rfl) (by decide) ?_
          refine x_aload C0 dX8_ofSound_60 (lv_at hl 0 rfl) ?_
          obtain ⟨zb10, ezb10, hfzb10⟩ := nn_some hf
          have tzb10 : okA E G 7 zb10 := tzv2 _ ezb10
          subst ezb10
          have hf := hfzb10
          refine xg_7_2 C0 hw tzb10 wd383 dX8_ofSound_62 ?_
          obtain rfl := Option.some.inj hf
          exact x_iret C0 hr hw dX8_ofSound_65
        · have hf := ite_f hf zc9
          by_cases zc11 : zx3 = (3 : Int32)
          · have hf := ite_t hf zc11
            refine lv_tableIn (off := 47) (tgt := 66) hx hb dX8_ofSound_19 (by rw [zc11]; decide) (by rw [zc11]; decide) (by rw [zc11]; rfl) (by decide) ?_
            refine x_aload C0 dX8_ofSound_66 (lv_at hl 0 rfl) ?_
            obtain ⟨zb12, ezb12, hfzb12⟩ := nn_some hf
            have tzb12 : okA E G 7 zb12 := tzv2 _ ezb12
            subst ezb12
            have hf := hfzb12
            refine xg_7_3 C0 hw tzb12 wd384 dX8_ofSound_68 ?_
            obtain rfl := Option.some.inj hf
            exact x_iret C0 hr hw dX8_ofSound_71
          · have hf := ite_f hf zc11
            have zq0 := tsw_ne _ zc5 (show ((0 : Int32)).toInt = 0 by decide)
            have zq1 := tsw_ne _ zc7 (show ((1 : Int32)).toInt = 1 by decide)
            have zq2 := tsw_ne _ zc9 (show ((2 : Int32)).toInt = 2 by decide)
            have zq3 := tsw_ne _ zc11 (show ((3 : Int32)).toInt = 3 by decide)
            refine lv_tableOut (tgt := 72) hx hb dX8_ofSound_19 (by omega) (by decide) ?_
            refine lv_bipush (v := (-2 : Int32)) hx hb dX8_ofSound_72 (by decide) ?_
            obtain rfl := Option.some.inj hf
            exact x_iret C0 hr hw dX8_ofSound_74
  · have hf := ite_t hf zc4
    refine lv_iconst (v := (-1 : Int32)) hx hb dX8_ofSound_16 (by decide) ?_
    obtain rfl := Option.some.inj hf
    exact x_iret C0 hr hw dX8_ofSound_17
noncomputable def m8_loud_27 (fl : Nat) (len : Nat → Nat) (X : Xm) (I : Im) : Option (Int32) :=
  some ((-1 : Int32))
set_option maxHeartbeats 4000000 in
set_option maxRecDepth 100000 in
theorem w8_loud_27 {p : Program} {l : Launch} {e : Env} {s : State} {m : MethodId} {args : Array Value} {below : List Frame} {meth : Method} {c : Code} {E : EN} {G : GM} {X : Xm} {I : Im} (C0 : CX p s m args meth c E cX8_loud RX8 2) (hr : meth.sig.returnType = (some .int)) (hz : s.heap.size + 0 ≤ eB E + G.1) {rr : Int32} (fl : Nat) : ∀ (H : Heap) (locs : List Loc) (ls : Array Slot) , WD E G I X s.heap H locs → lv_has ls 2 [] → m8_loud_27 fl G.2.2 X I = some rr → W p l e ({ frames := 0, cells := 0, slots := 0, locals := 0 } : Room) s m args below meth c H locs 0 0 (MQ below (QI E G rr I X) args s 0 0 (eA E)) (F0 m 27 ls []) := by
  intro H locs ls hw hl hf
  unfold m8_loud_27 at hf
  have hx := C0.1; have hb := C0.2.1; have hml := C0.2.2.1; have hown := C0.2.2.2.1; have hts := C0.2.2.2.2.1
  refine lv_iconst (v := (-1 : Int32)) hx hb dX8_loud_27 (by decide) ?_
  obtain rfl := Option.some.inj hf
  exact x_iret C0 hr hw dX8_loud_28
noncomputable def m8_loud (fl : Nat) (len : Nat → Nat) (X : Xm) (I : Im) (zx0 : Nat) (zx1 : Int32) : Option (Int32) :=
  if zx1 < 0 then
    m8_loud_27 fl len X I 
  else
    nn (gR X 128 zx0) fun zv2 =>
    if (gF I 72 zv2) ≤ zx1 then
      m8_loud_27 fl len X I 
    else
      nn (gR X 71 zv2) fun zv4 =>
      if zx1 < (nI (len zv4)) then
        ck (inb zx1 (len zv4) = true) <|
        some ((gA I zv4 (zx1).toNatClampNeg))
      else
        m8_loud_27 fl len X I 
theorem hy8_loud : yX8_loud.cls = RX8 ∧ yX8_loud.cls ≠ "java/lang/invoke/MethodHandle" ∧ yX8_loud.cls ≠ "java/lang/invoke/VarHandle" ∧ (parseMethodDescriptor yX8_loud.desc).map (fun d => d.parameters.length) = some 1 := ⟨rfl, by decide +kernel, by decide +kernel, by decide +kernel⟩
set_option maxHeartbeats 4000000 in
set_option maxRecDepth 100000 in
theorem c8_loud (l : Launch) (E : EN) (G : GM) (fl : Nat) (X : Xm) (I : Im) (zx0 : Nat) (zx1 : Int32) (zt0 : okA E G 8 zx0) {rr : Int32} (hf : m8_loud fl G.2.2 X I zx0 zx1 = some rr) : MT l yX8_loud cX8_loud 2 (some .int) ({ frames := 0, cells := 0, slots := 0, locals := 0 } : Room) E G I X [.ref zx0, .int zx1] (QI E G rr I X) 0 0 := by
  refine Met.ofW (cc := cX8_loud) (maxL := 2) (ret := (some .int)) (by decide +kernel) rfl ?_
  intro p e s m args below meth c s₁ B hml hv
  obtain ⟨rfl, hw0, hSE⟩ := hv
  have C0 : CX p s m ([.ref zx0, .int zx1] : List Value).toArray meth c E cX8_loud RX8 2 := ⟨B.exec, B.bytes, hml, findClass_of_methodNamed B.named, fun w hw => atoms_spec (ws := WS yX8_loud cX8_loud 2 (some .int)) B.pre w (List.mem_cons_of_mem _ hw), B.notSynchronized, hSE⟩
  have hz : s.heap.size + 0 ≤ eB E + G.1 := Nat.le_of_eq hw0.2.1
  have hw : WD E G I X s.heap s.heap [] := ⟨hw0, va_S.rf⟩
  have hr := B.returns
  have hx := C0.1; have hb := C0.2.1; have hml := C0.2.2.1; have hown := C0.2.2.2.1; have hts := C0.2.2.2.2.1
  have hl := lv_entry ([.ref zx0, .int zx1]) (n := 2) (Nat.le_of_ble_eq_true rfl)
  rw [lg_entry_eq]
  generalize (lg_sl ([.ref zx0, .int zx1]) ++ List.replicate (2 - (lg_sl ([.ref zx0, .int zx1])).length) Slot.unset).toArray = ls at hl ⊢
  have hl : lv_has ls 2 [(0, .ref zx0), (1, .int zx1)] := hl
  unfold m8_loud at hf
  refine lv_iload_n hx hb dX8_loud_0 rfl (lv_at hl 1 rfl) ?_
  refine lv_if_lt (tgt := 27) hx hb dX8_loud_1 (by decide) (fun zc1 => ?_) (fun zc1 => ?_)
  · have hf := ite_t hf zc1
    exact w8_loud_27 C0 hr hz fl _ _ _ hw (lv_sub hl [] rfl) hf
  · have hf := ite_f hf zc1
    refine lv_iload_n hx hb dX8_loud_4 rfl (lv_at hl 1 rfl) ?_
    refine lv_aload_n hx hb dX8_loud_5 rfl (lv_at hl 0 rfl) ?_
    obtain ⟨zv2, ezv2, hf⟩ := nn_some hf
    have tzv2 : okA E G 4 zv2 := wt_r hw ezv2
    refine xg_8_0 C0 hw zt0 wd319 ezv2 dX8_loud_6 ?_
    refine xg_4_8 C0 hw tzv2 wd395 dX8_loud_9 ?_
    refine lv_icmp_ge (tgt := 27) hx hb dX8_loud_12 (by decide) (fun zc3 => ?_) (fun zc3 => ?_)
    · have hf := ite_t hf zc3
      exact w8_loud_27 C0 hr hz fl _ _ _ hw (lv_sub hl [] rfl) hf
    · have hf := ite_f hf zc3
      refine lv_iload_n hx hb dX8_loud_15 rfl (lv_at hl 1 rfl) ?_
      refine lv_aload_n hx hb dX8_loud_16 rfl (lv_at hl 0 rfl) ?_
      refine xg_8_0 C0 hw zt0 wd319 ezv2 dX8_loud_17 ?_
      obtain ⟨zv4, ezv4, hf⟩ := nn_some hf
      have tzv4 : okA E G 11 zv4 := wt_r hw ezv4
      refine xg_4_7 C0 hw tzv2 wd396 ezv4 dX8_loud_20 ?_
      refine x_alen C0 hw 11 tzv4 (by decide) rfl dX8_loud_23 ?_
      refine lv_icmp_lt (tgt := 29) hx hb dX8_loud_24 (by decide) (fun zc5 => ?_) (fun zc5 => ?_)
      · have hf := ite_t hf zc5
        refine lv_aload_n hx hb dX8_loud_29 rfl (lv_at hl 0 rfl) ?_
        refine xg_8_0 C0 hw zt0 wd319 ezv2 dX8_loud_30 ?_
        refine xg_4_7 C0 hw tzv2 wd396 ezv4 dX8_loud_33 ?_
        refine lv_iload_n hx hb dX8_loud_36 rfl (lv_at hl 1 rfl) ?_
        obtain ⟨zhb6, hf⟩ := ck_some hf
        refine x_iald C0 hw tzv4 zhb6 dX8_loud_37 ?_
        obtain rfl := Option.some.inj hf
        exact x_iret C0 hr hw dX8_loud_38
      · have hf := ite_f hf zc5
        exact w8_loud_27 C0 hr hz fl _ _ _ hw (lv_sub hl [] rfl) hf
