noncomputable def m4_secondsHeard (fl : Nat) (len : Nat → Nat) (X : Xm) (I : Im) (zx0 : Nat) : Option (Int32) :=
  nn (gR X 71 zx0) fun zv1 =>
  some ((if (0 : Int32) < (if (nI (len zv1)) < (gF I 72 zx0) then (nI (len zv1)) else (gF I 72 zx0)) then (if (nI (len zv1)) < (gF I 72 zx0) then (nI (len zv1)) else (gF I 72 zx0)) else (0 : Int32)))
theorem hy4_secondsHeard : yX4_secondsHeard.cls = RX4 ∧ yX4_secondsHeard.cls ≠ "java/lang/invoke/MethodHandle" ∧ yX4_secondsHeard.cls ≠ "java/lang/invoke/VarHandle" ∧ (parseMethodDescriptor yX4_secondsHeard.desc).map (fun d => d.parameters.length) = some 0 := ⟨rfl, by decide +kernel, by decide +kernel, by decide +kernel⟩
set_option maxHeartbeats 4000000 in
set_option maxRecDepth 100000 in
theorem c4_secondsHeard (l : Launch) (E : EN) (G : GM) (fl : Nat) (X : Xm) (I : Im) (zx0 : Nat) (zt0 : okA E G 4 zx0) {rr : Int32} (hf : m4_secondsHeard fl G.2.2 X I zx0 = some rr) : MT l yX4_secondsHeard cX4_secondsHeard 1 (some .int) ({ frames := 1, cells := 0, slots := 0, locals := 21 } : Room) E G I X [.ref zx0] (QI E G rr I X) 0 0 := by
  refine Met.ofW (cc := cX4_secondsHeard) (maxL := 1) (ret := (some .int)) (by decide +kernel) rfl ?_
  intro p e s m args below meth c s₁ B hml hv
  obtain ⟨rfl, hw0, hSE⟩ := hv
  have C0 : CX p s m ([.ref zx0] : List Value).toArray meth c E cX4_secondsHeard RX4 1 := ⟨B.exec, B.bytes, hml, findClass_of_methodNamed B.named, fun w hw => atoms_spec (ws := WS yX4_secondsHeard cX4_secondsHeard 1 (some .int)) B.pre w (List.mem_cons_of_mem _ hw), B.notSynchronized, hSE⟩
  have hz : s.heap.size + 0 ≤ eB E + G.1 := Nat.le_of_eq hw0.2.1
  have hw : WD E G I X s.heap s.heap [] := ⟨hw0, va_S.rf⟩
  have hr := B.returns
  have hx := C0.1; have hb := C0.2.1; have hml := C0.2.2.1; have hown := C0.2.2.2.1; have hts := C0.2.2.2.2.1
  have hl := lv_entry ([.ref zx0]) (n := 1) (Nat.le_of_ble_eq_true rfl)
  rw [lg_entry_eq]
  generalize (lg_sl ([.ref zx0]) ++ List.replicate (1 - (lg_sl ([.ref zx0])).length) Slot.unset).toArray = ls at hl ⊢
  have hl : lv_has ls 1 [(0, .ref zx0)] := hl
  unfold m4_secondsHeard at hf
  refine lv_iconst (v := (0 : Int32)) hx hb dX4_secondsHeard_0 (by decide) ?_
  refine lv_aload_n hx hb dX4_secondsHeard_1 rfl (lv_at hl 0 rfl) ?_
  refine xg_4_8 C0 hw zt0 wd183 dX4_secondsHeard_2 ?_
  refine lv_aload_n hx hb dX4_secondsHeard_5 rfl (lv_at hl 0 rfl) ?_
  obtain ⟨zv1, ezv1, hf⟩ := nn_some hf
  have tzv1 : okA E G 11 zv1 := wt_r hw ezv1
  refine xg_4_7 C0 hw zt0 wd157 ezv1 dX4_secondsHeard_6 ?_
  refine x_alen C0 hw 11 tzv1 (by decide) rfl dX4_secondsHeard_9 ?_
  refine va_mmin hx hb (hml.trans hl.1.symm) hown (hts _ wd184) (hts _ wd100) (hts _ wd101) (hts _ wd102) (Nat.le_of_ble_eq_true rfl) (Nat.le_of_ble_eq_true rfl) (Nat.zero_le _) (Nat.zero_le _) dX4_secondsHeard_10 ?_
  refine va_mmax hx hb (hml.trans hl.1.symm) hown (hts _ wd185) (hts _ wd104) (hts _ wd101) (hts _ wd105) (Nat.le_of_ble_eq_true rfl) (Nat.le_of_ble_eq_true rfl) (Nat.zero_le _) (Nat.zero_le _) dX4_secondsHeard_13 ?_
  obtain rfl := Option.some.inj hf
  exact x_iret C0 hr hw dX4_secondsHeard_16
noncomputable def m4_copyFrom_63b (fl : Nat) (len : Nat → Nat) (X : Xm) (zr63 : Im → Nat → Nat → Int32 → Nat → Nat → Nat → Option (Im)) (I : Im) (zx0 : Nat) (zx1 : Nat) (zx2 : Int32) (p_64 : Nat) (p_65 : Nat) (p_66 : Nat) : Option (Im) :=
  nn (gR X 67 zx0) fun zv1 =>
  if (nI (len zv1)) ≤ zx2 then
    nn (gR X 68 zx0) fun zv3 =>
    nn (gR X 68 zx1) fun zv4 =>
    nn (m2_copyFrom fl len X I zv3 zv4) fun zI5 =>
    nn (gR X 69 zx1) fun zv7 =>
    nn (gR X 69 zx0) fun zv8 =>
    ck (cpok (0 : Int32) (0 : Int32) (nI (len zv8)) (len zv7) (len zv8) = true) <|
    lt (pAr zI5 zv8 (va_cpy (gA zI5 zv7) (gA zI5 zv8) ((0 : Int32)).toNatClampNeg ((0 : Int32)).toNatClampNeg ((nI (len zv8))).toNatClampNeg)) fun zI10 =>
    lt (pF zI10 70 zx0 (gF zI10 70 zx1)) fun zI11 =>
    nn (gR X 71 zx1) fun zv12 =>
    nn (gR X 71 zx0) fun zv13 =>
    nn (m4_secondsHeard fl len X zI11 zx1) fun zv14 =>
    ck (cpok (0 : Int32) (0 : Int32) zv14 (len zv12) (len zv13) = true) <|
    lt (pAr zI11 zv13 (va_cpy (gA zI11 zv12) (gA zI11 zv13) ((0 : Int32)).toNatClampNeg ((0 : Int32)).toNatClampNeg (zv14).toNatClampNeg)) fun zI17 =>
    lt (pF zI17 72 zx0 (gF zI17 72 zx1)) fun zI18 =>
    some (zI18)
  else
    ck (inb zx2 (len zv1) = true) <|
    nn (gQ X zv1 (zx2).toNatClampNeg) fun zv20 =>
    nn (gR X 67 zx1) fun zv21 =>
    ck (inb zx2 (len zv21) = true) <|
    nn (gQ X zv21 (zx2).toNatClampNeg) fun zv23 =>
    lt (pF I 0 zv20 (gF I 0 zv23)) fun zI24 =>
    nn (gQ X zv1 (zx2).toNatClampNeg) fun zv25 =>
    nn (gR X 67 zx1) fun zv26 =>
    ck (inb zx2 (len zv26) = true) <|
    nn (gQ X zv26 (zx2).toNatClampNeg) fun zv28 =>
    lt (pF zI24 1 zv25 (gF zI24 1 zv28)) fun zI29 =>
    lt (zx2 + 1) fun zv30 =>
    zr63 zI29 zx0 zx1 zv30 p_64 p_65 p_66
noncomputable def m4_copyFrom_63 (fl : Nat) (len : Nat → Nat) (X : Xm) (n : Nat) : Im → Nat → Nat → Int32 → Nat → Nat → Nat → Option (Im) :=
  Nat.rec (fun _ _ _ _ _ _ _ => none) (fun _ r => m4_copyFrom_63b fl len X r) n
set_option maxHeartbeats 4000000 in
set_option maxRecDepth 100000 in
theorem w4_copyFrom_63b {p : Program} {l : Launch} {e : Env} {s : State} {m : MethodId} {args : Array Value} {below : List Frame} {meth : Method} {c : Code} {E : EN} {G : GM} {X : Xm} (C0 : CX p s m args meth c E cX4_copyFrom RX4 3) (hr : meth.sig.returnType = none) (hz : s.heap.size + 0 ≤ eB E + G.1) {rr : Im} (fl : Nat) (zr63 : Im → Nat → Nat → Int32 → Nat → Nat → Nat → Option (Im)) (zhr63 : ∀ (I : Im) (H : Heap) (locs : List Loc) (ls : Array Slot) (zx0 : Nat) (zx1 : Nat) (zx2 : Int32) (p_64 : Nat) (p_65 : Nat) (p_66 : Nat) (zt0 : okA E G 4 zx0) (zt1 : okA E G 4 zx1) (ep_64 : gR X 64 zx0 = some p_64) (tp_64 : okA E G 11 p_64) (ep_65 : gR X 65 zx0 = some p_65) (tp_65 : okA E G 6 p_65) (ep_66 : gR X 66 zx0 = some p_66) (tp_66 : okA E G 16 p_66), WD E G I X s.heap H locs → lv_has ls 3 [(0, .ref zx0), (1, .ref zx1), (2, .int zx2)] → zr63 I zx0 zx1 zx2 p_64 p_65 p_66 = some rr → W p l e ({ frames := 2, cells := 0, slots := 0, locals := 48 } : Room) s m args below meth c H locs 0 0 (MQ below (QV E G rr X) args s 0 0 (eA E)) (F0 m 63 ls [])) : ∀ (I : Im) (H : Heap) (locs : List Loc) (ls : Array Slot) (zx0 : Nat) (zx1 : Nat) (zx2 : Int32) (p_64 : Nat) (p_65 : Nat) (p_66 : Nat) (zt0 : okA E G 4 zx0) (zt1 : okA E G 4 zx1) (ep_64 : gR X 64 zx0 = some p_64) (tp_64 : okA E G 11 p_64) (ep_65 : gR X 65 zx0 = some p_65) (tp_65 : okA E G 6 p_65) (ep_66 : gR X 66 zx0 = some p_66) (tp_66 : okA E G 16 p_66), WD E G I X s.heap H locs → lv_has ls 3 [(0, .ref zx0), (1, .ref zx1), (2, .int zx2)] → m4_copyFrom_63b fl G.2.2 X zr63 I zx0 zx1 zx2 p_64 p_65 p_66 = some rr → W p l e ({ frames := 2, cells := 0, slots := 0, locals := 48 } : Room) s m args below meth c H locs 0 0 (MQ below (QV E G rr X) args s 0 0 (eA E)) (F0 m 63 ls []) := by
  intro I H locs ls zx0 zx1 zx2 p_64 p_65 p_66 zt0 zt1 ep_64 tp_64 ep_65 tp_65 ep_66 tp_66 hw hl hf
  unfold m4_copyFrom_63b at hf
  have hx := C0.1; have hb := C0.2.1; have hml := C0.2.2.1; have hown := C0.2.2.2.1; have hts := C0.2.2.2.2.1
  refine lv_iload_n hx hb dX4_copyFrom_63 rfl (lv_at hl 2 rfl) ?_
  refine lv_aload_n hx hb dX4_copyFrom_64 rfl (lv_at hl 0 rfl) ?_
  obtain ⟨zv1, ezv1, hf⟩ := nn_some hf
  have tzv1 : okA E G 13 zv1 := wt_r hw ezv1
  refine xg_4_3 C0 hw zt0 wd151 ezv1 dX4_copyFrom_65 ?_
  refine x_alen C0 hw 13 tzv1 (by decide) rfl dX4_copyFrom_68 ?_
  refine lv_icmp_ge (tgt := 114) hx hb dX4_copyFrom_69 (by decide) (fun zc2 => ?_) (fun zc2 => ?_)
  · have hf := ite_t hf zc2
    refine lv_aload_n hx hb dX4_copyFrom_114 rfl (lv_at hl 0 rfl) ?_
    obtain ⟨zv3, ezv3, hf⟩ := nn_some hf
    have tzv3 : okA E G 2 zv3 := wt_r hw ezv3
    refine xg_4_4 C0 hw zt0 wd155 ezv3 dX4_copyFrom_115 ?_
    refine lv_aload_n hx hb dX4_copyFrom_118 rfl (lv_at hl 1 rfl) ?_
    obtain ⟨zv4, ezv4, hf⟩ := nn_some hf
    have tzv4 : okA E G 2 zv4 := wt_r hw ezv4
    refine xg_4_4 C0 hw zt1 wd155 ezv4 dX4_copyFrom_119 ?_
    obtain ⟨zI5, ze6, hf⟩ := nn_some hf
    refine x_cv (I1 := zI5) (X1 := X) (x_runV (As := [.ref zv4]) (rest := []) C0 (c2_copyFrom l E G fl X I zv3 zv4 tzv3 tzv4 ze6) hw 2 tzv3 (by decide) rfl wd6 wd196 wd197 wd198 wd154 ⟨rfl, rfl⟩ hy2_copyFrom ⟨Nat.le_of_ble_eq_true rfl, Nat.le_of_ble_eq_true rfl⟩ rfl hl.1 (Nat.le_of_ble_eq_true rfl) ⟨Nat.zero_le _, Nat.zero_le _⟩ dX4_copyFrom_122) hw (fun H locs hw => ?_)
    refine lv_aload_n hx hb dX4_copyFrom_125 rfl (lv_at hl 1 rfl) ?_
    obtain ⟨zv7, ezv7, hf⟩ := nn_some hf
    have tzv7 : okA E G 11 zv7 := wt_r hw ezv7
    refine xg_4_5 C0 hw zt1 wd156 ezv7 dX4_copyFrom_126 ?_
    refine lv_iconst (v := (0 : Int32)) hx hb dX4_copyFrom_129 (by decide) ?_
    refine lv_aload_n hx hb dX4_copyFrom_130 rfl (lv_at hl 0 rfl) ?_
    obtain ⟨zv8, ezv8, hf⟩ := nn_some hf
    have tzv8 : okA E G 11 zv8 := wt_r hw ezv8
    refine xg_4_5 C0 hw zt0 wd156 ezv8 dX4_copyFrom_131 ?_
    refine lv_iconst (v := (0 : Int32)) hx hb dX4_copyFrom_134 (by decide) ?_
    refine lv_aload_n hx hb dX4_copyFrom_135 rfl (lv_at hl 0 rfl) ?_
    refine xg_4_5 C0 hw zt0 wd156 ezv8 dX4_copyFrom_136 ?_
    refine x_alen C0 hw 11 tzv8 (by decide) rfl dX4_copyFrom_139 ?_
    obtain ⟨zhc9, hf⟩ := ck_some hf
    obtain ⟨zI10, ezI10⟩ : ∃ y : Im, y = pAr zI5 zv8 (va_cpy (gA zI5 zv7) (gA zI5 zv8) ((0 : Int32)).toNatClampNeg ((0 : Int32)).toNatClampNeg ((nI (G.2.2 zv8))).toNatClampNeg) := ⟨_, rfl⟩
    have hf := lt_at hf ezI10
    refine x_copy C0 hz hw tzv7 tzv8 zhc9 (hml.trans hl.1.symm) wd186 (Nat.le_of_ble_eq_true rfl) (Nat.le_of_ble_eq_true rfl) dX4_copyFrom_140 ezI10 (fun H locs hw => ?_)
    refine lv_aload_n hx hb dX4_copyFrom_143 rfl (lv_at hl 0 rfl) ?_
    refine lv_aload_n hx hb dX4_copyFrom_144 rfl (lv_at hl 1 rfl) ?_
    refine xg_4_6 C0 hw zt1 wd189 dX4_copyFrom_145 ?_
    obtain ⟨zI11, ezI11⟩ : ∃ y : Im, y = pF zI10 70 zx0 (gF zI10 70 zx1) := ⟨_, rfl⟩
    have hf := lt_at hf ezI11
    refine xp_4_6 C0 hz hw zt0 rfl rfl wd189 dX4_copyFrom_148 ezI11 (fun H locs hw => ?_)
    refine lv_aload_n hx hb dX4_copyFrom_151 rfl (lv_at hl 1 rfl) ?_
    obtain ⟨zv12, ezv12, hf⟩ := nn_some hf
    have tzv12 : okA E G 11 zv12 := wt_r hw ezv12
    refine xg_4_7 C0 hw zt1 wd157 ezv12 dX4_copyFrom_152 ?_
    refine lv_iconst (v := (0 : Int32)) hx hb dX4_copyFrom_155 (by decide) ?_
    refine lv_aload_n hx hb dX4_copyFrom_156 rfl (lv_at hl 0 rfl) ?_
    obtain ⟨zv13, ezv13, hf⟩ := nn_some hf
    have tzv13 : okA E G 11 zv13 := wt_r hw ezv13
    refine xg_4_7 C0 hw zt0 wd157 ezv13 dX4_copyFrom_157 ?_
    refine lv_iconst (v := (0 : Int32)) hx hb dX4_copyFrom_160 (by decide) ?_
    refine lv_aload_n hx hb dX4_copyFrom_161 rfl (lv_at hl 1 rfl) ?_
    obtain ⟨zv14, ze15, hf⟩ := nn_some hf
    refine x_ci (r := zv14) (I1 := zI11) (X1 := X) (x_runV (As := []) (rest := [.int (0 : Int32), .ref zv13, .int (0 : Int32), .ref zv12]) C0 (c4_secondsHeard l E G fl X zI11 zx1 zt1 ze15) hw 4 zt1 (by decide) rfl wd18 wd199 wd200 wd201 wd202 ⟨rfl, rfl⟩ hy4_secondsHeard ⟨Nat.le_of_ble_eq_true rfl, Nat.le_of_ble_eq_true rfl⟩ rfl hl.1 (Nat.le_of_ble_eq_true rfl) ⟨Nat.zero_le _, Nat.zero_le _⟩ dX4_copyFrom_162) hw (fun H locs hw => ?_)
    obtain ⟨zhc16, hf⟩ := ck_some hf
    obtain ⟨zI17, ezI17⟩ : ∃ y : Im, y = pAr zI11 zv13 (va_cpy (gA zI11 zv12) (gA zI11 zv13) ((0 : Int32)).toNatClampNeg ((0 : Int32)).toNatClampNeg (zv14).toNatClampNeg) := ⟨_, rfl⟩
    have hf := lt_at hf ezI17
    refine x_copy C0 hz hw tzv12 tzv13 zhc16 (hml.trans hl.1.symm) wd186 (Nat.le_of_ble_eq_true rfl) (Nat.le_of_ble_eq_true rfl) dX4_copyFrom_165 ezI17 (fun H locs hw => ?_)
    refine lv_aload_n hx hb dX4_copyFrom_168 rfl (lv_at hl 0 rfl) ?_
    refine lv_aload_n hx hb dX4_copyFrom_169 rfl (lv_at hl 1 rfl) ?_
    refine xg_4_8 C0 hw zt1 wd183 dX4_copyFrom_170 ?_
    obtain ⟨zI18, ezI18⟩ : ∃ y : Im, y = pF zI17 72 zx0 (gF zI17 72 zx1) := ⟨_, rfl⟩
    have hf := lt_at hf ezI18
    refine xp_4_8 C0 hz hw zt0 rfl rfl wd183 dX4_copyFrom_173 ezI18 (fun H locs hw => ?_)
    obtain rfl := Option.some.inj hf
    exact x_vret C0 hr hw dX4_copyFrom_176
  · have hf := ite_f hf zc2
    refine lv_aload_n hx hb dX4_copyFrom_72 rfl (lv_at hl 0 rfl) ?_
    refine xg_4_3 C0 hw zt0 wd151 ezv1 dX4_copyFrom_73 ?_
    refine lv_iload_n hx hb dX4_copyFrom_76 rfl (lv_at hl 2 rfl) ?_
    obtain ⟨zhb19, hf⟩ := ck_some hf
    obtain ⟨zv20, ezv20, hf⟩ := nn_some hf
    have tzv20 : okA E G 0 zv20 := wt_q hw tzv1 ezv20
    refine x_qald C0 hw 13 tzv1 (by decide) rfl zhb19 ezv20 dX4_copyFrom_77 ?_
    refine lv_aload_n hx hb dX4_copyFrom_78 rfl (lv_at hl 1 rfl) ?_
    obtain ⟨zv21, ezv21, hf⟩ := nn_some hf
    have tzv21 : okA E G 13 zv21 := wt_r hw ezv21
    refine xg_4_3 C0 hw zt1 wd151 ezv21 dX4_copyFrom_79 ?_
    refine lv_iload_n hx hb dX4_copyFrom_82 rfl (lv_at hl 2 rfl) ?_
    obtain ⟨zhb22, hf⟩ := ck_some hf
    obtain ⟨zv23, ezv23, hf⟩ := nn_some hf
    have tzv23 : okA E G 0 zv23 := wt_q hw tzv21 ezv23
    refine x_qald C0 hw 13 tzv21 (by decide) rfl zhb22 ezv23 dX4_copyFrom_83 ?_
    refine xg_0_0 C0 hw tzv23 wd187 dX4_copyFrom_84 ?_
    obtain ⟨zI24, ezI24⟩ : ∃ y : Im, y = pF I 0 zv20 (gF I 0 zv23) := ⟨_, rfl⟩
    have hf := lt_at hf ezI24
    refine xp_0_0 C0 hz hw tzv20 rfl rfl wd187 dX4_copyFrom_87 ezI24 (fun H locs hw => ?_)
    refine lv_aload_n hx hb dX4_copyFrom_90 rfl (lv_at hl 0 rfl) ?_
    refine xg_4_3 C0 hw zt0 wd151 ezv1 dX4_copyFrom_91 ?_
    refine lv_iload_n hx hb dX4_copyFrom_94 rfl (lv_at hl 2 rfl) ?_
    obtain ⟨zv25, ezv25, hf⟩ := nn_some hf
    have tzv25 : okA E G 0 zv25 := wt_q hw tzv1 ezv25
    refine x_qald C0 hw 13 tzv1 (by decide) rfl zhb19 ezv25 dX4_copyFrom_95 ?_
    refine lv_aload_n hx hb dX4_copyFrom_96 rfl (lv_at hl 1 rfl) ?_
    obtain ⟨zv26, ezv26, hf⟩ := nn_some hf
    have tzv26 : okA E G 13 zv26 := wt_r hw ezv26
    refine xg_4_3 C0 hw zt1 wd151 ezv26 dX4_copyFrom_97 ?_
    refine lv_iload_n hx hb dX4_copyFrom_100 rfl (lv_at hl 2 rfl) ?_
    obtain ⟨zhb27, hf⟩ := ck_some hf
    obtain ⟨zv28, ezv28, hf⟩ := nn_some hf
    have tzv28 : okA E G 0 zv28 := wt_q hw tzv26 ezv28
    refine x_qald C0 hw 13 tzv26 (by decide) rfl zhb27 ezv28 dX4_copyFrom_101 ?_
    refine xg_0_1 C0 hw tzv28 wd188 dX4_copyFrom_102 ?_
    obtain ⟨zI29, ezI29⟩ : ∃ y : Im, y = pF zI24 1 zv25 (gF zI24 1 zv28) := ⟨_, rfl⟩
    have hf := lt_at hf ezI29
    refine xp_0_1 C0 hz hw tzv25 rfl rfl wd188 dX4_copyFrom_105 ezI29 (fun H locs hw => ?_)
    obtain ⟨zv30, ezv30⟩ : ∃ y : Int32, y = zx2 + 1 := ⟨_, rfl⟩
    have hf := lt_at hf ezv30
    refine lv_iinc (v := zv30) (lv' := [(2, .int zv30), (0, .ref zx0), (1, .ref zx1)]) hx hb dX4_copyFrom_108 hl (k := 2) rfl (by rw [ezv30]; rfl) (by decide) rfl (fun ls hl => ?_)
    refine lv_goto (tgt := 63) hx hb dX4_copyFrom_111 (by decide) ?_
    exact zhr63 zI29 _ _ _ zx0 zx1 zv30 p_64 p_65 p_66 zt0 zt1 ep_64 tp_64 ep_65 tp_65 ep_66 tp_66 hw (lv_sub hl [1, 2, 0] rfl) hf
theorem w4_copyFrom_63 {p : Program} {l : Launch} {e : Env} {s : State} {m : MethodId} {args : Array Value} {below : List Frame} {meth : Method} {c : Code} {E : EN} {G : GM} {X : Xm} (C0 : CX p s m args meth c E cX4_copyFrom RX4 3) (hr : meth.sig.returnType = none) (hz : s.heap.size + 0 ≤ eB E + G.1) {rr : Im} (fl : Nat) : ∀ (n : Nat) (I : Im) (H : Heap) (locs : List Loc) (ls : Array Slot) (zx0 : Nat) (zx1 : Nat) (zx2 : Int32) (p_64 : Nat) (p_65 : Nat) (p_66 : Nat) (zt0 : okA E G 4 zx0) (zt1 : okA E G 4 zx1) (ep_64 : gR X 64 zx0 = some p_64) (tp_64 : okA E G 11 p_64) (ep_65 : gR X 65 zx0 = some p_65) (tp_65 : okA E G 6 p_65) (ep_66 : gR X 66 zx0 = some p_66) (tp_66 : okA E G 16 p_66), WD E G I X s.heap H locs → lv_has ls 3 [(0, .ref zx0), (1, .ref zx1), (2, .int zx2)] → m4_copyFrom_63 fl G.2.2 X n I zx0 zx1 zx2 p_64 p_65 p_66 = some rr → W p l e ({ frames := 2, cells := 0, slots := 0, locals := 48 } : Room) s m args below meth c H locs 0 0 (MQ below (QV E G rr X) args s 0 0 (eA E)) (F0 m 63 ls []) := by
  intro n
  induction n with
  | zero => intro I H locs ls zx0 zx1 zx2 p_64 p_65 p_66 zt0 zt1 ep_64 tp_64 ep_65 tp_65 ep_66 tp_66 hw hl hf; exact absurd (show (none : Option (Im)) = some rr from hf) (by simp)
  | succ n ih => intro I H locs ls zx0 zx1 zx2 p_64 p_65 p_66 zt0 zt1 ep_64 tp_64 ep_65 tp_65 ep_66 tp_66 hw hl hf; exact w4_copyFrom_63b C0 hr hz fl _ ih I H locs ls zx0 zx1 zx2 p_64 p_65 p_66 zt0 zt1 ep_64 tp_64 ep_65 tp_65 ep_66 tp_66 hw hl hf
noncomputable def m4_copyFrom_31b (fl : Nat) (len : Nat → Nat) (X : Xm) (zr31 : Im → Nat → Nat → Int32 → Nat → Nat → Option (Im)) (I : Im) (zx0 : Nat) (zx1 : Nat) (zx2 : Int32) (p_64 : Nat) (p_65 : Nat) : Option (Im) :=
  nn (gR X 66 zx0) fun zv1 =>
  if (nI (len zv1)) ≤ zx2 then
    m4_copyFrom_63 fl len X fl I zx0 zx1 (0 : Int32) p_64 p_65 zv1
  else
    ck (inb zx2 (len zv1) = true) <|
    nn (gQ X zv1 (zx2).toNatClampNeg) fun zv4 =>
    nn (gR X 66 zx1) fun zv5 =>
    ck (inb zx2 (len zv5) = true) <|
    nn (gQ X zv5 (zx2).toNatClampNeg) fun zv7 =>
    nn (m5_copyFrom fl len X I zv4 zv7) fun zI8 =>
    lt (zx2 + 1) fun zv10 =>
    zr31 zI8 zx0 zx1 zv10 p_64 p_65
noncomputable def m4_copyFrom_31 (fl : Nat) (len : Nat → Nat) (X : Xm) (n : Nat) : Im → Nat → Nat → Int32 → Nat → Nat → Option (Im) :=
  Nat.rec (fun _ _ _ _ _ _ => none) (fun _ r => m4_copyFrom_31b fl len X r) n
set_option maxHeartbeats 4000000 in
set_option maxRecDepth 100000 in
theorem w4_copyFrom_31b {p : Program} {l : Launch} {e : Env} {s : State} {m : MethodId} {args : Array Value} {below : List Frame} {meth : Method} {c : Code} {E : EN} {G : GM} {X : Xm} (C0 : CX p s m args meth c E cX4_copyFrom RX4 3) (hr : meth.sig.returnType = none) (hz : s.heap.size + 0 ≤ eB E + G.1) {rr : Im} (fl : Nat) (zr31 : Im → Nat → Nat → Int32 → Nat → Nat → Option (Im)) (zhr31 : ∀ (I : Im) (H : Heap) (locs : List Loc) (ls : Array Slot) (zx0 : Nat) (zx1 : Nat) (zx2 : Int32) (p_64 : Nat) (p_65 : Nat) (zt0 : okA E G 4 zx0) (zt1 : okA E G 4 zx1) (ep_64 : gR X 64 zx0 = some p_64) (tp_64 : okA E G 11 p_64) (ep_65 : gR X 65 zx0 = some p_65) (tp_65 : okA E G 6 p_65), WD E G I X s.heap H locs → lv_has ls 3 [(0, .ref zx0), (1, .ref zx1), (2, .int zx2)] → zr31 I zx0 zx1 zx2 p_64 p_65 = some rr → W p l e ({ frames := 2, cells := 0, slots := 0, locals := 48 } : Room) s m args below meth c H locs 0 0 (MQ below (QV E G rr X) args s 0 0 (eA E)) (F0 m 31 ls [])) : ∀ (I : Im) (H : Heap) (locs : List Loc) (ls : Array Slot) (zx0 : Nat) (zx1 : Nat) (zx2 : Int32) (p_64 : Nat) (p_65 : Nat) (zt0 : okA E G 4 zx0) (zt1 : okA E G 4 zx1) (ep_64 : gR X 64 zx0 = some p_64) (tp_64 : okA E G 11 p_64) (ep_65 : gR X 65 zx0 = some p_65) (tp_65 : okA E G 6 p_65), WD E G I X s.heap H locs → lv_has ls 3 [(0, .ref zx0), (1, .ref zx1), (2, .int zx2)] → m4_copyFrom_31b fl G.2.2 X zr31 I zx0 zx1 zx2 p_64 p_65 = some rr → W p l e ({ frames := 2, cells := 0, slots := 0, locals := 48 } : Room) s m args below meth c H locs 0 0 (MQ below (QV E G rr X) args s 0 0 (eA E)) (F0 m 31 ls []) := by
  intro I H locs ls zx0 zx1 zx2 p_64 p_65 zt0 zt1 ep_64 tp_64 ep_65 tp_65 hw hl hf
  unfold m4_copyFrom_31b at hf
  have hx := C0.1; have hb := C0.2.1; have hml := C0.2.2.1; have hown := C0.2.2.2.1; have hts := C0.2.2.2.2.1
  refine lv_iload_n hx hb dX4_copyFrom_31 rfl (lv_at hl 2 rfl) ?_
  refine lv_aload_n hx hb dX4_copyFrom_32 rfl (lv_at hl 0 rfl) ?_
  obtain ⟨zv1, ezv1, hf⟩ := nn_some hf
  have tzv1 : okA E G 16 zv1 := wt_r hw ezv1
  refine xg_4_2 C0 hw zt0 wd149 ezv1 dX4_copyFrom_33 ?_
  refine x_alen C0 hw 16 tzv1 (by decide) rfl dX4_copyFrom_36 ?_
  refine lv_icmp_ge (tgt := 61) hx hb dX4_copyFrom_37 (by decide) (fun zc2 => ?_) (fun zc2 => ?_)
  · have hf := ite_t hf zc2
    refine lv_iconst (v := (0 : Int32)) hx hb dX4_copyFrom_61 (by decide) ?_
    refine lv_istore_n (lv' := [(2, .int (0 : Int32)), (0, .ref zx0), (1, .ref zx1)]) hx hb dX4_copyFrom_62 rfl hl (by decide) rfl (fun ls hl => ?_)
    exact w4_copyFrom_63 C0 hr hz fl fl I _ _ _ zx0 zx1 (0 : Int32) p_64 p_65 zv1 zt0 zt1 ep_64 tp_64 ep_65 tp_65 ezv1 tzv1 hw (lv_sub hl [1, 2, 0] rfl) hf
  · have hf := ite_f hf zc2
    refine lv_aload_n hx hb dX4_copyFrom_40 rfl (lv_at hl 0 rfl) ?_
    refine xg_4_2 C0 hw zt0 wd149 ezv1 dX4_copyFrom_41 ?_
    refine lv_iload_n hx hb dX4_copyFrom_44 rfl (lv_at hl 2 rfl) ?_
    obtain ⟨zhb3, hf⟩ := ck_some hf
    obtain ⟨zv4, ezv4, hf⟩ := nn_some hf
    have tzv4 : okA E G 5 zv4 := wt_q hw tzv1 ezv4
    refine x_qald C0 hw 16 tzv1 (by decide) rfl zhb3 ezv4 dX4_copyFrom_45 ?_
    refine lv_aload_n hx hb dX4_copyFrom_46 rfl (lv_at hl 1 rfl) ?_
    obtain ⟨zv5, ezv5, hf⟩ := nn_some hf
    have tzv5 : okA E G 16 zv5 := wt_r hw ezv5
    refine xg_4_2 C0 hw zt1 wd149 ezv5 dX4_copyFrom_47 ?_
    refine lv_iload_n hx hb dX4_copyFrom_50 rfl (lv_at hl 2 rfl) ?_
    obtain ⟨zhb6, hf⟩ := ck_some hf
    obtain ⟨zv7, ezv7, hf⟩ := nn_some hf
    have tzv7 : okA E G 5 zv7 := wt_q hw tzv5 ezv7
    refine x_qald C0 hw 16 tzv5 (by decide) rfl zhb6 ezv7 dX4_copyFrom_51 ?_
    obtain ⟨zI8, ze9, hf⟩ := nn_some hf
    refine x_cv (I1 := zI8) (X1 := X) (x_runV (As := [.ref zv7]) (rest := []) C0 (c5_copyFrom l E G fl X I zv4 zv7 tzv4 tzv7 ze9) hw 5 tzv4 (by decide) rfl wd17 wd193 wd194 wd195 wd159 ⟨rfl, rfl⟩ hy5_copyFrom ⟨Nat.le_of_ble_eq_true rfl, Nat.le_of_ble_eq_true rfl⟩ rfl hl.1 (Nat.le_of_ble_eq_true rfl) ⟨Nat.zero_le _, Nat.zero_le _⟩ dX4_copyFrom_52) hw (fun H locs hw => ?_)
    obtain ⟨zv10, ezv10⟩ : ∃ y : Int32, y = zx2 + 1 := ⟨_, rfl⟩
    have hf := lt_at hf ezv10
    refine lv_iinc (v := zv10) (lv' := [(2, .int zv10), (0, .ref zx0), (1, .ref zx1)]) hx hb dX4_copyFrom_55 hl (k := 2) rfl (by rw [ezv10]; rfl) (by decide) rfl (fun ls hl => ?_)
    refine lv_goto (tgt := 31) hx hb dX4_copyFrom_58 (by decide) ?_
    exact zhr31 zI8 _ _ _ zx0 zx1 zv10 p_64 p_65 zt0 zt1 ep_64 tp_64 ep_65 tp_65 hw (lv_sub hl [1, 2, 0] rfl) hf
theorem w4_copyFrom_31 {p : Program} {l : Launch} {e : Env} {s : State} {m : MethodId} {args : Array Value} {below : List Frame} {meth : Method} {c : Code} {E : EN} {G : GM} {X : Xm} (C0 : CX p s m args meth c E cX4_copyFrom RX4 3) (hr : meth.sig.returnType = none) (hz : s.heap.size + 0 ≤ eB E + G.1) {rr : Im} (fl : Nat) : ∀ (n : Nat) (I : Im) (H : Heap) (locs : List Loc) (ls : Array Slot) (zx0 : Nat) (zx1 : Nat) (zx2 : Int32) (p_64 : Nat) (p_65 : Nat) (zt0 : okA E G 4 zx0) (zt1 : okA E G 4 zx1) (ep_64 : gR X 64 zx0 = some p_64) (tp_64 : okA E G 11 p_64) (ep_65 : gR X 65 zx0 = some p_65) (tp_65 : okA E G 6 p_65), WD E G I X s.heap H locs → lv_has ls 3 [(0, .ref zx0), (1, .ref zx1), (2, .int zx2)] → m4_copyFrom_31 fl G.2.2 X n I zx0 zx1 zx2 p_64 p_65 = some rr → W p l e ({ frames := 2, cells := 0, slots := 0, locals := 48 } : Room) s m args below meth c H locs 0 0 (MQ below (QV E G rr X) args s 0 0 (eA E)) (F0 m 31 ls []) := by
  intro n
  induction n with
  | zero => intro I H locs ls zx0 zx1 zx2 p_64 p_65 zt0 zt1 ep_64 tp_64 ep_65 tp_65 hw hl hf; exact absurd (show (none : Option (Im)) = some rr from hf) (by simp)
  | succ n ih => intro I H locs ls zx0 zx1 zx2 p_64 p_65 zt0 zt1 ep_64 tp_64 ep_65 tp_65 hw hl hf; exact w4_copyFrom_31b C0 hr hz fl _ ih I H locs ls zx0 zx1 zx2 p_64 p_65 zt0 zt1 ep_64 tp_64 ep_65 tp_65 hw hl hf
noncomputable def m4_copyFrom (fl : Nat) (len : Nat → Nat) (X : Xm) (I : Im) (zx0 : Nat) (zx1 : Nat) : Option (Im) :=
  nn (gR X 64 zx1) fun zv1 =>
  nn (gR X 64 zx0) fun zv2 =>
  ck (cpok (0 : Int32) (0 : Int32) (nI (len zv2)) (len zv1) (len zv2) = true) <|
  lt (pAr I zv2 (va_cpy (gA I zv1) (gA I zv2) ((0 : Int32)).toNatClampNeg ((0 : Int32)).toNatClampNeg ((nI (len zv2))).toNatClampNeg)) fun zI4 =>
  nn (gR X 65 zx0) fun zv5 =>
  nn (gR X 65 zx1) fun zv6 =>
  nn (m6_copyFrom fl len X zI4 zv5 zv6) fun zI7 =>
  m4_copyFrom_31 fl len X fl zI7 zx0 zx1 (0 : Int32) zv2 zv5
theorem hy4_copyFrom : yX4_copyFrom.cls = RX4 ∧ yX4_copyFrom.cls ≠ "java/lang/invoke/MethodHandle" ∧ yX4_copyFrom.cls ≠ "java/lang/invoke/VarHandle" ∧ (parseMethodDescriptor yX4_copyFrom.desc).map (fun d => d.parameters.length) = some 1 := ⟨rfl, by decide +kernel, by decide +kernel, by decide +kernel⟩
set_option maxHeartbeats 4000000 in
set_option maxRecDepth 100000 in
theorem c4_copyFrom (l : Launch) (E : EN) (G : GM) (fl : Nat) (X : Xm) (I : Im) (zx0 : Nat) (zx1 : Nat) (zt0 : okA E G 4 zx0) (zt1 : okA E G 4 zx1) {rr : Im} (hf : m4_copyFrom fl G.2.2 X I zx0 zx1 = some rr) : MT l yX4_copyFrom cX4_copyFrom 3 none ({ frames := 2, cells := 0, slots := 0, locals := 48 } : Room) E G I X [.ref zx0, .ref zx1] (QV E G rr X) 0 0 := by
  refine Met.ofW (cc := cX4_copyFrom) (maxL := 3) (ret := none) (by decide +kernel) rfl ?_
  intro p e s m args below meth c s₁ B hml hv
  obtain ⟨rfl, hw0, hSE⟩ := hv
  have C0 : CX p s m ([.ref zx0, .ref zx1] : List Value).toArray meth c E cX4_copyFrom RX4 3 := ⟨B.exec, B.bytes, hml, findClass_of_methodNamed B.named, fun w hw => atoms_spec (ws := WS yX4_copyFrom cX4_copyFrom 3 none) B.pre w (List.mem_cons_of_mem _ hw), B.notSynchronized, hSE⟩
  have hz : s.heap.size + 0 ≤ eB E + G.1 := Nat.le_of_eq hw0.2.1
  have hw : WD E G I X s.heap s.heap [] := ⟨hw0, va_S.rf⟩
  have hr := B.returns
  have hx := C0.1; have hb := C0.2.1; have hml := C0.2.2.1; have hown := C0.2.2.2.1; have hts := C0.2.2.2.2.1
  have hl := lv_entry ([.ref zx0, .ref zx1]) (n := 3) (Nat.le_of_ble_eq_true rfl)
  rw [lg_entry_eq]
  generalize (lg_sl ([.ref zx0, .ref zx1]) ++ List.replicate (3 - (lg_sl ([.ref zx0, .ref zx1])).length) Slot.unset).toArray = ls at hl ⊢
  have hl : lv_has ls 3 [(0, .ref zx0), (1, .ref zx1)] := hl
  unfold m4_copyFrom at hf
  refine lv_aload_n hx hb dX4_copyFrom_0 rfl (lv_at hl 1 rfl) ?_
  obtain ⟨zv1, ezv1, hf⟩ := nn_some hf
  have tzv1 : okA E G 11 zv1 := wt_r hw ezv1
  refine xg_4_0 C0 hw zt1 wd143 ezv1 dX4_copyFrom_1 ?_
  refine lv_iconst (v := (0 : Int32)) hx hb dX4_copyFrom_4 (by decide) ?_
  refine lv_aload_n hx hb dX4_copyFrom_5 rfl (lv_at hl 0 rfl) ?_
  obtain ⟨zv2, ezv2, hf⟩ := nn_some hf
  have tzv2 : okA E G 11 zv2 := wt_r hw ezv2
  refine xg_4_0 C0 hw zt0 wd143 ezv2 dX4_copyFrom_6 ?_
  refine lv_iconst (v := (0 : Int32)) hx hb dX4_copyFrom_9 (by decide) ?_
  refine lv_aload_n hx hb dX4_copyFrom_10 rfl (lv_at hl 0 rfl) ?_
  refine xg_4_0 C0 hw zt0 wd143 ezv2 dX4_copyFrom_11 ?_
  refine x_alen C0 hw 11 tzv2 (by decide) rfl dX4_copyFrom_14 ?_
  obtain ⟨zhc3, hf⟩ := ck_some hf
  obtain ⟨zI4, ezI4⟩ : ∃ y : Im, y = pAr I zv2 (va_cpy (gA I zv1) (gA I zv2) ((0 : Int32)).toNatClampNeg ((0 : Int32)).toNatClampNeg ((nI (G.2.2 zv2))).toNatClampNeg) := ⟨_, rfl⟩
  have hf := lt_at hf ezI4
  refine x_copy C0 hz hw tzv1 tzv2 zhc3 (hml.trans hl.1.symm) wd186 (Nat.le_of_ble_eq_true rfl) (Nat.le_of_ble_eq_true rfl) dX4_copyFrom_15 ezI4 (fun H locs hw => ?_)
  refine lv_aload_n hx hb dX4_copyFrom_18 rfl (lv_at hl 0 rfl) ?_
  obtain ⟨zv5, ezv5, hf⟩ := nn_some hf
  have tzv5 : okA E G 6 zv5 := wt_r hw ezv5
  refine xg_4_1 C0 hw zt0 wd147 ezv5 dX4_copyFrom_19 ?_
  refine lv_aload_n hx hb dX4_copyFrom_22 rfl (lv_at hl 1 rfl) ?_
  obtain ⟨zv6, ezv6, hf⟩ := nn_some hf
  have tzv6 : okA E G 6 zv6 := wt_r hw ezv6
  refine xg_4_1 C0 hw zt1 wd147 ezv6 dX4_copyFrom_23 ?_
  obtain ⟨zI7, ze8, hf⟩ := nn_some hf
  refine x_cv (I1 := zI7) (X1 := X) (x_runV (As := [.ref zv6]) (rest := []) C0 (c6_copyFrom l E G fl X zI4 zv5 zv6 tzv5 tzv6 ze8) hw 6 tzv5 (by decide) rfl wd15 wd190 wd191 wd192 wd146 ⟨rfl, rfl⟩ hy6_copyFrom ⟨Nat.le_of_ble_eq_true rfl, Nat.le_of_ble_eq_true rfl⟩ rfl hl.1 (Nat.le_of_ble_eq_true rfl) ⟨Nat.zero_le _, Nat.zero_le _⟩ dX4_copyFrom_26) hw (fun H locs hw => ?_)
  refine lv_iconst (v := (0 : Int32)) hx hb dX4_copyFrom_29 (by decide) ?_
  refine lv_istore_n (lv' := [(2, .int (0 : Int32)), (0, .ref zx0), (1, .ref zx1)]) hx hb dX4_copyFrom_30 rfl hl (by decide) rfl (fun ls hl => ?_)
  exact w4_copyFrom_31 C0 hr hz fl fl zI7 _ _ _ zx0 zx1 (0 : Int32) zv2 zv5 zt0 zt1 ezv2 tzv2 ezv5 tzv5 hw (lv_sub hl [1, 2, 0] rfl) hf
noncomputable def m6_countOf_43 (fl : Nat) (len : Nat → Nat) (X : Xm) (I : Im) (zx2 : Int32) : Option (Int32) :=
  some (zx2)
set_option maxHeartbeats 4000000 in
set_option maxRecDepth 100000 in
theorem w6_countOf_43 {p : Program} {l : Launch} {e : Env} {s : State} {m : MethodId} {args : Array Value} {below : List Frame} {meth : Method} {c : Code} {E : EN} {G : GM} {X : Xm} {I : Im} (C0 : CX p s m args meth c E cX6_countOf RX6 4) (hr : meth.sig.returnType = (some .int)) (hz : s.heap.size + 0 ≤ eB E + G.1) {rr : Int32} (fl : Nat) : ∀ (H : Heap) (locs : List Loc) (ls : Array Slot) (zx2 : Int32) , WD E G I X s.heap H locs → lv_has ls 4 [(2, .int zx2)] → m6_countOf_43 fl G.2.2 X I zx2 = some rr → W p l e ({ frames := 0, cells := 0, slots := 0, locals := 0 } : Room) s m args below meth c H locs 0 0 (MQ below (QI E G rr I X) args s 0 0 (eA E)) (F0 m 43 ls []) := by
  intro H locs ls zx2 hw hl hf
  unfold m6_countOf_43 at hf
  have hx := C0.1; have hb := C0.2.1; have hml := C0.2.2.1; have hown := C0.2.2.2.1; have hts := C0.2.2.2.2.1
  refine lv_iload_n hx hb dX6_countOf_43 rfl (lv_at hl 0 rfl) ?_
  obtain rfl := Option.some.inj hf
  exact x_iret C0 hr hw dX6_countOf_44
noncomputable def m6_countOf_37 (fl : Nat) (len : Nat → Nat) (X : Xm) (I : Im) (zr4 : Nat → Int32 → Int32 → Int32 → Option (Int32)) (zx0 : Nat) (zx1 : Int32) (zx2 : Int32) (zx3 : Int32) (p_96 : Nat) : Option (Int32) :=
  lt (zx3 + 1) fun zv1 =>
  zr4 zx0 zx1 zx2 zv1
set_option maxHeartbeats 4000000 in
set_option maxRecDepth 100000 in
theorem w6_countOf_37 {p : Program} {l : Launch} {e : Env} {s : State} {m : MethodId} {args : Array Value} {below : List Frame} {meth : Method} {c : Code} {E : EN} {G : GM} {X : Xm} {I : Im} (C0 : CX p s m args meth c E cX6_countOf RX6 4) (hr : meth.sig.returnType = (some .int)) (hz : s.heap.size + 0 ≤ eB E + G.1) {rr : Int32} (fl : Nat) (zr4 : Nat → Int32 → Int32 → Int32 → Option (Int32)) (zhr4 : ∀ (H : Heap) (locs : List Loc) (ls : Array Slot) (zx0 : Nat) (zx1 : Int32) (zx2 : Int32) (zx3 : Int32) (zt0 : okA E G 6 zx0), WD E G I X s.heap H locs → lv_has ls 4 [(0, .ref zx0), (1, .int zx1), (2, .int zx2), (3, .int zx3)] → zr4 zx0 zx1 zx2 zx3 = some rr → W p l e ({ frames := 0, cells := 0, slots := 0, locals := 0 } : Room) s m args below meth c H locs 0 0 (MQ below (QI E G rr I X) args s 0 0 (eA E)) (F0 m 4 ls [])) : ∀ (H : Heap) (locs : List Loc) (ls : Array Slot) (zx0 : Nat) (zx1 : Int32) (zx2 : Int32) (zx3 : Int32) (p_96 : Nat) (zt0 : okA E G 6 zx0) (ep_96 : gR X 96 zx0 = some p_96) (tp_96 : okA E G 14 p_96), WD E G I X s.heap H locs → lv_has ls 4 [(0, .ref zx0), (1, .int zx1), (2, .int zx2), (3, .int zx3)] → m6_countOf_37 fl G.2.2 X I zr4 zx0 zx1 zx2 zx3 p_96 = some rr → W p l e ({ frames := 0, cells := 0, slots := 0, locals := 0 } : Room) s m args below meth c H locs 0 0 (MQ below (QI E G rr I X) args s 0 0 (eA E)) (F0 m 37 ls []) := by
  intro H locs ls zx0 zx1 zx2 zx3 p_96 zt0 ep_96 tp_96 hw hl hf
  unfold m6_countOf_37 at hf
  have hx := C0.1; have hb := C0.2.1; have hml := C0.2.2.1; have hown := C0.2.2.2.1; have hts := C0.2.2.2.2.1
  obtain ⟨zv1, ezv1⟩ : ∃ y : Int32, y = zx3 + 1 := ⟨_, rfl⟩
  have hf := lt_at hf ezv1
  refine lv_iinc (v := zv1) (lv' := [(3, .int zv1), (0, .ref zx0), (1, .int zx1), (2, .int zx2)]) hx hb dX6_countOf_37 hl (k := 3) rfl (by rw [ezv1]; rfl) (by decide) rfl (fun ls hl => ?_)
  refine lv_goto (tgt := 4) hx hb dX6_countOf_40 (by decide) ?_
  exact zhr4 _ _ _ zx0 zx1 zx2 zv1 zt0 hw (lv_sub hl [1, 2, 3, 0] rfl) hf
noncomputable def m6_countOf_4b (fl : Nat) (len : Nat → Nat) (X : Xm) (I : Im) (zr4 : Nat → Int32 → Int32 → Int32 → Option (Int32)) (zx0 : Nat) (zx1 : Int32) (zx2 : Int32) (zx3 : Int32) : Option (Int32) :=
  if (gF I 97 zx0) ≤ zx3 then
    m6_countOf_43 fl len X I zx2
  else
    nn (gR X 96 zx0) fun zv2 =>
    if (nI (len zv2)) ≤ zx3 then
      m6_countOf_43 fl len X I zx2
    else
      ck (inb zx3 (len zv2) = true) <|
      nn (gQ X zv2 (zx3).toNatClampNeg) fun zv5 =>
      if (gF I 20 zv5) = zx1 then
        lt (zx2 + 1) fun zv7 =>
        m6_countOf_37 fl len X I zr4 zx0 zx1 zv7 zx3 zv2
      else
        m6_countOf_37 fl len X I zr4 zx0 zx1 zx2 zx3 zv2
noncomputable def m6_countOf_4 (fl : Nat) (len : Nat → Nat) (X : Xm) (I : Im) (n : Nat) : Nat → Int32 → Int32 → Int32 → Option (Int32) :=
  Nat.rec (fun _ _ _ _ => none) (fun _ r => m6_countOf_4b fl len X I r) n
set_option maxHeartbeats 4000000 in
set_option maxRecDepth 100000 in
theorem w6_countOf_4b {p : Program} {l : Launch} {e : Env} {s : State} {m : MethodId} {args : Array Value} {below : List Frame} {meth : Method} {c : Code} {E : EN} {G : GM} {X : Xm} {I : Im} (C0 : CX p s m args meth c E cX6_countOf RX6 4) (hr : meth.sig.returnType = (some .int)) (hz : s.heap.size + 0 ≤ eB E + G.1) {rr : Int32} (fl : Nat) (zr4 : Nat → Int32 → Int32 → Int32 → Option (Int32)) (zhr4 : ∀ (H : Heap) (locs : List Loc) (ls : Array Slot) (zx0 : Nat) (zx1 : Int32) (zx2 : Int32) (zx3 : Int32) (zt0 : okA E G 6 zx0), WD E G I X s.heap H locs → lv_has ls 4 [(0, .ref zx0), (1, .int zx1), (2, .int zx2), (3, .int zx3)] → zr4 zx0 zx1 zx2 zx3 = some rr → W p l e ({ frames := 0, cells := 0, slots := 0, locals := 0 } : Room) s m args below meth c H locs 0 0 (MQ below (QI E G rr I X) args s 0 0 (eA E)) (F0 m 4 ls [])) : ∀ (H : Heap) (locs : List Loc) (ls : Array Slot) (zx0 : Nat) (zx1 : Int32) (zx2 : Int32) (zx3 : Int32) (zt0 : okA E G 6 zx0), WD E G I X s.heap H locs → lv_has ls 4 [(0, .ref zx0), (1, .int zx1), (2, .int zx2), (3, .int zx3)] → m6_countOf_4b fl G.2.2 X I zr4 zx0 zx1 zx2 zx3 = some rr → W p l e ({ frames := 0, cells := 0, slots := 0, locals := 0 } : Room) s m args below meth c H locs 0 0 (MQ below (QI E G rr I X) args s 0 0 (eA E)) (F0 m 4 ls []) := by
  intro H locs ls zx0 zx1 zx2 zx3 zt0 hw hl hf
  unfold m6_countOf_4b at hf
  have hx := C0.1; have hb := C0.2.1; have hml := C0.2.2.1; have hown := C0.2.2.2.1; have hts := C0.2.2.2.2.1
  refine lv_iload_n hx hb dX6_countOf_4 rfl (lv_at hl 3 rfl) ?_
  refine lv_aload_n hx hb dX6_countOf_5 rfl (lv_at hl 0 rfl) ?_
  refine xg_6_1 C0 hw zt0 wd168 dX6_countOf_6 ?_
  refine lv_icmp_ge (tgt := 43) hx hb dX6_countOf_9 (by decide) (fun zc1 => ?_) (fun zc1 => ?_)
  · have hf := ite_t hf zc1
    exact w6_countOf_43 C0 hr hz fl _ _ _ zx2 hw (lv_sub hl [2] rfl) hf
  · have hf := ite_f hf zc1
    refine lv_iload_n hx hb dX6_countOf_12 rfl (lv_at hl 3 rfl) ?_
    refine lv_aload_n hx hb dX6_countOf_13 rfl (lv_at hl 0 rfl) ?_
    obtain ⟨zv2, ezv2, hf⟩ := nn_some hf
    have tzv2 : okA E G 14 zv2 := wt_r hw ezv2
    refine xg_6_0 C0 hw zt0 wd130 ezv2 dX6_countOf_14 ?_
    refine x_alen C0 hw 14 tzv2 (by decide) rfl dX6_countOf_17 ?_
    refine lv_icmp_ge (tgt := 43) hx hb dX6_countOf_18 (by decide) (fun zc3 => ?_) (fun zc3 => ?_)
    · have hf := ite_t hf zc3
      exact w6_countOf_43 C0 hr hz fl _ _ _ zx2 hw (lv_sub hl [2] rfl) hf
    · have hf := ite_f hf zc3
      refine lv_aload_n hx hb dX6_countOf_21 rfl (lv_at hl 0 rfl) ?_
      refine xg_6_0 C0 hw zt0 wd130 ezv2 dX6_countOf_22 ?_
      refine lv_iload_n hx hb dX6_countOf_25 rfl (lv_at hl 3 rfl) ?_
      obtain ⟨zhb4, hf⟩ := ck_some hf
      obtain ⟨zv5, ezv5, hf⟩ := nn_some hf
      have tzv5 : okA E G 1 zv5 := wt_q hw tzv2 ezv5
      refine x_qald C0 hw 14 tzv2 (by decide) rfl zhb4 ezv5 dX6_countOf_26 ?_
      refine xg_1_4 C0 hw tzv5 wd228 dX6_countOf_27 ?_
      refine lv_iload_n hx hb dX6_countOf_30 rfl (lv_at hl 1 rfl) ?_
      refine lv_icmp_ne (tgt := 37) hx hb dX6_countOf_31 (by decide) (fun zc6 => ?_) (fun zc6 => ?_)
      · have hf := ite_f hf zc6
        exact w6_countOf_37 C0 hr hz fl zr4 zhr4 _ _ _ zx0 zx1 zx2 zx3 zv2 zt0 ezv2 tzv2 hw (lv_sub hl [0, 1, 2, 3] rfl) hf
      · have hf := ite_t hf zc6
        obtain ⟨zv7, ezv7⟩ : ∃ y : Int32, y = zx2 + 1 := ⟨_, rfl⟩
        have hf := lt_at hf ezv7
        refine lv_iinc (v := zv7) (lv' := [(2, .int zv7), (0, .ref zx0), (1, .int zx1), (3, .int zx3)]) hx hb dX6_countOf_34 hl (k := 2) rfl (by rw [ezv7]; rfl) (by decide) rfl (fun ls hl => ?_)
        exact w6_countOf_37 C0 hr hz fl zr4 zhr4 _ _ _ zx0 zx1 zv7 zx3 zv2 zt0 ezv2 tzv2 hw (lv_sub hl [1, 2, 0, 3] rfl) hf
theorem w6_countOf_4 {p : Program} {l : Launch} {e : Env} {s : State} {m : MethodId} {args : Array Value} {below : List Frame} {meth : Method} {c : Code} {E : EN} {G : GM} {X : Xm} {I : Im} (C0 : CX p s m args meth c E cX6_countOf RX6 4) (hr : meth.sig.returnType = (some .int)) (hz : s.heap.size + 0 ≤ eB E + G.1) {rr : Int32} (fl : Nat) : ∀ (n : Nat) (H : Heap) (locs : List Loc) (ls : Array Slot) (zx0 : Nat) (zx1 : Int32) (zx2 : Int32) (zx3 : Int32) (zt0 : okA E G 6 zx0), WD E G I X s.heap H locs → lv_has ls 4 [(0, .ref zx0), (1, .int zx1), (2, .int zx2), (3, .int zx3)] → m6_countOf_4 fl G.2.2 X I n zx0 zx1 zx2 zx3 = some rr → W p l e ({ frames := 0, cells := 0, slots := 0, locals := 0 } : Room) s m args below meth c H locs 0 0 (MQ below (QI E G rr I X) args s 0 0 (eA E)) (F0 m 4 ls []) := by
  intro n
  induction n with
  | zero => intro H locs ls zx0 zx1 zx2 zx3 zt0 hw hl hf; exact absurd (show (none : Option (Int32)) = some rr from hf) (by simp)
  | succ n ih => intro H locs ls zx0 zx1 zx2 zx3 zt0 hw hl hf; exact w6_countOf_4b C0 hr hz fl _ ih H locs ls zx0 zx1 zx2 zx3 zt0 hw hl hf
noncomputable def m6_countOf (fl : Nat) (len : Nat → Nat) (X : Xm) (I : Im) (zx0 : Nat) (zx1 : Int32) : Option (Int32) :=
  m6_countOf_4 fl len X I fl zx0 zx1 (0 : Int32) (0 : Int32)
theorem hy6_countOf : yX6_countOf.cls = RX6 ∧ yX6_countOf.cls ≠ "java/lang/invoke/MethodHandle" ∧ yX6_countOf.cls ≠ "java/lang/invoke/VarHandle" ∧ (parseMethodDescriptor yX6_countOf.desc).map (fun d => d.parameters.length) = some 1 := ⟨rfl, by decide +kernel, by decide +kernel, by decide +kernel⟩
set_option maxHeartbeats 4000000 in
set_option maxRecDepth 100000 in
theorem c6_countOf (l : Launch) (E : EN) (G : GM) (fl : Nat) (X : Xm) (I : Im) (zx0 : Nat) (zx1 : Int32) (zt0 : okA E G 6 zx0) {rr : Int32} (hf : m6_countOf fl G.2.2 X I zx0 zx1 = some rr) : MT l yX6_countOf cX6_countOf 4 (some .int) ({ frames := 0, cells := 0, slots := 0, locals := 0 } : Room) E G I X [.ref zx0, .int zx1] (QI E G rr I X) 0 0 := by
  refine Met.ofW (cc := cX6_countOf) (maxL := 4) (ret := (some .int)) (by decide +kernel) rfl ?_
  intro p e s m args below meth c s₁ B hml hv
  obtain ⟨rfl, hw0, hSE⟩ := hv
  have C0 : CX p s m ([.ref zx0, .int zx1] : List Value).toArray meth c E cX6_countOf RX6 4 := ⟨B.exec, B.bytes, hml, findClass_of_methodNamed B.named, fun w hw => atoms_spec (ws := WS yX6_countOf cX6_countOf 4 (some .int)) B.pre w (List.mem_cons_of_mem _ hw), B.notSynchronized, hSE⟩
  have hz : s.heap.size + 0 ≤ eB E + G.1 := Nat.le_of_eq hw0.2.1
  have hw : WD E G I X s.heap s.heap [] := ⟨hw0, va_S.rf⟩
  have hr := B.returns
  have hx := C0.1; have hb := C0.2.1; have hml := C0.2.2.1; have hown := C0.2.2.2.1; have hts := C0.2.2.2.2.1
  have hl := lv_entry ([.ref zx0, .int zx1]) (n := 4) (Nat.le_of_ble_eq_true rfl)
  rw [lg_entry_eq]
  generalize (lg_sl ([.ref zx0, .int zx1]) ++ List.replicate (4 - (lg_sl ([.ref zx0, .int zx1])).length) Slot.unset).toArray = ls at hl ⊢
  have hl : lv_has ls 4 [(0, .ref zx0), (1, .int zx1)] := hl
  unfold m6_countOf at hf
  refine lv_iconst (v := (0 : Int32)) hx hb dX6_countOf_0 (by decide) ?_
  refine lv_istore_n (lv' := [(2, .int (0 : Int32)), (0, .ref zx0), (1, .int zx1)]) hx hb dX6_countOf_1 rfl hl (by decide) rfl (fun ls hl => ?_)
  refine lv_iconst (v := (0 : Int32)) hx hb dX6_countOf_2 (by decide) ?_
  refine lv_istore_n (lv' := [(3, .int (0 : Int32)), (2, .int (0 : Int32)), (0, .ref zx0), (1, .int zx1)]) hx hb dX6_countOf_3 rfl hl (by decide) rfl (fun ls hl => ?_)
  exact w6_countOf_4 C0 hr hz fl fl _ _ _ zx0 zx1 (0 : Int32) (0 : Int32) zt0 hw (lv_sub hl [2, 3, 1, 0] rfl) hf
noncomputable def m6_missedCues (fl : Nat) (len : Nat → Nat) (X : Xm) (I : Im) (zx0 : Nat) : Option (Int32) :=
  nn (m6_countOf fl len X I zx0 (2 : Int32)) fun zv1 =>
  nn (m6_countOf fl len X I zx0 (3 : Int32)) fun zv3 =>
  some ((zv1 + zv3))
theorem hy6_missedCues : yX6_missedCues.cls = RX6 ∧ yX6_missedCues.cls ≠ "java/lang/invoke/MethodHandle" ∧ yX6_missedCues.cls ≠ "java/lang/invoke/VarHandle" ∧ (parseMethodDescriptor yX6_missedCues.desc).map (fun d => d.parameters.length) = some 0 := ⟨rfl, by decide +kernel, by decide +kernel, by decide +kernel⟩
set_option maxHeartbeats 4000000 in
set_option maxRecDepth 100000 in
theorem c6_missedCues (l : Launch) (E : EN) (G : GM) (fl : Nat) (X : Xm) (I : Im) (zx0 : Nat) (zt0 : okA E G 6 zx0) {rr : Int32} (hf : m6_missedCues fl G.2.2 X I zx0 = some rr) : MT l yX6_missedCues cX6_missedCues 1 (some .int) ({ frames := 1, cells := 0, slots := 0, locals := 23 } : Room) E G I X [.ref zx0] (QI E G rr I X) 0 0 := by
  refine Met.ofW (cc := cX6_missedCues) (maxL := 1) (ret := (some .int)) (by decide +kernel) rfl ?_
  intro p e s m args below meth c s₁ B hml hv
  obtain ⟨rfl, hw0, hSE⟩ := hv
  have C0 : CX p s m ([.ref zx0] : List Value).toArray meth c E cX6_missedCues RX6 1 := ⟨B.exec, B.bytes, hml, findClass_of_methodNamed B.named, fun w hw => atoms_spec (ws := WS yX6_missedCues cX6_missedCues 1 (some .int)) B.pre w (List.mem_cons_of_mem _ hw), B.notSynchronized, hSE⟩
  have hz : s.heap.size + 0 ≤ eB E + G.1 := Nat.le_of_eq hw0.2.1
  have hw : WD E G I X s.heap s.heap [] := ⟨hw0, va_S.rf⟩
  have hr := B.returns
  have hx := C0.1; have hb := C0.2.1; have hml := C0.2.2.1; have hown := C0.2.2.2.1; have hts := C0.2.2.2.2.1
  have hl := lv_entry ([.ref zx0]) (n := 1) (Nat.le_of_ble_eq_true rfl)
  rw [lg_entry_eq]
  generalize (lg_sl ([.ref zx0]) ++ List.replicate (1 - (lg_sl ([.ref zx0])).length) Slot.unset).toArray = ls at hl ⊢
  have hl : lv_has ls 1 [(0, .ref zx0)] := hl
  unfold m6_missedCues at hf
  refine lv_aload_n hx hb dX6_missedCues_0 rfl (lv_at hl 0 rfl) ?_
  refine lv_iconst (v := (2 : Int32)) hx hb dX6_missedCues_1 (by decide) ?_
  obtain ⟨zv1, ze2, hf⟩ := nn_some hf
  refine x_ci (r := zv1) (I1 := I) (X1 := X) (x_runV (As := [.int (2 : Int32)]) (rest := []) C0 (c6_countOf l E G fl X I zx0 (2 : Int32) zt0 ze2) hw 6 zt0 (by decide) rfl wd39 wd256 wd257 wd258 wd146 ⟨rfl, rfl⟩ hy6_countOf ⟨Nat.le_of_ble_eq_true rfl, Nat.le_of_ble_eq_true rfl⟩ rfl hl.1 (Nat.le_of_ble_eq_true rfl) ⟨Nat.zero_le _, Nat.zero_le _⟩ dX6_missedCues_2) hw (fun H locs hw => ?_)
  refine lv_aload_n hx hb dX6_missedCues_5 rfl (lv_at hl 0 rfl) ?_
  refine lv_iconst (v := (3 : Int32)) hx hb dX6_missedCues_6 (by decide) ?_
  obtain ⟨zv3, ze4, hf⟩ := nn_some hf
  refine x_ci (r := zv3) (I1 := I) (X1 := X) (x_runV (As := [.int (3 : Int32)]) (rest := [.int zv1]) C0 (c6_countOf l E G fl X I zx0 (3 : Int32) zt0 ze4) hw 6 zt0 (by decide) rfl wd39 wd256 wd257 wd258 wd146 ⟨rfl, rfl⟩ hy6_countOf ⟨Nat.le_of_ble_eq_true rfl, Nat.le_of_ble_eq_true rfl⟩ rfl hl.1 (Nat.le_of_ble_eq_true rfl) ⟨Nat.zero_le _, Nat.zero_le _⟩ dX6_missedCues_7) hw (fun H locs hw => ?_)
  refine lv_iadd hx hb dX6_missedCues_10 ?_
  obtain rfl := Option.some.inj hf
  exact x_iret C0 hr hw dX6_missedCues_11
noncomputable def m6_anyToCome_16 (fl : Nat) (len : Nat → Nat) (X : Xm) (I : Im) (zs0 : Int32) : Option (Int32) :=
  ck (isbl zs0 = true) <|
  some (zs0)
set_option maxHeartbeats 4000000 in
set_option maxRecDepth 100000 in
theorem w6_anyToCome_16 {p : Program} {l : Launch} {e : Env} {s : State} {m : MethodId} {args : Array Value} {below : List Frame} {meth : Method} {c : Code} {E : EN} {G : GM} {X : Xm} {I : Im} (C0 : CX p s m args meth c E cX6_anyToCome RX6 1) (hr : meth.sig.returnType = (some .boolean)) (hz : s.heap.size + 0 ≤ eB E + G.1) {rr : Int32} (fl : Nat) : ∀ (H : Heap) (locs : List Loc) (ls : Array Slot) (zs0 : Int32) , WD E G I X s.heap H locs → lv_has ls 1 [] → m6_anyToCome_16 fl G.2.2 X I zs0 = some rr → W p l e ({ frames := 0, cells := 0, slots := 0, locals := 0 } : Room) s m args below meth c H locs 0 0 (MQ below (QI E G rr I X) args s 0 0 (eA E)) (F0 m 16 ls [.int zs0]) := by
  intro H locs ls zs0 hw hl hf
  unfold m6_anyToCome_16 at hf
  have hx := C0.1; have hb := C0.2.1; have hml := C0.2.2.1; have hown := C0.2.2.2.1; have hts := C0.2.2.2.2.1
  obtain ⟨zhn1, hf⟩ := ck_some hf
  obtain rfl := Option.some.inj hf
  exact x_zret C0 hr (isbl_nar zhn1) hw dX6_anyToCome_16
noncomputable def m6_anyToCome (fl : Nat) (len : Nat → Nat) (X : Xm) (I : Im) (zx0 : Nat) : Option (Int32) :=
  if (gF I 97 zx0) ≤ (gF I 98 zx0) then
    m6_anyToCome_16 fl len X I (0 : Int32)
  else
    m6_anyToCome_16 fl len X I (1 : Int32)
theorem hy6_anyToCome : yX6_anyToCome.cls = RX6 ∧ yX6_anyToCome.cls ≠ "java/lang/invoke/MethodHandle" ∧ yX6_anyToCome.cls ≠ "java/lang/invoke/VarHandle" ∧ (parseMethodDescriptor yX6_anyToCome.desc).map (fun d => d.parameters.length) = some 0 := ⟨rfl, by decide +kernel, by decide +kernel, by decide +kernel⟩
set_option maxHeartbeats 4000000 in
set_option maxRecDepth 100000 in
theorem c6_anyToCome (l : Launch) (E : EN) (G : GM) (fl : Nat) (X : Xm) (I : Im) (zx0 : Nat) (zt0 : okA E G 6 zx0) {rr : Int32} (hf : m6_anyToCome fl G.2.2 X I zx0 = some rr) : MT l yX6_anyToCome cX6_anyToCome 1 (some .boolean) ({ frames := 0, cells := 0, slots := 0, locals := 0 } : Room) E G I X [.ref zx0] (QI E G rr I X) 0 0 := by
  refine Met.ofW (cc := cX6_anyToCome) (maxL := 1) (ret := (some .boolean)) (by decide +kernel) rfl ?_
  intro p e s m args below meth c s₁ B hml hv
  obtain ⟨rfl, hw0, hSE⟩ := hv
  have C0 : CX p s m ([.ref zx0] : List Value).toArray meth c E cX6_anyToCome RX6 1 := ⟨B.exec, B.bytes, hml, findClass_of_methodNamed B.named, fun w hw => atoms_spec (ws := WS yX6_anyToCome cX6_anyToCome 1 (some .boolean)) B.pre w (List.mem_cons_of_mem _ hw), B.notSynchronized, hSE⟩
  have hz : s.heap.size + 0 ≤ eB E + G.1 := Nat.le_of_eq hw0.2.1
  have hw : WD E G I X s.heap s.heap [] := ⟨hw0, va_S.rf⟩
  have hr := B.returns
  have hx := C0.1; have hb := C0.2.1; have hml := C0.2.2.1; have hown := C0.2.2.2.1; have hts := C0.2.2.2.2.1
  have hl := lv_entry ([.ref zx0]) (n := 1) (Nat.le_of_ble_eq_true rfl)
  rw [lg_entry_eq]
  generalize (lg_sl ([.ref zx0]) ++ List.replicate (1 - (lg_sl ([.ref zx0])).length) Slot.unset).toArray = ls at hl ⊢
  have hl : lv_has ls 1 [(0, .ref zx0)] := hl
  unfold m6_anyToCome at hf
  refine lv_aload_n hx hb dX6_anyToCome_0 rfl (lv_at hl 0 rfl) ?_
  refine xg_6_2 C0 hw zt0 wd169 dX6_anyToCome_1 ?_
  refine lv_aload_n hx hb dX6_anyToCome_4 rfl (lv_at hl 0 rfl) ?_
  refine xg_6_1 C0 hw zt0 wd168 dX6_anyToCome_5 ?_
  refine lv_icmp_ge (tgt := 15) hx hb dX6_anyToCome_8 (by decide) (fun zc1 => ?_) (fun zc1 => ?_)
  · have hf := ite_t hf zc1
    refine lv_iconst (v := (0 : Int32)) hx hb dX6_anyToCome_15 (by decide) ?_
    exact w6_anyToCome_16 C0 hr hz fl _ _ _ (0 : Int32) hw (lv_sub hl [] rfl) hf
  · have hf := ite_f hf zc1
    refine lv_iconst (v := (1 : Int32)) hx hb dX6_anyToCome_11 (by decide) ?_
    refine lv_goto (tgt := 16) hx hb dX6_anyToCome_12 (by decide) ?_
    exact w6_anyToCome_16 C0 hr hz fl _ _ _ (1 : Int32) hw (lv_sub hl [] rfl) hf
noncomputable def m4_reelAt_23 (fl : Nat) (len : Nat → Nat) (X : Xm) (I : Im) (zs0 : Option Nat) : Option (Option Nat) :=
  some (zs0)
set_option maxHeartbeats 4000000 in
set_option maxRecDepth 100000 in
theorem w4_reelAt_23 {p : Program} {l : Launch} {e : Env} {s : State} {m : MethodId} {args : Array Value} {below : List Frame} {meth : Method} {c : Code} {E : EN} {G : GM} {X : Xm} {I : Im} (C0 : CX p s m args meth c E cX4_reelAt RX4 2) (hr : meth.sig.returnType = (some (.object "RadioCues$Reel"))) (hz : s.heap.size + 0 ≤ eB E + G.1) {rr : Option Nat} (fl : Nat) : ∀ (H : Heap) (locs : List Loc) (ls : Array Slot) (zs0 : Option Nat) (zts0 : ∀ a, zs0 = some a → okA E G 5 a), WD E G I X s.heap H locs → lv_has ls 2 [] → m4_reelAt_23 fl G.2.2 X I zs0 = some rr → W p l e ({ frames := 0, cells := 0, slots := 0, locals := 0 } : Room) s m args below meth c H locs 0 0 (MQ below (QO E G 5 rr I X) args s 0 0 (eA E)) (F0 m 23 ls [va_rf zs0]) := by
  intro H locs ls zs0 zts0 hw hl hf
  unfold m4_reelAt_23 at hf
  have hx := C0.1; have hb := C0.2.1; have hml := C0.2.2.1; have hown := C0.2.2.2.1; have hts := C0.2.2.2.2.1
  obtain rfl := Option.some.inj hf
  exact x_oret (r := zs0) (k := 5) C0 hr zts0 hw dX4_reelAt_23
noncomputable def m4_reelAt_13 (fl : Nat) (len : Nat → Nat) (X : Xm) (I : Im) : Option (Option Nat) :=
  m4_reelAt_23 fl len X I none
set_option maxHeartbeats 4000000 in
set_option maxRecDepth 100000 in
theorem w4_reelAt_13 {p : Program} {l : Launch} {e : Env} {s : State} {m : MethodId} {args : Array Value} {below : List Frame} {meth : Method} {c : Code} {E : EN} {G : GM} {X : Xm} {I : Im} (C0 : CX p s m args meth c E cX4_reelAt RX4 2) (hr : meth.sig.returnType = (some (.object "RadioCues$Reel"))) (hz : s.heap.size + 0 ≤ eB E + G.1) {rr : Option Nat} (fl : Nat) : ∀ (H : Heap) (locs : List Loc) (ls : Array Slot) , WD E G I X s.heap H locs → lv_has ls 2 [] → m4_reelAt_13 fl G.2.2 X I = some rr → W p l e ({ frames := 0, cells := 0, slots := 0, locals := 0 } : Room) s m args below meth c H locs 0 0 (MQ below (QO E G 5 rr I X) args s 0 0 (eA E)) (F0 m 13 ls []) := by
  intro H locs ls hw hl hf
  unfold m4_reelAt_13 at hf
  have hx := C0.1; have hb := C0.2.1; have hml := C0.2.2.1; have hown := C0.2.2.2.1; have hts := C0.2.2.2.2.1
  refine lv_null hx hb dX4_reelAt_13 ?_
  refine lv_goto (tgt := 23) hx hb dX4_reelAt_14 (by decide) ?_
  exact w4_reelAt_23 C0 hr hz fl _ _ _ none (fun a h => by cases h) hw (lv_sub hl [] rfl) hf
noncomputable def m4_reelAt (fl : Nat) (len : Nat → Nat) (X : Xm) (I : Im) (zx0 : Nat) (zx1 : Int32) : Option (Option Nat) :=
  if zx1 < 0 then
    m4_reelAt_13 fl len X I 
  else
    nn (gR X 66 zx0) fun zv2 =>
    if zx1 < (nI (len zv2)) then
      ck (inb zx1 (len zv2) = true) <|
      nn (gQ X zv2 (zx1).toNatClampNeg) fun zv5 =>
      m4_reelAt_23 fl len X I (some zv5)
    else
      m4_reelAt_13 fl len X I 
theorem hy4_reelAt : yX4_reelAt.cls = RX4 ∧ yX4_reelAt.cls ≠ "java/lang/invoke/MethodHandle" ∧ yX4_reelAt.cls ≠ "java/lang/invoke/VarHandle" ∧ (parseMethodDescriptor yX4_reelAt.desc).map (fun d => d.parameters.length) = some 1 := ⟨rfl, by decide +kernel, by decide +kernel, by decide +kernel⟩
set_option maxHeartbeats 4000000 in
set_option maxRecDepth 100000 in
theorem c4_reelAt (l : Launch) (E : EN) (G : GM) (fl : Nat) (X : Xm) (I : Im) (zx0 : Nat) (zx1 : Int32) (zt0 : okA E G 4 zx0) {rr : Option Nat} (hf : m4_reelAt fl G.2.2 X I zx0 zx1 = some rr) : MT l yX4_reelAt cX4_reelAt 2 (some (.object "RadioCues$Reel")) ({ frames := 0, cells := 0, slots := 0, locals := 0 } : Room) E G I X [.ref zx0, .int zx1] (QO E G 5 rr I X) 0 0 := by
  refine Met.ofW (cc := cX4_reelAt) (maxL := 2) (ret := (some (.object "RadioCues$Reel"))) (by decide +kernel) rfl ?_
  intro p e s m args below meth c s₁ B hml hv
  obtain ⟨rfl, hw0, hSE⟩ := hv
  have C0 : CX p s m ([.ref zx0, .int zx1] : List Value).toArray meth c E cX4_reelAt RX4 2 := ⟨B.exec, B.bytes, hml, findClass_of_methodNamed B.named, fun w hw => atoms_spec (ws := WS yX4_reelAt cX4_reelAt 2 (some (.object "RadioCues$Reel"))) B.pre w (List.mem_cons_of_mem _ hw), B.notSynchronized, hSE⟩
  have hz : s.heap.size + 0 ≤ eB E + G.1 := Nat.le_of_eq hw0.2.1
  have hw : WD E G I X s.heap s.heap [] := ⟨hw0, va_S.rf⟩
  have hr := B.returns
  have hx := C0.1; have hb := C0.2.1; have hml := C0.2.2.1; have hown := C0.2.2.2.1; have hts := C0.2.2.2.2.1
  have hl := lv_entry ([.ref zx0, .int zx1]) (n := 2) (Nat.le_of_ble_eq_true rfl)
  rw [lg_entry_eq]
  generalize (lg_sl ([.ref zx0, .int zx1]) ++ List.replicate (2 - (lg_sl ([.ref zx0, .int zx1])).length) Slot.unset).toArray = ls at hl ⊢
  have hl : lv_has ls 2 [(0, .ref zx0), (1, .int zx1)] := hl
  unfold m4_reelAt at hf
  refine lv_iload_n hx hb dX4_reelAt_0 rfl (lv_at hl 1 rfl) ?_
  refine lv_if_lt (tgt := 13) hx hb dX4_reelAt_1 (by decide) (fun zc1 => ?_) (fun zc1 => ?_)
  · have hf := ite_t hf zc1
    exact w4_reelAt_13 C0 hr hz fl _ _ _ hw (lv_sub hl [] rfl) hf
  · have hf := ite_f hf zc1
    refine lv_iload_n hx hb dX4_reelAt_4 rfl (lv_at hl 1 rfl) ?_
    refine lv_aload_n hx hb dX4_reelAt_5 rfl (lv_at hl 0 rfl) ?_
    obtain ⟨zv2, ezv2, hf⟩ := nn_some hf
    have tzv2 : okA E G 16 zv2 := wt_r hw ezv2
    refine xg_4_2 C0 hw zt0 wd149 ezv2 dX4_reelAt_6 ?_
    refine x_alen C0 hw 16 tzv2 (by decide) rfl dX4_reelAt_9 ?_
    refine lv_icmp_lt (tgt := 17) hx hb dX4_reelAt_10 (by decide) (fun zc3 => ?_) (fun zc3 => ?_)
    · have hf := ite_t hf zc3
      refine lv_aload_n hx hb dX4_reelAt_17 rfl (lv_at hl 0 rfl) ?_
      refine xg_4_2 C0 hw zt0 wd149 ezv2 dX4_reelAt_18 ?_
      refine lv_iload_n hx hb dX4_reelAt_21 rfl (lv_at hl 1 rfl) ?_
      obtain ⟨zhb4, hf⟩ := ck_some hf
      obtain ⟨zv5, ezv5, hf⟩ := nn_some hf
      have tzv5 : okA E G 5 zv5 := wt_q hw tzv2 ezv5
      refine x_qald C0 hw 16 tzv2 (by decide) rfl zhb4 ezv5 dX4_reelAt_22 ?_
      exact w4_reelAt_23 C0 hr hz fl _ _ _ (some zv5) (fun a h => by cases h; exact tzv5) hw (lv_sub hl [] rfl) hf
    · have hf := ite_f hf zc3
      exact w4_reelAt_13 C0 hr hz fl _ _ _ hw (lv_sub hl [] rfl) hf
noncomputable def m5_soundNumbered_31 (fl : Nat) (len : Nat → Nat) (X : Xm) (I : Im) (zs0 : Option Nat) : Option (Option Nat) :=
  some (zs0)
set_option maxHeartbeats 4000000 in
set_option maxRecDepth 100000 in
theorem w5_soundNumbered_31 {p : Program} {l : Launch} {e : Env} {s : State} {m : MethodId} {args : Array Value} {below : List Frame} {meth : Method} {c : Code} {E : EN} {G : GM} {X : Xm} {I : Im} (C0 : CX p s m args meth c E cX5_soundNumbered RX5 2) (hr : meth.sig.returnType = (some (.object "RadioCues$Sound"))) (hz : s.heap.size + 0 ≤ eB E + G.1) {rr : Option Nat} (fl : Nat) : ∀ (H : Heap) (locs : List Loc) (ls : Array Slot) (zs0 : Option Nat) (zts0 : ∀ a, zs0 = some a → okA E G 7 a), WD E G I X s.heap H locs → lv_has ls 2 [] → m5_soundNumbered_31 fl G.2.2 X I zs0 = some rr → W p l e ({ frames := 0, cells := 0, slots := 0, locals := 0 } : Room) s m args below meth c H locs 0 0 (MQ below (QO E G 7 rr I X) args s 0 0 (eA E)) (F0 m 31 ls [va_rf zs0]) := by
  intro H locs ls zs0 zts0 hw hl hf
  unfold m5_soundNumbered_31 at hf
  have hx := C0.1; have hb := C0.2.1; have hml := C0.2.2.1; have hown := C0.2.2.2.1; have hts := C0.2.2.2.2.1
  obtain rfl := Option.some.inj hf
  exact x_oret (r := zs0) (k := 7) C0 hr zts0 hw dX5_soundNumbered_31
noncomputable def m5_soundNumbered_21 (fl : Nat) (len : Nat → Nat) (X : Xm) (I : Im) : Option (Option Nat) :=
  m5_soundNumbered_31 fl len X I none
set_option maxHeartbeats 4000000 in
set_option maxRecDepth 100000 in
theorem w5_soundNumbered_21 {p : Program} {l : Launch} {e : Env} {s : State} {m : MethodId} {args : Array Value} {below : List Frame} {meth : Method} {c : Code} {E : EN} {G : GM} {X : Xm} {I : Im} (C0 : CX p s m args meth c E cX5_soundNumbered RX5 2) (hr : meth.sig.returnType = (some (.object "RadioCues$Sound"))) (hz : s.heap.size + 0 ≤ eB E + G.1) {rr : Option Nat} (fl : Nat) : ∀ (H : Heap) (locs : List Loc) (ls : Array Slot) , WD E G I X s.heap H locs → lv_has ls 2 [] → m5_soundNumbered_21 fl G.2.2 X I = some rr → W p l e ({ frames := 0, cells := 0, slots := 0, locals := 0 } : Room) s m args below meth c H locs 0 0 (MQ below (QO E G 7 rr I X) args s 0 0 (eA E)) (F0 m 21 ls []) := by
  intro H locs ls hw hl hf
  unfold m5_soundNumbered_21 at hf
  have hx := C0.1; have hb := C0.2.1; have hml := C0.2.2.1; have hown := C0.2.2.2.1; have hts := C0.2.2.2.2.1
  refine lv_null hx hb dX5_soundNumbered_21 ?_
  refine lv_goto (tgt := 31) hx hb dX5_soundNumbered_22 (by decide) ?_
  exact w5_soundNumbered_31 C0 hr hz fl _ _ _ none (fun a h => by cases h) hw (lv_sub hl [] rfl) hf
noncomputable def m5_soundNumbered (fl : Nat) (len : Nat → Nat) (X : Xm) (I : Im) (zx0 : Nat) (zx1 : Int32) : Option (Option Nat) :=
  if zx1 < 0 then
    m5_soundNumbered_21 fl len X I 
  else
    if (gF I 81 zx0) ≤ zx1 then
      m5_soundNumbered_21 fl len X I 
    else
      nn (gR X 80 zx0) fun zv3 =>
      if zx1 < (nI (len zv3)) then
        ck (inb zx1 (len zv3) = true) <|
        nn (gQ X zv3 (zx1).toNatClampNeg) fun zv6 =>
        m5_soundNumbered_31 fl len X I (some zv6)
      else
        m5_soundNumbered_21 fl len X I 
theorem hy5_soundNumbered : yX5_soundNumbered.cls = RX5 ∧ yX5_soundNumbered.cls ≠ "java/lang/invoke/MethodHandle" ∧ yX5_soundNumbered.cls ≠ "java/lang/invoke/VarHandle" ∧ (parseMethodDescriptor yX5_soundNumbered.desc).map (fun d => d.parameters.length) = some 1 := ⟨rfl, by decide +kernel, by decide +kernel, by decide +kernel⟩
set_option maxHeartbeats 4000000 in
set_option maxRecDepth 100000 in
theorem c5_soundNumbered (l : Launch) (E : EN) (G : GM) (fl : Nat) (X : Xm) (I : Im) (zx0 : Nat) (zx1 : Int32) (zt0 : okA E G 5 zx0) {rr : Option Nat} (hf : m5_soundNumbered fl G.2.2 X I zx0 zx1 = some rr) : MT l yX5_soundNumbered cX5_soundNumbered 2 (some (.object "RadioCues$Sound")) ({ frames := 0, cells := 0, slots := 0, locals := 0 } : Room) E G I X [.ref zx0, .int zx1] (QO E G 7 rr I X) 0 0 := by
  refine Met.ofW (cc := cX5_soundNumbered) (maxL := 2) (ret := (some (.object "RadioCues$Sound"))) (by decide +kernel) rfl ?_
  intro p e s m args below meth c s₁ B hml hv
  obtain ⟨rfl, hw0, hSE⟩ := hv
  have C0 : CX p s m ([.ref zx0, .int zx1] : List Value).toArray meth c E cX5_soundNumbered RX5 2 := ⟨B.exec, B.bytes, hml, findClass_of_methodNamed B.named, fun w hw => atoms_spec (ws := WS yX5_soundNumbered cX5_soundNumbered 2 (some (.object "RadioCues$Sound"))) B.pre w (List.mem_cons_of_mem _ hw), B.notSynchronized, hSE⟩
  have hz : s.heap.size + 0 ≤ eB E + G.1 := Nat.le_of_eq hw0.2.1
  have hw : WD E G I X s.heap s.heap [] := ⟨hw0, va_S.rf⟩
  have hr := B.returns
  have hx := C0.1; have hb := C0.2.1; have hml := C0.2.2.1; have hown := C0.2.2.2.1; have hts := C0.2.2.2.2.1
  have hl := lv_entry ([.ref zx0, .int zx1]) (n := 2) (Nat.le_of_ble_eq_true rfl)
  rw [lg_entry_eq]
  generalize (lg_sl ([.ref zx0, .int zx1]) ++ List.replicate (2 - (lg_sl ([.ref zx0, .int zx1])).length) Slot.unset).toArray = ls at hl ⊢
  have hl : lv_has ls 2 [(0, .ref zx0), (1, .int zx1)] := hl
  unfold m5_soundNumbered at hf
  refine lv_iload_n hx hb dX5_soundNumbered_0 rfl (lv_at hl 1 rfl) ?_
  refine lv_if_lt (tgt := 21) hx hb dX5_soundNumbered_1 (by decide) (fun zc1 => ?_) (fun zc1 => ?_)
  · have hf := ite_t hf zc1
    exact w5_soundNumbered_21 C0 hr hz fl _ _ _ hw (lv_sub hl [] rfl) hf
  · have hf := ite_f hf zc1
    refine lv_iload_n hx hb dX5_soundNumbered_4 rfl (lv_at hl 1 rfl) ?_
    refine lv_aload_n hx hb dX5_soundNumbered_5 rfl (lv_at hl 0 rfl) ?_
    refine xg_5_1 C0 hw zt0 wd177 dX5_soundNumbered_6 ?_
    refine lv_icmp_ge (tgt := 21) hx hb dX5_soundNumbered_9 (by decide) (fun zc2 => ?_) (fun zc2 => ?_)
    · have hf := ite_t hf zc2
      exact w5_soundNumbered_21 C0 hr hz fl _ _ _ hw (lv_sub hl [] rfl) hf
    · have hf := ite_f hf zc2
      refine lv_iload_n hx hb dX5_soundNumbered_12 rfl (lv_at hl 1 rfl) ?_
      refine lv_aload_n hx hb dX5_soundNumbered_13 rfl (lv_at hl 0 rfl) ?_
      obtain ⟨zv3, ezv3, hf⟩ := nn_some hf
      have tzv3 : okA E G 17 zv3 := wt_r hw ezv3
      refine xg_5_0 C0 hw zt0 wd137 ezv3 dX5_soundNumbered_14 ?_
      refine x_alen C0 hw 17 tzv3 (by decide) rfl dX5_soundNumbered_17 ?_
      refine lv_icmp_lt (tgt := 25) hx hb dX5_soundNumbered_18 (by decide) (fun zc4 => ?_) (fun zc4 => ?_)
      · have hf := ite_t hf zc4
        refine lv_aload_n hx hb dX5_soundNumbered_25 rfl (lv_at hl 0 rfl) ?_
        refine xg_5_0 C0 hw zt0 wd137 ezv3 dX5_soundNumbered_26 ?_
        refine lv_iload_n hx hb dX5_soundNumbered_29 rfl (lv_at hl 1 rfl) ?_
        obtain ⟨zhb5, hf⟩ := ck_some hf
        obtain ⟨zv6, ezv6, hf⟩ := nn_some hf
        have tzv6 : okA E G 7 zv6 := wt_q hw tzv3 ezv6
        refine x_qald C0 hw 17 tzv3 (by decide) rfl zhb5 ezv6 dX5_soundNumbered_30 ?_
        exact w5_soundNumbered_31 C0 hr hz fl _ _ _ (some zv6) (fun a h => by cases h; exact tzv6) hw (lv_sub hl [] rfl) hf
      · have hf := ite_f hf zc4
        exact w5_soundNumbered_21 C0 hr hz fl _ _ _ hw (lv_sub hl [] rfl) hf
