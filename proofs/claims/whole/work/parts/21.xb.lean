noncomputable def m4_secondsHeard (fl : Nat) (len : Nat → Nat) (X : Xm) (I : Im) (zx0 : Nat) : Option (Int32) :=
  nn (gR X 71 zx0) fun zv1 =>
  some ((if (0 : Int32) < (if (nI (len zv1)) < (gF I 72 zx0) then (nI (len zv1)) else (gF I 72 zx0)) then (if (nI (len zv1)) < (gF I 72 zx0) then (nI (len zv1)) else (gF I 72 zx0)) else (0 : Int32)))
theorem hy4_secondsHeard : yX4_secondsHeard.cls = RX4 ∧ yX4_secondsHeard.cls ≠ "java/lang/invoke/MethodHandle" ∧ yX4_secondsHeard.cls ≠ "java/lang/invoke/VarHandle" ∧ (parseMethodDescriptor yX4_secondsHeard.desc).map (fun d => d.parameters.length) = some 0 := ⟨rfl, by decide +kernel, by decide +kernel, by decide +kernel⟩
set_option maxHeartbeats 4000000 in
set_option maxRecDepth 100000 in
theorem c4_secondsHeard (l : Launch) (E : EN) (G : GM) (fl : Nat) (X : Xm) (I : Im) (zx0 : Nat) (zt0 : okA E G 4 zx0) {rr : Int32} (hf : m4_secondsHeard fl G.2.2 X I zx0 = some rr) : MT l yX4_secondsHeard cX4_secondsHeard 1 (some .int) ({ frames := 1, cells := 0, slots := 0, locals := 21 } : Room) E G I X [.ref zx0] (QI E G rr I X) 0 0 := by
  refine Met.ofW (cc := cX4_secondsHeard) (maxL := 1) (ret := (some .int)) (by decide +kernel) rfl ?_
  intro p e s m args below meth c s₁ B hml hv
  obtain ⟨rfl, hw0, hSE⟩ := hv
  have C0 : CX p s m ([.ref zx0] : List Value).toArray meth c E cX4_secondsHeard RX4 1 := ⟨B.exec, B.bytes, hml, findClass_of_methodNamed B.named, fun w hw => atoms_spec (ws := WS yX4_secondsHeard cX4_secondsHeard 1 (some .int)) B.pre w (List.mem_cons_of_mem _ hw), B.notSynchronized, hSE⟩
  have hz : s.heap.size + 0 ≤ eB E + G.1 := Nat.le_of_eq hw0.2.1
  have hw : WD E G I X s.heap s.heap [] := ⟨hw0, va_S.rf⟩
  have hr := B.returns
  have hx := C0.1; have hb := C0.2.1; have hml := C0.2.2.1; have hown := C0.2.2.2.1; have hts := C0.2.2.2.2.1
  have hl := lv_entry ([.ref zx0]) (n := 1) (Nat.le_of_ble_eq_true rfl)
  rw [lg_entry_eq]
  generalize (lg_sl ([.ref zx0]) ++ List.replicate (1 - (lg_sl ([.ref zx0])).length) Slot.unset).toArray = ls at hl ⊢
  have hl : lv_has ls 1 [(0, .ref zx0)] := hl
  unfold m4_secondsHeard at hf
  refine lv_iconst (v := (0 : Int32)) hx hb dX4_secondsHeard_0 (by decide) ?_
  refine lv_aload_n hx hb dX4_secondsHeard_1 rfl (lv_at hl 0 rfl) ?_
  refine xg_4_8 C0 hw zt0 wd337 dX4_secondsHeard_2 ?_
  refine lv_aload_n hx hb dX4_secondsHeard_5 rfl (lv_at hl 0 rfl) ?_
  obtain ⟨zv1, ezv1, hf⟩ := nn_some hf
  have tzv1 : okA E G 11 zv1 := wt_r hw ezv1
  refine xg_4_7 C0 hw zt0 wd311 ezv1 dX4_secondsHeard_6 ?_
  refine x_alen C0 hw 11 tzv1 (by decide) rfl dX4_secondsHeard_9 ?_
  refine va_mmin hx hb (hml.trans hl.1.symm) hown (hts _ wd338) (hts _ wd190) (hts _ wd191) (hts _ wd192) (Nat.le_of_ble_eq_true rfl) (Nat.le_of_ble_eq_true rfl) (Nat.zero_le _) (Nat.zero_le _) dX4_secondsHeard_10 ?_
  refine va_mmax hx hb (hml.trans hl.1.symm) hown (hts _ wd339) (hts _ wd194) (hts _ wd191) (hts _ wd195) (Nat.le_of_ble_eq_true rfl) (Nat.le_of_ble_eq_true rfl) (Nat.zero_le _) (Nat.zero_le _) dX4_secondsHeard_13 ?_
  obtain rfl := Option.some.inj hf
  exact x_iret C0 hr hw dX4_secondsHeard_16
noncomputable def m4_copyFrom_63b (fl : Nat) (len : Nat → Nat) (X : Xm) (zr63 : Im → Nat → Nat → Int32 → Nat → Nat → Nat → Option (Im)) (I : Im) (zx0 : Nat) (zx1 : Nat) (zx2 : Int32) (p_64 : Nat) (p_65 : Nat) (p_66 : Nat) : Option (Im) :=
  nn (gR X 67 zx0) fun zv1 =>
  if (nI (len zv1)) ≤ zx2 then
    nn (gR X 68 zx0) fun zv3 =>
    nn (gR X 68 zx1) fun zv4 =>
    nn (m2_copyFrom fl len X I zv3 zv4) fun zI5 =>
    nn (gR X 69 zx1) fun zv7 =>
    nn (gR X 69 zx0) fun zv8 =>
    ck (cpok (0 : Int32) (0 : Int32) (nI (len zv8)) (len zv7) (len zv8) = true) <|
    lt (pAr zI5 zv8 (va_cpy (gA zI5 zv7) (gA zI5 zv8) ((0 : Int32)).toNatClampNeg ((0 : Int32)).toNatClampNeg ((nI (len zv8))).toNatClampNeg)) fun zI10 =>
    lt (pF zI10 70 zx0 (gF zI10 70 zx1)) fun zI11 =>
    nn (gR X 71 zx1) fun zv12 =>
    nn (gR X 71 zx0) fun zv13 =>
    nn (m4_secondsHeard fl len X zI11 zx1) fun zv14 =>
    ck (cpok (0 : Int32) (0 : Int32) zv14 (len zv12) (len zv13) = true) <|
    lt (pAr zI11 zv13 (va_cpy (gA zI11 zv12) (gA zI11 zv13) ((0 : Int32)).toNatClampNeg ((0 : Int32)).toNatClampNeg (zv14).toNatClampNeg)) fun zI17 =>
    lt (pF zI17 72 zx0 (gF zI17 72 zx1)) fun zI18 =>
    some (zI18)
  else
    ck (inb zx2 (len zv1) = true) <|
    nn (gQ X zv1 (zx2).toNatClampNeg) fun zv20 =>
    nn (gR X 67 zx1) fun zv21 =>
    ck (inb zx2 (len zv21) = true) <|
    nn (gQ X zv21 (zx2).toNatClampNeg) fun zv23 =>
    lt (pF I 0 zv20 (gF I 0 zv23)) fun zI24 =>
    nn (gQ X zv1 (zx2).toNatClampNeg) fun zv25 =>
    nn (gR X 67 zx1) fun zv26 =>
    ck (inb zx2 (len zv26) = true) <|
    nn (gQ X zv26 (zx2).toNatClampNeg) fun zv28 =>
    lt (pF zI24 1 zv25 (gF zI24 1 zv28)) fun zI29 =>
    lt (zx2 + 1) fun zv30 =>
    zr63 zI29 zx0 zx1 zv30 p_64 p_65 p_66
noncomputable def m4_copyFrom_63 (fl : Nat) (len : Nat → Nat) (X : Xm) (n : Nat) : Im → Nat → Nat → Int32 → Nat → Nat → Nat → Option (Im) :=
  Nat.rec (fun _ _ _ _ _ _ _ => none) (fun _ r => m4_copyFrom_63b fl len X r) n
set_option maxHeartbeats 4000000 in
set_option maxRecDepth 100000 in
theorem w4_copyFrom_63b {p : Program} {l : Launch} {e : Env} {s : State} {m : MethodId} {args : Array Value} {below : List Frame} {meth : Method} {c : Code} {E : EN} {G : GM} {X : Xm} (C0 : CX p s m args meth c E cX4_copyFrom RX4 3) (hr : meth.sig.returnType = none) (hz : s.heap.size + 0 ≤ eB E + G.1) {rr : Im} (fl : Nat) (zr63 : Im → Nat → Nat → Int32 → Nat → Nat → Nat → Option (Im)) (zhr63 : ∀ (I : Im) (H : Heap) (locs : List Loc) (ls : Array Slot) (zx0 : Nat) (zx1 : Nat) (zx2 : Int32) (p_64 : Nat) (p_65 : Nat) (p_66 : Nat) (zt0 : okA E G 4 zx0) (zt1 : okA E G 4 zx1) (ep_64 : gR X 64 zx0 = some p_64) (tp_64 : okA E G 11 p_64) (ep_65 : gR X 65 zx0 = some p_65) (tp_65 : okA E G 6 p_65) (ep_66 : gR X 66 zx0 = some p_66) (tp_66 : okA E G 16 p_66), WD E G I X s.heap H locs → lv_has ls 3 [(0, .ref zx0), (1, .ref zx1), (2, .int zx2)] → zr63 I zx0 zx1 zx2 p_64 p_65 p_66 = some rr → W p l e ({ frames := 2, cells := 0, slots := 0, locals := 48 } : Room) s m args below meth c H locs 0 0 (MQ below (QV E G rr X) args s 0 0 (eA E)) (F0 m 63 ls [])) : ∀ (I : Im) (H : Heap) (locs : List Loc) (ls : Array Slot) (zx0 : Nat) (zx1 : Nat) (zx2 : Int32) (p_64 : Nat) (p_65 : Nat) (p_66 : Nat) (zt0 : okA E G 4 zx0) (zt1 : okA E G 4 zx1) (ep_64 : gR X 64 zx0 = some p_64) (tp_64 : okA E G 11 p_64) (ep_65 : gR X 65 zx0 = some p_65) (tp_65 : okA E G 6 p_65) (ep_66 : gR X 66 zx0 = some p_66) (tp_66 : okA E G 16 p_66), WD E G I X s.heap H locs → lv_has ls 3 [(0, .ref zx0), (1, .ref zx1), (2, .int zx2)] → m4_copyFrom_63b fl G.2.2 X zr63 I zx0 zx1 zx2 p_64 p_65 p_66 = some rr → W p l e ({ frames := 2, cells := 0, slots := 0, locals := 48 } : Room) s m args below meth c H locs 0 0 (MQ below (QV E G rr X) args s 0 0 (eA E)) (F0 m 63 ls []) := by
  intro I H locs ls zx0 zx1 zx2 p_64 p_65 p_66 zt0 zt1 ep_64 tp_64 ep_65 tp_65 ep_66 tp_66 hw hl hf
  unfold m4_copyFrom_63b at hf
  have hx := C0.1; have hb := C0.2.1; have hml := C0.2.2.1; have hown := C0.2.2.2.1; have hts := C0.2.2.2.2.1
  refine lv_iload_n hx hb dX4_copyFrom_63 rfl (lv_at hl 2 rfl) ?_
  refine lv_aload_n hx hb dX4_copyFrom_64 rfl (lv_at hl 0 rfl) ?_
  obtain ⟨zv1, ezv1, hf⟩ := nn_some hf
  have tzv1 : okA E G 13 zv1 := wt_r hw ezv1
  refine xg_4_3 C0 hw zt0 wd305 ezv1 dX4_copyFrom_65 ?_
  refine x_alen C0 hw 13 tzv1 (by decide) rfl dX4_copyFrom_68 ?_
  refine lv_icmp_ge (tgt := 114) hx hb dX4_copyFrom_69 (by decide) (fun zc2 => ?_) (fun zc2 => ?_)
  · have hf := ite_t hf zc2
    refine lv_aload_n hx hb dX4_copyFrom_114 rfl (lv_at hl 0 rfl) ?_
    obtain ⟨zv3, ezv3, hf⟩ := nn_some hf
    have tzv3 : okA E G 2 zv3 := wt_r hw ezv3
    refine xg_4_4 C0 hw zt0 wd309 ezv3 dX4_copyFrom_115 ?_
    refine lv_aload_n hx hb dX4_copyFrom_118 rfl (lv_at hl 1 rfl) ?_
    obtain ⟨zv4, ezv4, hf⟩ := nn_some hf
    have tzv4 : okA E G 2 zv4 := wt_r hw ezv4
    refine xg_4_4 C0 hw zt1 wd309 ezv4 dX4_copyFrom_119 ?_
    obtain ⟨zI5, ze6, hf⟩ := nn_some hf
    refine x_cv (I1 := zI5) (X1 := X) (x_runV (As := [.ref zv4]) (rest := []) C0 (c2_copyFrom l E G fl X I zv3 zv4 tzv3 tzv4 ze6) hw 2 tzv3 (by decide) rfl wd6 wd350 wd351 wd352 wd308 ⟨rfl, rfl⟩ hy2_copyFrom ⟨Nat.le_of_ble_eq_true rfl, Nat.le_of_ble_eq_true rfl⟩ rfl hl.1 (Nat.le_of_ble_eq_true rfl) ⟨Nat.zero_le _, Nat.zero_le _⟩ dX4_copyFrom_122) hw (fun H locs hw => ?_)
    refine lv_aload_n hx hb dX4_copyFrom_125 rfl (lv_at hl 1 rfl) ?_
    obtain ⟨zv7, ezv7, hf⟩ := nn_some hf
    have tzv7 : okA E G 11 zv7 := wt_r hw ezv7
    refine xg_4_5 C0 hw zt1 wd310 ezv7 dX4_copyFrom_126 ?_
    refine lv_iconst (v := (0 : Int32)) hx hb dX4_copyFrom_129 (by decide) ?_
    refine lv_aload_n hx hb dX4_copyFrom_130 rfl (lv_at hl 0 rfl) ?_
    obtain ⟨zv8, ezv8, hf⟩ := nn_some hf
    have tzv8 : okA E G 11 zv8 := wt_r hw ezv8
    refine xg_4_5 C0 hw zt0 wd310 ezv8 dX4_copyFrom_131 ?_
    refine lv_iconst (v := (0 : Int32)) hx hb dX4_copyFrom_134 (by decide) ?_
    refine lv_aload_n hx hb dX4_copyFrom_135 rfl (lv_at hl 0 rfl) ?_
    refine xg_4_5 C0 hw zt0 wd310 ezv8 dX4_copyFrom_136 ?_
    refine x_alen C0 hw 11 tzv8 (by decide) rfl dX4_copyFrom_139 ?_
    obtain ⟨zhc9, hf⟩ := ck_some hf
    obtain ⟨zI10, ezI10⟩ : ∃ y : Im, y = pAr zI5 zv8 (va_cpy (gA zI5 zv7) (gA zI5 zv8) ((0 : Int32)).toNatClampNeg ((0 : Int32)).toNatClampNeg ((nI (G.2.2 zv8))).toNatClampNeg) := ⟨_, rfl⟩
    have hf := lt_at hf ezI10
    refine x_copy C0 hz hw tzv7 tzv8 zhc9 (hml.trans hl.1.symm) wd340 (Nat.le_of_ble_eq_true rfl) (Nat.le_of_ble_eq_true rfl) dX4_copyFrom_140 ezI10 (fun H locs hw => ?_)
    refine lv_aload_n hx hb dX4_copyFrom_143 rfl (lv_at hl 0 rfl) ?_
    refine lv_aload_n hx hb dX4_copyFrom_144 rfl (lv_at hl 1 rfl) ?_
    refine xg_4_6 C0 hw zt1 wd343 dX4_copyFrom_145 ?_
    obtain ⟨zI11, ezI11⟩ : ∃ y : Im, y = pF zI10 70 zx0 (gF zI10 70 zx1) := ⟨_, rfl⟩
    have hf := lt_at hf ezI11
    refine xp_4_6 C0 hz hw zt0 rfl rfl wd343 dX4_copyFrom_148 ezI11 (fun H locs hw => ?_)
    refine lv_aload_n hx hb dX4_copyFrom_151 rfl (lv_at hl 1 rfl) ?_
    obtain ⟨zv12, ezv12, hf⟩ := nn_some hf
    have tzv12 : okA E G 11 zv12 := wt_r hw ezv12
    refine xg_4_7 C0 hw zt1 wd311 ezv12 dX4_copyFrom_152 ?_
    refine lv_iconst (v := (0 : Int32)) hx hb dX4_copyFrom_155 (by decide) ?_
    refine lv_aload_n hx hb dX4_copyFrom_156 rfl (lv_at hl 0 rfl) ?_
    obtain ⟨zv13, ezv13, hf⟩ := nn_some hf
    have tzv13 : okA E G 11 zv13 := wt_r hw ezv13
    refine xg_4_7 C0 hw zt0 wd311 ezv13 dX4_copyFrom_157 ?_
    refine lv_iconst (v := (0 : Int32)) hx hb dX4_copyFrom_160 (by decide) ?_
    refine lv_aload_n hx hb dX4_copyFrom_161 rfl (lv_at hl 1 rfl) ?_
    obtain ⟨zv14, ze15, hf⟩ := nn_some hf
    refine x_ci (r := zv14) (I1 := zI11) (X1 := X) (x_runV (As := []) (rest := [.int (0 : Int32), .ref zv13, .int (0 : Int32), .ref zv12]) C0 (c4_secondsHeard l E G fl X zI11 zx1 zt1 ze15) hw 4 zt1 (by decide) rfl wd39 wd353 wd354 wd355 wd356 ⟨rfl, rfl⟩ hy4_secondsHeard ⟨Nat.le_of_ble_eq_true rfl, Nat.le_of_ble_eq_true rfl⟩ rfl hl.1 (Nat.le_of_ble_eq_true rfl) ⟨Nat.zero_le _, Nat.zero_le _⟩ dX4_copyFrom_162) hw (fun H locs hw => ?_)
    obtain ⟨zhc16, hf⟩ := ck_some hf
    obtain ⟨zI17, ezI17⟩ : ∃ y : Im, y = pAr zI11 zv13 (va_cpy (gA zI11 zv12) (gA zI11 zv13) ((0 : Int32)).toNatClampNeg ((0 : Int32)).toNatClampNeg (zv14).toNatClampNeg) := ⟨_, rfl⟩
    have hf := lt_at hf ezI17
    refine x_copy C0 hz hw tzv12 tzv13 zhc16 (hml.trans hl.1.symm) wd340 (Nat.le_of_ble_eq_true rfl) (Nat.le_of_ble_eq_true rfl) dX4_copyFrom_165 ezI17 (fun H locs hw => ?_)
    refine lv_aload_n hx hb dX4_copyFrom_168 rfl (lv_at hl 0 rfl) ?_
    refine lv_aload_n hx hb dX4_copyFrom_169 rfl (lv_at hl 1 rfl) ?_
    refine xg_4_8 C0 hw zt1 wd337 dX4_copyFrom_170 ?_
    obtain ⟨zI18, ezI18⟩ : ∃ y : Im, y = pF zI17 72 zx0 (gF zI17 72 zx1) := ⟨_, rfl⟩
    have hf := lt_at hf ezI18
    refine xp_4_8 C0 hz hw zt0 rfl rfl wd337 dX4_copyFrom_173 ezI18 (fun H locs hw => ?_)
    obtain rfl := Option.some.inj hf
    exact x_vret C0 hr hw dX4_copyFrom_176
  · have hf := ite_f hf zc2
    refine lv_aload_n hx hb dX4_copyFrom_72 rfl (lv_at hl 0 rfl) ?_
    refine xg_4_3 C0 hw zt0 wd305 ezv1 dX4_copyFrom_73 ?_
    refine lv_iload_n hx hb dX4_copyFrom_76 rfl (lv_at hl 2 rfl) ?_
    obtain ⟨zhb19, hf⟩ := ck_some hf
    obtain ⟨zv20, ezv20, hf⟩ := nn_some hf
    have tzv20 : okA E G 0 zv20 := wt_q hw tzv1 ezv20
    refine x_qald C0 hw 13 tzv1 (by decide) rfl zhb19 ezv20 dX4_copyFrom_77 ?_
    refine lv_aload_n hx hb dX4_copyFrom_78 rfl (lv_at hl 1 rfl) ?_
    obtain ⟨zv21, ezv21, hf⟩ := nn_some hf
    have tzv21 : okA E G 13 zv21 := wt_r hw ezv21
    refine xg_4_3 C0 hw zt1 wd305 ezv21 dX4_copyFrom_79 ?_
    refine lv_iload_n hx hb dX4_copyFrom_82 rfl (lv_at hl 2 rfl) ?_
    obtain ⟨zhb22, hf⟩ := ck_some hf
    obtain ⟨zv23, ezv23, hf⟩ := nn_some hf
    have tzv23 : okA E G 0 zv23 := wt_q hw tzv21 ezv23
    refine x_qald C0 hw 13 tzv21 (by decide) rfl zhb22 ezv23 dX4_copyFrom_83 ?_
    refine xg_0_0 C0 hw tzv23 wd341 dX4_copyFrom_84 ?_
    obtain ⟨zI24, ezI24⟩ : ∃ y : Im, y = pF I 0 zv20 (gF I 0 zv23) := ⟨_, rfl⟩
    have hf := lt_at hf ezI24
    refine xp_0_0 C0 hz hw tzv20 rfl rfl wd341 dX4_copyFrom_87 ezI24 (fun H locs hw => ?_)
    refine lv_aload_n hx hb dX4_copyFrom_90 rfl (lv_at hl 0 rfl) ?_
    refine xg_4_3 C0 hw zt0 wd305 ezv1 dX4_copyFrom_91 ?_
    refine lv_iload_n hx hb dX4_copyFrom_94 rfl (lv_at hl 2 rfl) ?_
    obtain ⟨zv25, ezv25, hf⟩ := nn_some hf
    have tzv25 : okA E G 0 zv25 := wt_q hw tzv1 ezv25
    refine x_qald C0 hw 13 tzv1 (by decide) rfl zhb19 ezv25 dX4_copyFrom_95 ?_
    refine lv_aload_n hx hb dX4_copyFrom_96 rfl (lv_at hl 1 rfl) ?_
    obtain ⟨zv26, ezv26, hf⟩ := nn_some hf
    have tzv26 : okA E G 13 zv26 := wt_r hw ezv26
    refine xg_4_3 C0 hw zt1 wd305 ezv26 dX4_copyFrom_97 ?_
    refine lv_iload_n hx hb dX4_copyFrom_100 rfl (lv_at hl 2 rfl) ?_
    obtain ⟨zhb27, hf⟩ := ck_some hf
    obtain ⟨zv28, ezv28, hf⟩ := nn_some hf
    have tzv28 : okA E G 0 zv28 := wt_q hw tzv26 ezv28
    refine x_qald C0 hw 13 tzv26 (by decide) rfl zhb27 ezv28 dX4_copyFrom_101 ?_
    refine xg_0_1 C0 hw tzv28 wd342 dX4_copyFrom_102 ?_
    obtain ⟨zI29, ezI29⟩ : ∃ y : Im, y = pF zI24 1 zv25 (gF zI24 1 zv28) := ⟨_, rfl⟩
    have hf := lt_at hf ezI29
    refine xp_0_1 C0 hz hw tzv25 rfl rfl wd342 dX4_copyFrom_105 ezI29 (fun H locs hw => ?_)
    obtain ⟨zv30, ezv30⟩ : ∃ y : Int32, y = zx2 + 1 := ⟨_, rfl⟩
    have hf := lt_at hf ezv30
    refine lv_iinc (v := zv30) (lv' := [(2, .int zv30), (0, .ref zx0), (1, .ref zx1)]) hx hb dX4_copyFrom_108 hl (k := 2) rfl (by rw [ezv30]; rfl) (by decide) rfl (fun ls hl => ?_)
    refine lv_goto (tgt := 63) hx hb dX4_copyFrom_111 (by decide) ?_
    exact zhr63 zI29 _ _ _ zx0 zx1 zv30 p_64 p_65 p_66 zt0 zt1 ep_64 tp_64 ep_65 tp_65 ep_66 tp_66 hw (lv_sub hl [1, 2, 0] rfl) hf
theorem w4_copyFrom_63 {p : Program} {l : Launch} {e : Env} {s : State} {m : MethodId} {args : Array Value} {below : List Frame} {meth : Method} {c : Code} {E : EN} {G : GM} {X : Xm} (C0 : CX p s m args meth c E cX4_copyFrom RX4 3) (hr : meth.sig.returnType = none) (hz : s.heap.size + 0 ≤ eB E + G.1) {rr : Im} (fl : Nat) : ∀ (n : Nat) (I : Im) (H : Heap) (locs : List Loc) (ls : Array Slot) (zx0 : Nat) (zx1 : Nat) (zx2 : Int32) (p_64 : Nat) (p_65 : Nat) (p_66 : Nat) (zt0 : okA E G 4 zx0) (zt1 : okA E G 4 zx1) (ep_64 : gR X 64 zx0 = some p_64) (tp_64 : okA E G 11 p_64) (ep_65 : gR X 65 zx0 = some p_65) (tp_65 : okA E G 6 p_65) (ep_66 : gR X 66 zx0 = some p_66) (tp_66 : okA E G 16 p_66), WD E G I X s.heap H locs → lv_has ls 3 [(0, .ref zx0), (1, .ref zx1), (2, .int zx2)] → m4_copyFrom_63 fl G.2.2 X n I zx0 zx1 zx2 p_64 p_65 p_66 = some rr → W p l e ({ frames := 2, cells := 0, slots := 0, locals := 48 } : Room) s m args below meth c H locs 0 0 (MQ below (QV E G rr X) args s 0 0 (eA E)) (F0 m 63 ls []) := by
  intro n
  induction n with
  | zero => intro I H locs ls zx0 zx1 zx2 p_64 p_65 p_66 zt0 zt1 ep_64 tp_64 ep_65 tp_65 ep_66 tp_66 hw hl hf; exact absurd (show (none : Option (Im)) = some rr from hf) (by simp)
  | succ n ih => intro I H locs ls zx0 zx1 zx2 p_64 p_65 p_66 zt0 zt1 ep_64 tp_64 ep_65 tp_65 ep_66 tp_66 hw hl hf; exact w4_copyFrom_63b C0 hr hz fl _ ih I H locs ls zx0 zx1 zx2 p_64 p_65 p_66 zt0 zt1 ep_64 tp_64 ep_65 tp_65 ep_66 tp_66 hw hl hf
noncomputable def m4_copyFrom_31b (fl : Nat) (len : Nat → Nat) (X : Xm) (zr31 : Im → Nat → Nat → Int32 → Nat → Nat → Option (Im)) (I : Im) (zx0 : Nat) (zx1 : Nat) (zx2 : Int32) (p_64 : Nat) (p_65 : Nat) : Option (Im) :=
  nn (gR X 66 zx0) fun zv1 =>
  if (nI (len zv1)) ≤ zx2 then
    m4_copyFrom_63 fl len X fl I zx0 zx1 (0 : Int32) p_64 p_65 zv1
  else
    ck (inb zx2 (len zv1) = true) <|
    nn (gQ X zv1 (zx2).toNatClampNeg) fun zv4 =>
    nn (gR X 66 zx1) fun zv5 =>
    ck (inb zx2 (len zv5) = true) <|
    nn (gQ X zv5 (zx2).toNatClampNeg) fun zv7 =>
    nn (m5_copyFrom fl len X I zv4 zv7) fun zI8 =>
    lt (zx2 + 1) fun zv10 =>
    zr31 zI8 zx0 zx1 zv10 p_64 p_65
noncomputable def m4_copyFrom_31 (fl : Nat) (len : Nat → Nat) (X : Xm) (n : Nat) : Im → Nat → Nat → Int32 → Nat → Nat → Option (Im) :=
  Nat.rec (fun _ _ _ _ _ _ => none) (fun _ r => m4_copyFrom_31b fl len X r) n
set_option maxHeartbeats 4000000 in
set_option maxRecDepth 100000 in
theorem w4_copyFrom_31b {p : Program} {l : Launch} {e : Env} {s : State} {m : MethodId} {args : Array Value} {below : List Frame} {meth : Method} {c : Code} {E : EN} {G : GM} {X : Xm} (C0 : CX p s m args meth c E cX4_copyFrom RX4 3) (hr : meth.sig.returnType = none) (hz : s.heap.size + 0 ≤ eB E + G.1) {rr : Im} (fl : Nat) (zr31 : Im → Nat → Nat → Int32 → Nat → Nat → Option (Im)) (zhr31 : ∀ (I : Im) (H : Heap) (locs : List Loc) (ls : Array Slot) (zx0 : Nat) (zx1 : Nat) (zx2 : Int32) (p_64 : Nat) (p_65 : Nat) (zt0 : okA E G 4 zx0) (zt1 : okA E G 4 zx1) (ep_64 : gR X 64 zx0 = some p_64) (tp_64 : okA E G 11 p_64) (ep_65 : gR X 65 zx0 = some p_65) (tp_65 : okA E G 6 p_65), WD E G I X s.heap H locs → lv_has ls 3 [(0, .ref zx0), (1, .ref zx1), (2, .int zx2)] → zr31 I zx0 zx1 zx2 p_64 p_65 = some rr → W p l e ({ frames := 2, cells := 0, slots := 0, locals := 48 } : Room) s m args below meth c H locs 0 0 (MQ below (QV E G rr X) args s 0 0 (eA E)) (F0 m 31 ls [])) : ∀ (I : Im) (H : Heap) (locs : List Loc) (ls : Array Slot) (zx0 : Nat) (zx1 : Nat) (zx2 : Int32) (p_64 : Nat) (p_65 : Nat) (zt0 : okA E G 4 zx0) (zt1 : okA E G 4 zx1) (ep_64 : gR X 64 zx0 = some p_64) (tp_64 : okA E G 11 p_64) (ep_65 : gR X 65 zx0 = some p_65) (tp_65 : okA E G 6 p_65), WD E G I X s.heap H locs → lv_has ls 3 [(0, .ref zx0), (1, .ref zx1), (2, .int zx2)] → m4_copyFrom_31b fl G.2.2 X zr31 I zx0 zx1 zx2 p_64 p_65 = some rr → W p l e ({ frames := 2, cells := 0, slots := 0, locals := 48 } : Room) s m args below meth c H locs 0 0 (MQ below (QV E G rr X) args s 0 0 (eA E)) (F0 m 31 ls []) := by
  intro I H locs ls zx0 zx1 zx2 p_64 p_65 zt0 zt1 ep_64 tp_64 ep_65 tp_65 hw hl hf
  unfold m4_copyFrom_31b at hf
  have hx := C0.1; have hb := C0.2.1; have hml := C0.2.2.1; have hown := C0.2.2.2.1; have hts := C0.2.2.2.2.1
  refine lv_iload_n hx hb dX4_copyFrom_31 rfl (lv_at hl 2 rfl) ?_
  refine lv_aload_n hx hb dX4_copyFrom_32 rfl (lv_at hl 0 rfl) ?_
  obtain ⟨zv1, ezv1, hf⟩ := nn_some hf
  have tzv1 : okA E G 16 zv1 := wt_r hw ezv1
  refine xg_4_2 C0 hw zt0 wd303 ezv1 dX4_copyFrom_33 ?_
  refine x_alen C0 hw 16 tzv1 (by decide) rfl dX4_copyFrom_36 ?_
  refine lv_icmp_ge (tgt := 61) hx hb dX4_copyFrom_37 (by decide) (fun zc2 => ?_) (fun zc2 => ?_)
  · have hf := ite_t hf zc2
    refine lv_iconst (v := (0 : Int32)) hx hb dX4_copyFrom_61 (by decide) ?_
    refine lv_istore_n (lv' := [(2, .int (0 : Int32)), (0, .ref zx0), (1, .ref zx1)]) hx hb dX4_copyFrom_62 rfl hl (by decide) rfl (fun ls hl => ?_)
    exact w4_copyFrom_63 C0 hr hz fl fl I _ _ _ zx0 zx1 (0 : Int32) p_64 p_65 zv1 zt0 zt1 ep_64 tp_64 ep_65 tp_65 ezv1 tzv1 hw (lv_sub hl [1, 2, 0] rfl) hf
  · have hf := ite_f hf zc2
    refine lv_aload_n hx hb dX4_copyFrom_40 rfl (lv_at hl 0 rfl) ?_
    refine xg_4_2 C0 hw zt0 wd303 ezv1 dX4_copyFrom_41 ?_
    refine lv_iload_n hx hb dX4_copyFrom_44 rfl (lv_at hl 2 rfl) ?_
    obtain ⟨zhb3, hf⟩ := ck_some hf
    obtain ⟨zv4, ezv4, hf⟩ := nn_some hf
    have tzv4 : okA E G 5 zv4 := wt_q hw tzv1 ezv4
    refine x_qald C0 hw 16 tzv1 (by decide) rfl zhb3 ezv4 dX4_copyFrom_45 ?_
    refine lv_aload_n hx hb dX4_copyFrom_46 rfl (lv_at hl 1 rfl) ?_
    obtain ⟨zv5, ezv5, hf⟩ := nn_some hf
    have tzv5 : okA E G 16 zv5 := wt_r hw ezv5
    refine xg_4_2 C0 hw zt1 wd303 ezv5 dX4_copyFrom_47 ?_
    refine lv_iload_n hx hb dX4_copyFrom_50 rfl (lv_at hl 2 rfl) ?_
    obtain ⟨zhb6, hf⟩ := ck_some hf
    obtain ⟨zv7, ezv7, hf⟩ := nn_some hf
    have tzv7 : okA E G 5 zv7 := wt_q hw tzv5 ezv7
    refine x_qald C0 hw 16 tzv5 (by decide) rfl zhb6 ezv7 dX4_copyFrom_51 ?_
    obtain ⟨zI8, ze9, hf⟩ := nn_some hf
    refine x_cv (I1 := zI8) (X1 := X) (x_runV (As := [.ref zv7]) (rest := []) C0 (c5_copyFrom l E G fl X I zv4 zv7 tzv4 tzv7 ze9) hw 5 tzv4 (by decide) rfl wd38 wd347 wd348 wd349 wd313 ⟨rfl, rfl⟩ hy5_copyFrom ⟨Nat.le_of_ble_eq_true rfl, Nat.le_of_ble_eq_true rfl⟩ rfl hl.1 (Nat.le_of_ble_eq_true rfl) ⟨Nat.zero_le _, Nat.zero_le _⟩ dX4_copyFrom_52) hw (fun H locs hw => ?_)
    obtain ⟨zv10, ezv10⟩ : ∃ y : Int32, y = zx2 + 1 := ⟨_, rfl⟩
    have hf := lt_at hf ezv10
    refine lv_iinc (v := zv10) (lv' := [(2, .int zv10), (0, .ref zx0), (1, .ref zx1)]) hx hb dX4_copyFrom_55 hl (k := 2) rfl (by rw [ezv10]; rfl) (by decide) rfl (fun ls hl => ?_)
    refine lv_goto (tgt := 31) hx hb dX4_copyFrom_58 (by decide) ?_
    exact zhr31 zI8 _ _ _ zx0 zx1 zv10 p_64 p_65 zt0 zt1 ep_64 tp_64 ep_65 tp_65 hw (lv_sub hl [1, 2, 0] rfl) hf
theorem w4_copyFrom_31 {p : Program} {l : Launch} {e : Env} {s : State} {m : MethodId} {args : Array Value} {below : List Frame} {meth : Method} {c : Code} {E : EN} {G : GM} {X : Xm} (C0 : CX p s m args meth c E cX4_copyFrom RX4 3) (hr : meth.sig.returnType = none) (hz : s.heap.size + 0 ≤ eB E + G.1) {rr : Im} (fl : Nat) : ∀ (n : Nat) (I : Im) (H : Heap) (locs : List Loc) (ls : Array Slot) (zx0 : Nat) (zx1 : Nat) (zx2 : Int32) (p_64 : Nat) (p_65 : Nat) (zt0 : okA E G 4 zx0) (zt1 : okA E G 4 zx1) (ep_64 : gR X 64 zx0 = some p_64) (tp_64 : okA E G 11 p_64) (ep_65 : gR X 65 zx0 = some p_65) (tp_65 : okA E G 6 p_65), WD E G I X s.heap H locs → lv_has ls 3 [(0, .ref zx0), (1, .ref zx1), (2, .int zx2)] → m4_copyFrom_31 fl G.2.2 X n I zx0 zx1 zx2 p_64 p_65 = some rr → W p l e ({ frames := 2, cells := 0, slots := 0, locals := 48 } : Room) s m args below meth c H locs 0 0 (MQ below (QV E G rr X) args s 0 0 (eA E)) (F0 m 31 ls []) := by
  intro n
  induction n with
  | zero => intro I H locs ls zx0 zx1 zx2 p_64 p_65 zt0 zt1 ep_64 tp_64 ep_65 tp_65 hw hl hf; exact absurd (show (none : Option (Im)) = some rr from hf) (by simp)
  | succ n ih => intro I H locs ls zx0 zx1 zx2 p_64 p_65 zt0 zt1 ep_64 tp_64 ep_65 tp_65 hw hl hf; exact w4_copyFrom_31b C0 hr hz fl _ ih I H locs ls zx0 zx1 zx2 p_64 p_65 zt0 zt1 ep_64 tp_64 ep_65 tp_65 hw hl hf
noncomputable def m4_copyFrom (fl : Nat) (len : Nat → Nat) (X : Xm) (I : Im) (zx0 : Nat) (zx1 : Nat) : Option (Im) :=
  nn (gR X 64 zx1) fun zv1 =>
  nn (gR X 64 zx0) fun zv2 =>
  ck (cpok (0 : Int32) (0 : Int32) (nI (len zv2)) (len zv1) (len zv2) = true) <|
  lt (pAr I zv2 (va_cpy (gA I zv1) (gA I zv2) ((0 : Int32)).toNatClampNeg ((0 : Int32)).toNatClampNeg ((nI (len zv2))).toNatClampNeg)) fun zI4 =>
  nn (gR X 65 zx0) fun zv5 =>
  nn (gR X 65 zx1) fun zv6 =>
  nn (m6_copyFrom fl len X zI4 zv5 zv6) fun zI7 =>
  m4_copyFrom_31 fl len X fl zI7 zx0 zx1 (0 : Int32) zv2 zv5
theorem hy4_copyFrom : yX4_copyFrom.cls = RX4 ∧ yX4_copyFrom.cls ≠ "java/lang/invoke/MethodHandle" ∧ yX4_copyFrom.cls ≠ "java/lang/invoke/VarHandle" ∧ (parseMethodDescriptor yX4_copyFrom.desc).map (fun d => d.parameters.length) = some 1 := ⟨rfl, by decide +kernel, by decide +kernel, by decide +kernel⟩
set_option maxHeartbeats 4000000 in
set_option maxRecDepth 100000 in
theorem c4_copyFrom (l : Launch) (E : EN) (G : GM) (fl : Nat) (X : Xm) (I : Im) (zx0 : Nat) (zx1 : Nat) (zt0 : okA E G 4 zx0) (zt1 : okA E G 4 zx1) {rr : Im} (hf : m4_copyFrom fl G.2.2 X I zx0 zx1 = some rr) : MT l yX4_copyFrom cX4_copyFrom 3 none ({ frames := 2, cells := 0, slots := 0, locals := 48 } : Room) E G I X [.ref zx0, .ref zx1] (QV E G rr X) 0 0 := by
  refine Met.ofW (cc := cX4_copyFrom) (maxL := 3) (ret := none) (by decide +kernel) rfl ?_
  intro p e s m args below meth c s₁ B hml hv
  obtain ⟨rfl, hw0, hSE⟩ := hv
  have C0 : CX p s m ([.ref zx0, .ref zx1] : List Value).toArray meth c E cX4_copyFrom RX4 3 := ⟨B.exec, B.bytes, hml, findClass_of_methodNamed B.named, fun w hw => atoms_spec (ws := WS yX4_copyFrom cX4_copyFrom 3 none) B.pre w (List.mem_cons_of_mem _ hw), B.notSynchronized, hSE⟩
  have hz : s.heap.size + 0 ≤ eB E + G.1 := Nat.le_of_eq hw0.2.1
  have hw : WD E G I X s.heap s.heap [] := ⟨hw0, va_S.rf⟩
  have hr := B.returns
  have hx := C0.1; have hb := C0.2.1; have hml := C0.2.2.1; have hown := C0.2.2.2.1; have hts := C0.2.2.2.2.1
  have hl := lv_entry ([.ref zx0, .ref zx1]) (n := 3) (Nat.le_of_ble_eq_true rfl)
  rw [lg_entry_eq]
  generalize (lg_sl ([.ref zx0, .ref zx1]) ++ List.replicate (3 - (lg_sl ([.ref zx0, .ref zx1])).length) Slot.unset).toArray = ls at hl ⊢
  have hl : lv_has ls 3 [(0, .ref zx0), (1, .ref zx1)] := hl
  unfold m4_copyFrom at hf
  refine lv_aload_n hx hb dX4_copyFrom_0 rfl (lv_at hl 1 rfl) ?_
  obtain ⟨zv1, ezv1, hf⟩ := nn_some hf
  have tzv1 : okA E G 11 zv1 := wt_r hw ezv1
  refine xg_4_0 C0 hw zt1 wd297 ezv1 dX4_copyFrom_1 ?_
  refine lv_iconst (v := (0 : Int32)) hx hb dX4_copyFrom_4 (by decide) ?_
  refine lv_aload_n hx hb dX4_copyFrom_5 rfl (lv_at hl 0 rfl) ?_
  obtain ⟨zv2, ezv2, hf⟩ := nn_some hf
  have tzv2 : okA E G 11 zv2 := wt_r hw ezv2
  refine xg_4_0 C0 hw zt0 wd297 ezv2 dX4_copyFrom_6 ?_
  refine lv_iconst (v := (0 : Int32)) hx hb dX4_copyFrom_9 (by decide) ?_
  refine lv_aload_n hx hb dX4_copyFrom_10 rfl (lv_at hl 0 rfl) ?_
  refine xg_4_0 C0 hw zt0 wd297 ezv2 dX4_copyFrom_11 ?_
  refine x_alen C0 hw 11 tzv2 (by decide) rfl dX4_copyFrom_14 ?_
  obtain ⟨zhc3, hf⟩ := ck_some hf
  obtain ⟨zI4, ezI4⟩ : ∃ y : Im, y = pAr I zv2 (va_cpy (gA I zv1) (gA I zv2) ((0 : Int32)).toNatClampNeg ((0 : Int32)).toNatClampNeg ((nI (G.2.2 zv2))).toNatClampNeg) := ⟨_, rfl⟩
  have hf := lt_at hf ezI4
  refine x_copy C0 hz hw tzv1 tzv2 zhc3 (hml.trans hl.1.symm) wd340 (Nat.le_of_ble_eq_true rfl) (Nat.le_of_ble_eq_true rfl) dX4_copyFrom_15 ezI4 (fun H locs hw => ?_)
  refine lv_aload_n hx hb dX4_copyFrom_18 rfl (lv_at hl 0 rfl) ?_
  obtain ⟨zv5, ezv5, hf⟩ := nn_some hf
  have tzv5 : okA E G 6 zv5 := wt_r hw ezv5
  refine xg_4_1 C0 hw zt0 wd301 ezv5 dX4_copyFrom_19 ?_
  refine lv_aload_n hx hb dX4_copyFrom_22 rfl (lv_at hl 1 rfl) ?_
  obtain ⟨zv6, ezv6, hf⟩ := nn_some hf
  have tzv6 : okA E G 6 zv6 := wt_r hw ezv6
  refine xg_4_1 C0 hw zt1 wd301 ezv6 dX4_copyFrom_23 ?_
  obtain ⟨zI7, ze8, hf⟩ := nn_some hf
  refine x_cv (I1 := zI7) (X1 := X) (x_runV (As := [.ref zv6]) (rest := []) C0 (c6_copyFrom l E G fl X zI4 zv5 zv6 tzv5 tzv6 ze8) hw 6 tzv5 (by decide) rfl wd36 wd344 wd345 wd346 wd300 ⟨rfl, rfl⟩ hy6_copyFrom ⟨Nat.le_of_ble_eq_true rfl, Nat.le_of_ble_eq_true rfl⟩ rfl hl.1 (Nat.le_of_ble_eq_true rfl) ⟨Nat.zero_le _, Nat.zero_le _⟩ dX4_copyFrom_26) hw (fun H locs hw => ?_)
  refine lv_iconst (v := (0 : Int32)) hx hb dX4_copyFrom_29 (by decide) ?_
  refine lv_istore_n (lv' := [(2, .int (0 : Int32)), (0, .ref zx0), (1, .ref zx1)]) hx hb dX4_copyFrom_30 rfl hl (by decide) rfl (fun ls hl => ?_)
  exact w4_copyFrom_31 C0 hr hz fl fl zI7 _ _ _ zx0 zx1 (0 : Int32) zv2 zv5 zt0 zt1 ezv2 tzv2 ezv5 tzv5 hw (lv_sub hl [1, 2, 0] rfl) hf
noncomputable def m8_within_15 (fl : Nat) (len : Nat → Nat) (X : Xm) (I : Im) (zs0 : Int32) : Option (Int32) :=
  ck (isbl zs0 = true) <|
  some (zs0)
set_option maxHeartbeats 4000000 in
set_option maxRecDepth 100000 in
theorem w8_within_15 {p : Program} {l : Launch} {e : Env} {s : State} {m : MethodId} {args : Array Value} {below : List Frame} {meth : Method} {c : Code} {E : EN} {G : GM} {X : Xm} {I : Im} (C0 : CX p s m args meth c E cX8_within RX8 3) (hr : meth.sig.returnType = (some .boolean)) (hz : s.heap.size + 0 ≤ eB E + G.1) {rr : Int32} (fl : Nat) : ∀ (H : Heap) (locs : List Loc) (ls : Array Slot) (zs0 : Int32) , WD E G I X s.heap H locs → lv_has ls 3 [] → m8_within_15 fl G.2.2 X I zs0 = some rr → W p l e ({ frames := 0, cells := 0, slots := 0, locals := 0 } : Room) s m args below meth c H locs 0 0 (MQ below (QI E G rr I X) args s 0 0 (eA E)) (F0 m 15 ls [.int zs0]) := by
  intro H locs ls zs0 hw hl hf
  unfold m8_within_15 at hf
  have hx := C0.1; have hb := C0.2.1; have hml := C0.2.2.1; have hown := C0.2.2.2.1; have hts := C0.2.2.2.2.1
  obtain ⟨zhn1, hf⟩ := ck_some hf
  obtain rfl := Option.some.inj hf
  exact x_zret C0 hr (isbl_nar zhn1) hw dX8_within_15
noncomputable def m8_within_14 (fl : Nat) (len : Nat → Nat) (X : Xm) (I : Im) : Option (Int32) :=
  m8_within_15 fl len X I (0 : Int32)
set_option maxHeartbeats 4000000 in
set_option maxRecDepth 100000 in
theorem w8_within_14 {p : Program} {l : Launch} {e : Env} {s : State} {m : MethodId} {args : Array Value} {below : List Frame} {meth : Method} {c : Code} {E : EN} {G : GM} {X : Xm} {I : Im} (C0 : CX p s m args meth c E cX8_within RX8 3) (hr : meth.sig.returnType = (some .boolean)) (hz : s.heap.size + 0 ≤ eB E + G.1) {rr : Int32} (fl : Nat) : ∀ (H : Heap) (locs : List Loc) (ls : Array Slot) , WD E G I X s.heap H locs → lv_has ls 3 [] → m8_within_14 fl G.2.2 X I = some rr → W p l e ({ frames := 0, cells := 0, slots := 0, locals := 0 } : Room) s m args below meth c H locs 0 0 (MQ below (QI E G rr I X) args s 0 0 (eA E)) (F0 m 14 ls []) := by
  intro H locs ls hw hl hf
  unfold m8_within_14 at hf
  have hx := C0.1; have hb := C0.2.1; have hml := C0.2.2.1; have hown := C0.2.2.2.1; have hts := C0.2.2.2.2.1
  refine lv_iconst (v := (0 : Int32)) hx hb dX8_within_14 (by decide) ?_
  exact w8_within_15 C0 hr hz fl _ _ _ (0 : Int32) hw (lv_sub hl [] rfl) hf
noncomputable def m8_within (fl : Nat) (len : Nat → Nat) (X : Xm) (I : Im) (zx0 : Int32) (zx1 : Int32) (zx2 : Int32) : Option (Int32) :=
  if zx0 < zx1 then
    m8_within_14 fl len X I 
  else
    if zx2 < zx0 then
      m8_within_14 fl len X I 
    else
      m8_within_15 fl len X I (1 : Int32)
theorem hy8_within : yX8_within.cls = RX8 ∧ yX8_within.cls ≠ "java/lang/invoke/MethodHandle" ∧ yX8_within.cls ≠ "java/lang/invoke/VarHandle" ∧ (parseMethodDescriptor yX8_within.desc).map (fun d => d.parameters.length) = some 3 := ⟨rfl, by decide +kernel, by decide +kernel, by decide +kernel⟩
set_option maxHeartbeats 4000000 in
set_option maxRecDepth 100000 in
theorem c8_within (l : Launch) (E : EN) (G : GM) (fl : Nat) (X : Xm) (I : Im) (zx0 : Int32) (zx1 : Int32) (zx2 : Int32) {rr : Int32} (hf : m8_within fl G.2.2 X I zx0 zx1 zx2 = some rr) : MT l yX8_within cX8_within 3 (some .boolean) ({ frames := 0, cells := 0, slots := 0, locals := 0 } : Room) E G I X [.int zx0, .int zx1, .int zx2] (QI E G rr I X) 0 0 := by
  refine Met.ofW (cc := cX8_within) (maxL := 3) (ret := (some .boolean)) (by decide +kernel) rfl ?_
  intro p e s m args below meth c s₁ B hml hv
  obtain ⟨rfl, hw0, hSE⟩ := hv
  have C0 : CX p s m ([.int zx0, .int zx1, .int zx2] : List Value).toArray meth c E cX8_within RX8 3 := ⟨B.exec, B.bytes, hml, findClass_of_methodNamed B.named, fun w hw => atoms_spec (ws := WS yX8_within cX8_within 3 (some .boolean)) B.pre w (List.mem_cons_of_mem _ hw), B.notSynchronized, hSE⟩
  have hz : s.heap.size + 0 ≤ eB E + G.1 := Nat.le_of_eq hw0.2.1
  have hw : WD E G I X s.heap s.heap [] := ⟨hw0, va_S.rf⟩
  have hr := B.returns
  have hx := C0.1; have hb := C0.2.1; have hml := C0.2.2.1; have hown := C0.2.2.2.1; have hts := C0.2.2.2.2.1
  have hl := lv_entry ([.int zx0, .int zx1, .int zx2]) (n := 3) (Nat.le_of_ble_eq_true rfl)
  rw [lg_entry_eq]
  generalize (lg_sl ([.int zx0, .int zx1, .int zx2]) ++ List.replicate (3 - (lg_sl ([.int zx0, .int zx1, .int zx2])).length) Slot.unset).toArray = ls at hl ⊢
  have hl : lv_has ls 3 [(0, .int zx0), (1, .int zx1), (2, .int zx2)] := hl
  unfold m8_within at hf
  refine lv_iload_n hx hb dX8_within_0 rfl (lv_at hl 0 rfl) ?_
  refine lv_iload_n hx hb dX8_within_1 rfl (lv_at hl 1 rfl) ?_
  refine lv_icmp_lt (tgt := 14) hx hb dX8_within_2 (by decide) (fun zc1 => ?_) (fun zc1 => ?_)
  · have hf := ite_t hf zc1
    exact w8_within_14 C0 hr hz fl _ _ _ hw (lv_sub hl [] rfl) hf
  · have hf := ite_f hf zc1
    refine lv_iload_n hx hb dX8_within_5 rfl (lv_at hl 0 rfl) ?_
    refine lv_iload_n hx hb dX8_within_6 rfl (lv_at hl 2 rfl) ?_
    refine lv_icmp_gt (tgt := 14) hx hb dX8_within_7 (by decide) (fun zc2 => ?_) (fun zc2 => ?_)
    · have hf := ite_t hf zc2
      exact w8_within_14 C0 hr hz fl _ _ _ hw (lv_sub hl [] rfl) hf
    · have hf := ite_f hf zc2
      refine lv_iconst (v := (1 : Int32)) hx hb dX8_within_10 (by decide) ?_
      refine lv_goto (tgt := 15) hx hb dX8_within_11 (by decide) ?_
      exact w8_within_15 C0 hr hz fl _ _ _ (1 : Int32) hw (lv_sub hl [] rfl) hf
noncomputable def m4_changeSetting_49 (fl : Nat) (len : Nat → Nat) (X : Xm) (I : Im) : Option (Int32 × Im) :=
  some ((-2 : Int32), I)
set_option maxHeartbeats 4000000 in
set_option maxRecDepth 100000 in
theorem w4_changeSetting_49 {p : Program} {l : Launch} {e : Env} {s : State} {m : MethodId} {args : Array Value} {below : List Frame} {meth : Method} {c : Code} {E : EN} {G : GM} {X : Xm} (C0 : CX p s m args meth c E cX4_changeSetting RX4 4) (hr : meth.sig.returnType = (some .int)) (hz : s.heap.size + 0 ≤ eB E + G.1) {rr : Int32 × Im} (fl : Nat) : ∀ (I : Im) (H : Heap) (locs : List Loc) (ls : Array Slot) , WD E G I X s.heap H locs → lv_has ls 4 [] → m4_changeSetting_49 fl G.2.2 X I = some rr → W p l e ({ frames := 1, cells := 0, slots := 0, locals := 22 } : Room) s m args below meth c H locs 0 0 (MQ below (QI E G rr.1 rr.2 X) args s 0 0 (eA E)) (F0 m 49 ls []) := by
  intro I H locs ls hw hl hf
  unfold m4_changeSetting_49 at hf
  have hx := C0.1; have hb := C0.2.1; have hml := C0.2.2.1; have hown := C0.2.2.2.1; have hts := C0.2.2.2.2.1
  refine lv_bipush (v := (-2 : Int32)) hx hb dX4_changeSetting_49 (by decide) ?_
  obtain rfl := Option.some.inj hf
  exact x_iret C0 hr hw dX4_changeSetting_51
noncomputable def m4_changeSetting_21 (fl : Nat) (len : Nat → Nat) (X : Xm) (I : Im) : Option (Int32 × Im) :=
  some ((-2 : Int32), I)
set_option maxHeartbeats 4000000 in
set_option maxRecDepth 100000 in
theorem w4_changeSetting_21 {p : Program} {l : Launch} {e : Env} {s : State} {m : MethodId} {args : Array Value} {below : List Frame} {meth : Method} {c : Code} {E : EN} {G : GM} {X : Xm} (C0 : CX p s m args meth c E cX4_changeSetting RX4 4) (hr : meth.sig.returnType = (some .int)) (hz : s.heap.size + 0 ≤ eB E + G.1) {rr : Int32 × Im} (fl : Nat) : ∀ (I : Im) (H : Heap) (locs : List Loc) (ls : Array Slot) , WD E G I X s.heap H locs → lv_has ls 4 [] → m4_changeSetting_21 fl G.2.2 X I = some rr → W p l e ({ frames := 1, cells := 0, slots := 0, locals := 22 } : Room) s m args below meth c H locs 0 0 (MQ below (QI E G rr.1 rr.2 X) args s 0 0 (eA E)) (F0 m 21 ls []) := by
  intro I H locs ls hw hl hf
  unfold m4_changeSetting_21 at hf
  have hx := C0.1; have hb := C0.2.1; have hml := C0.2.2.1; have hown := C0.2.2.2.1; have hts := C0.2.2.2.2.1
  refine lv_bipush (v := (-2 : Int32)) hx hb dX4_changeSetting_21 (by decide) ?_
  obtain rfl := Option.some.inj hf
  exact x_iret C0 hr hw dX4_changeSetting_23
noncomputable def m4_changeSetting (fl : Nat) (len : Nat → Nat) (X : Xm) (I : Im) (zx0 : Nat) (zx1 : Int32) (zx2 : Int32) : Option (Int32 × Im) :=
  if zx1 < 0 then
    m4_changeSetting_21 fl len X I
  else
    nn (gR X 64 zx0) fun zv2 =>
    if (nI (len zv2)) ≤ zx1 then
      m4_changeSetting_21 fl len X I
    else
      if zx1 < (4 : Int32) then
        if (4 : Int32) ≤ zx1 then
          m4_changeSetting_49 fl len X I
        else
          ck (inb zx1 4 = true) <|
          ck (inb zx1 4 = true) <|
          nn (m8_within fl len X I zx2 (leastS.getD (zx1).toNatClampNeg 0) (mostS.getD (zx1).toNatClampNeg 0)) fun zv12 =>
          if zv12 = 0 then
            m4_changeSetting_49 fl len X I
          else
            ck (inb zx1 (len zv2) = true) <|
            lt ((gA I zv2 (zx1).toNatClampNeg)) fun zv16 =>
            lt (pA I zv2 (zx1).toNatClampNeg zx2) fun zI17 =>
            some (zv16, zI17)
      else
        m4_changeSetting_21 fl len X I
theorem hy4_changeSetting : yX4_changeSetting.cls = RX4 ∧ yX4_changeSetting.cls ≠ "java/lang/invoke/MethodHandle" ∧ yX4_changeSetting.cls ≠ "java/lang/invoke/VarHandle" ∧ (parseMethodDescriptor yX4_changeSetting.desc).map (fun d => d.parameters.length) = some 2 := ⟨rfl, by decide +kernel, by decide +kernel, by decide +kernel⟩
set_option maxHeartbeats 4000000 in
set_option maxRecDepth 100000 in
theorem c4_changeSetting (l : Launch) (E : EN) (G : GM) (fl : Nat) (X : Xm) (I : Im) (zx0 : Nat) (zx1 : Int32) (zx2 : Int32) (zt0 : okA E G 4 zx0) {rr : Int32 × Im} (hf : m4_changeSetting fl G.2.2 X I zx0 zx1 zx2 = some rr) : MT l yX4_changeSetting cX4_changeSetting 4 (some .int) ({ frames := 1, cells := 0, slots := 0, locals := 22 } : Room) E G I X [.ref zx0, .int zx1, .int zx2] (QI E G rr.1 rr.2 X) 0 0 := by
  refine Met.ofW (cc := cX4_changeSetting) (maxL := 4) (ret := (some .int)) (by decide +kernel) rfl ?_
  intro p e s m args below meth c s₁ B hml hv
  obtain ⟨rfl, hw0, hSE⟩ := hv
  have C0 : CX p s m ([.ref zx0, .int zx1, .int zx2] : List Value).toArray meth c E cX4_changeSetting RX4 4 := ⟨B.exec, B.bytes, hml, findClass_of_methodNamed B.named, fun w hw => atoms_spec (ws := WS yX4_changeSetting cX4_changeSetting 4 (some .int)) B.pre w (List.mem_cons_of_mem _ hw), B.notSynchronized, hSE⟩
  have hz : s.heap.size + 0 ≤ eB E + G.1 := Nat.le_of_eq hw0.2.1
  have hw : WD E G I X s.heap s.heap [] := ⟨hw0, va_S.rf⟩
  have hr := B.returns
  have hx := C0.1; have hb := C0.2.1; have hml := C0.2.2.1; have hown := C0.2.2.2.1; have hts := C0.2.2.2.2.1
  have hl := lv_entry ([.ref zx0, .int zx1, .int zx2]) (n := 4) (Nat.le_of_ble_eq_true rfl)
  rw [lg_entry_eq]
  generalize (lg_sl ([.ref zx0, .int zx1, .int zx2]) ++ List.replicate (4 - (lg_sl ([.ref zx0, .int zx1, .int zx2])).length) Slot.unset).toArray = ls at hl ⊢
  have hl : lv_has ls 4 [(0, .ref zx0), (1, .int zx1), (2, .int zx2)] := hl
  unfold m4_changeSetting at hf
  refine lv_iload_n hx hb dX4_changeSetting_0 rfl (lv_at hl 1 rfl) ?_
  refine lv_if_lt (tgt := 21) hx hb dX4_changeSetting_1 (by decide) (fun zc1 => ?_) (fun zc1 => ?_)
  · have hf := ite_t hf zc1
    exact w4_changeSetting_21 C0 hr hz fl I _ _ _ hw (lv_sub hl [] rfl) hf
  · have hf := ite_f hf zc1
    refine lv_iload_n hx hb dX4_changeSetting_4 rfl (lv_at hl 1 rfl) ?_
    refine lv_aload_n hx hb dX4_changeSetting_5 rfl (lv_at hl 0 rfl) ?_
    obtain ⟨zv2, ezv2, hf⟩ := nn_some hf
    have tzv2 : okA E G 11 zv2 := wt_r hw ezv2
    refine xg_4_0 C0 hw zt0 wd297 ezv2 dX4_changeSetting_6 ?_
    refine x_alen C0 hw 11 tzv2 (by decide) rfl dX4_changeSetting_9 ?_
    refine lv_icmp_ge (tgt := 21) hx hb dX4_changeSetting_10 (by decide) (fun zc3 => ?_) (fun zc3 => ?_)
    · have hf := ite_t hf zc3
      exact w4_changeSetting_21 C0 hr hz fl I _ _ _ hw (lv_sub hl [] rfl) hf
    · have hf := ite_f hf zc3
      refine lv_iload_n hx hb dX4_changeSetting_13 rfl (lv_at hl 1 rfl) ?_
      obtain ⟨zz4, hZzz4, hTzz4⟩ := C0.2.2.2.2.2.2.2.2.2.2.2.1
      refine va_getsN (ref := "RadioCues") (host := "RadioCues") hx hb hZzz4 hw.2 hown (va_Nw.use rfl (C0.2.2.2.2.2.2.2.2.1 ("RadioCues$Play", 82, "RadioCues", "LEAST_SETTING", "[I", "RadioCues") (by decide +kernel))) (fun _ h => h) dX4_changeSetting_14 ?_
      refine va_tlen (v := (4 : Int32)) hx hb hTzz4 hw.2 rfl dX4_changeSetting_17 ?_
      refine lv_icmp_lt (tgt := 24) hx hb dX4_changeSetting_18 (by decide) (fun zc5 => ?_) (fun zc5 => ?_)
      · have hf := ite_t hf zc5
        refine lv_iload_n hx hb dX4_changeSetting_24 rfl (lv_at hl 1 rfl) ?_
        obtain ⟨zz6, hZzz6, hTzz6⟩ := C0.2.2.2.2.2.2.2.2.2.2.2.2.1
        refine va_getsN (ref := "RadioCues") (host := "RadioCues") hx hb hZzz6 hw.2 hown (va_Nw.use rfl (C0.2.2.2.2.2.2.2.2.1 ("RadioCues$Play", 85, "RadioCues", "MOST_SETTING", "[I", "RadioCues") (by decide +kernel))) (fun _ h => h) dX4_changeSetting_25 ?_
        refine va_tlen (v := (4 : Int32)) hx hb hTzz6 hw.2 rfl dX4_changeSetting_28 ?_
        refine lv_icmp_ge (tgt := 49) hx hb dX4_changeSetting_29 (by decide) (fun zc7 => ?_) (fun zc7 => ?_)
        · have hf := ite_t hf zc7
          exact w4_changeSetting_49 C0 hr hz fl I _ _ _ hw (lv_sub hl [] rfl) hf
        · have hf := ite_f hf zc7
          refine lv_iload_n hx hb dX4_changeSetting_32 rfl (lv_at hl 2 rfl) ?_
          obtain ⟨zz8, hZzz8, hTzz8⟩ := C0.2.2.2.2.2.2.2.2.2.2.2.1
          refine va_getsN (ref := "RadioCues") (host := "RadioCues") hx hb hZzz8 hw.2 hown (va_Nw.use rfl (C0.2.2.2.2.2.2.2.2.1 ("RadioCues$Play", 82, "RadioCues", "LEAST_SETTING", "[I", "RadioCues") (by decide +kernel))) (fun _ h => h) dX4_changeSetting_33 ?_
          refine lv_iload_n hx hb dX4_changeSetting_36 rfl (lv_at hl 1 rfl) ?_
          obtain ⟨zhb9, hf⟩ := ck_some hf
          refine va_ti (v := .int (leastS.getD (zx1).toNatClampNeg 0)) hx hb hTzz8 hw.2 (inb_in zhb9) rfl dX4_changeSetting_37 ?_
          obtain ⟨zz10, hZzz10, hTzz10⟩ := C0.2.2.2.2.2.2.2.2.2.2.2.2.1
          refine va_getsN (ref := "RadioCues") (host := "RadioCues") hx hb hZzz10 hw.2 hown (va_Nw.use rfl (C0.2.2.2.2.2.2.2.2.1 ("RadioCues$Play", 85, "RadioCues", "MOST_SETTING", "[I", "RadioCues") (by decide +kernel))) (fun _ h => h) dX4_changeSetting_38 ?_
          refine lv_iload_n hx hb dX4_changeSetting_41 rfl (lv_at hl 1 rfl) ?_
          obtain ⟨zhb11, hf⟩ := ck_some hf
          refine va_ti (v := .int (mostS.getD (zx1).toNatClampNeg 0)) hx hb hTzz10 hw.2 (inb_in zhb11) rfl dX4_changeSetting_42 ?_
          obtain ⟨zv12, ze13, hf⟩ := nn_some hf
          refine x_ci (r := zv12) (I1 := I) (X1 := X) (x_runSN (As := [.int zx2, .int (leastS.getD (zx1).toNatClampNeg 0), .int (mostS.getD (zx1).toNatClampNeg 0)]) (rest := []) (host := "RadioCues") C0 (c8_within l E G fl X I zx2 (leastS.getD (zx1).toNatClampNeg 0) (mostS.getD (zx1).toNatClampNeg 0) ze13) hw wd41 (List.mem_of_getElem? (i := 5) rfl) wd357 wd197 ⟨rfl, rfl⟩ hy8_within.2 ⟨Nat.le_of_ble_eq_true rfl, Nat.le_of_ble_eq_true rfl⟩ rfl hl.1 (Nat.le_of_ble_eq_true rfl) ⟨Nat.zero_le _, Nat.zero_le _⟩ dX4_changeSetting_43) hw (fun H locs hw => ?_)
          refine lv_if_ne (tgt := 52) hx hb dX4_changeSetting_46 (by decide) (fun zc14 => ?_) (fun zc14 => ?_)
          · have hf := ite_f hf zc14
            refine lv_aload_n hx hb dX4_changeSetting_52 rfl (lv_at hl 0 rfl) ?_
            refine xg_4_0 C0 hw zt0 wd297 ezv2 dX4_changeSetting_53 ?_
            refine lv_iload_n hx hb dX4_changeSetting_56 rfl (lv_at hl 1 rfl) ?_
            obtain ⟨zhb15, hf⟩ := ck_some hf
            refine x_iald C0 hw tzv2 zhb15 dX4_changeSetting_57 ?_
            refine lv_topi (fun zv16 ezv16 => ?_)
            have hf := lt_at hf ezv16
            refine lv_istore_n (lv' := [(3, .int zv16), (0, .ref zx0), (1, .int zx1), (2, .int zx2)]) hx hb dX4_changeSetting_58 rfl hl (by decide) rfl (fun ls hl => ?_)
            refine lv_aload_n hx hb dX4_changeSetting_59 rfl (lv_at hl 1 rfl) ?_
            refine xg_4_0 C0 hw zt0 wd297 ezv2 dX4_changeSetting_60 ?_
            refine lv_iload_n hx hb dX4_changeSetting_63 rfl (lv_at hl 2 rfl) ?_
            refine lv_iload_n hx hb dX4_changeSetting_64 rfl (lv_at hl 3 rfl) ?_
            obtain ⟨zI17, ezI17⟩ : ∃ y : Im, y = pA I zv2 (zx1).toNatClampNeg zx2 := ⟨_, rfl⟩
            have hf := lt_at hf ezI17
            refine x_iast C0 hz hw tzv2 zhb15 dX4_changeSetting_65 ezI17 (fun H locs hw => ?_)
            refine lv_iload_n hx hb dX4_changeSetting_66 rfl (lv_at hl 0 rfl) ?_
            obtain rfl := Option.some.inj hf
            exact x_iret C0 hr hw dX4_changeSetting_67
          · have hf := ite_t hf zc14
            exact w4_changeSetting_49 C0 hr hz fl I _ _ _ hw (lv_sub hl [] rfl) hf
      · have hf := ite_f hf zc5
        exact w4_changeSetting_21 C0 hr hz fl I _ _ _ hw (lv_sub hl [] rfl) hf
noncomputable def m4_reelAt_23 (fl : Nat) (len : Nat → Nat) (X : Xm) (I : Im) (zs0 : Option Nat) : Option (Option Nat) :=
  some (zs0)
set_option maxHeartbeats 4000000 in
set_option maxRecDepth 100000 in
theorem w4_reelAt_23 {p : Program} {l : Launch} {e : Env} {s : State} {m : MethodId} {args : Array Value} {below : List Frame} {meth : Method} {c : Code} {E : EN} {G : GM} {X : Xm} {I : Im} (C0 : CX p s m args meth c E cX4_reelAt RX4 2) (hr : meth.sig.returnType = (some (.object "RadioCues$Reel"))) (hz : s.heap.size + 0 ≤ eB E + G.1) {rr : Option Nat} (fl : Nat) : ∀ (H : Heap) (locs : List Loc) (ls : Array Slot) (zs0 : Option Nat) (zts0 : ∀ a, zs0 = some a → okA E G 5 a), WD E G I X s.heap H locs → lv_has ls 2 [] → m4_reelAt_23 fl G.2.2 X I zs0 = some rr → W p l e ({ frames := 0, cells := 0, slots := 0, locals := 0 } : Room) s m args below meth c H locs 0 0 (MQ below (QO E G 5 rr I X) args s 0 0 (eA E)) (F0 m 23 ls [va_rf zs0]) := by
  intro H locs ls zs0 zts0 hw hl hf
  unfold m4_reelAt_23 at hf
  have hx := C0.1; have hb := C0.2.1; have hml := C0.2.2.1; have hown := C0.2.2.2.1; have hts := C0.2.2.2.2.1
  obtain rfl := Option.some.inj hf
  exact x_oret (r := zs0) (k := 5) C0 hr zts0 hw dX4_reelAt_23
noncomputable def m4_reelAt_13 (fl : Nat) (len : Nat → Nat) (X : Xm) (I : Im) : Option (Option Nat) :=
  m4_reelAt_23 fl len X I none
set_option maxHeartbeats 4000000 in
set_option maxRecDepth 100000 in
theorem w4_reelAt_13 {p : Program} {l : Launch} {e : Env} {s : State} {m : MethodId} {args : Array Value} {below : List Frame} {meth : Method} {c : Code} {E : EN} {G : GM} {X : Xm} {I : Im} (C0 : CX p s m args meth c E cX4_reelAt RX4 2) (hr : meth.sig.returnType = (some (.object "RadioCues$Reel"))) (hz : s.heap.size + 0 ≤ eB E + G.1) {rr : Option Nat} (fl : Nat) : ∀ (H : Heap) (locs : List Loc) (ls : Array Slot) , WD E G I X s.heap H locs → lv_has ls 2 [] → m4_reelAt_13 fl G.2.2 X I = some rr → W p l e ({ frames := 0, cells := 0, slots := 0, locals := 0 } : Room) s m args below meth c H locs 0 0 (MQ below (QO E G 5 rr I X) args s 0 0 (eA E)) (F0 m 13 ls []) := by
  intro H locs ls hw hl hf
  unfold m4_reelAt_13 at hf
  have hx := C0.1; have hb := C0.2.1; have hml := C0.2.2.1; have hown := C0.2.2.2.1; have hts := C0.2.2.2.2.1
  refine lv_null hx hb dX4_reelAt_13 ?_
  refine lv_goto (tgt := 23) hx hb dX4_reelAt_14 (by decide) ?_
  exact w4_reelAt_23 C0 hr hz fl _ _ _ none (fun a h => by cases h) hw (lv_sub hl [] rfl) hf
noncomputable def m4_reelAt (fl : Nat) (len : Nat → Nat) (X : Xm) (I : Im) (zx0 : Nat) (zx1 : Int32) : Option (Option Nat) :=
  if zx1 < 0 then
    m4_reelAt_13 fl len X I 
  else
    nn (gR X 66 zx0) fun zv2 =>
    if zx1 < (nI (len zv2)) then
      ck (inb zx1 (len zv2) = true) <|
      nn (gQ X zv2 (zx1).toNatClampNeg) fun zv5 =>
      m4_reelAt_23 fl len X I (some zv5)
    else
      m4_reelAt_13 fl len X I 
theorem hy4_reelAt : yX4_reelAt.cls = RX4 ∧ yX4_reelAt.cls ≠ "java/lang/invoke/MethodHandle" ∧ yX4_reelAt.cls ≠ "java/lang/invoke/VarHandle" ∧ (parseMethodDescriptor yX4_reelAt.desc).map (fun d => d.parameters.length) = some 1 := ⟨rfl, by decide +kernel, by decide +kernel, by decide +kernel⟩
set_option maxHeartbeats 4000000 in
set_option maxRecDepth 100000 in
theorem c4_reelAt (l : Launch) (E : EN) (G : GM) (fl : Nat) (X : Xm) (I : Im) (zx0 : Nat) (zx1 : Int32) (zt0 : okA E G 4 zx0) {rr : Option Nat} (hf : m4_reelAt fl G.2.2 X I zx0 zx1 = some rr) : MT l yX4_reelAt cX4_reelAt 2 (some (.object "RadioCues$Reel")) ({ frames := 0, cells := 0, slots := 0, locals := 0 } : Room) E G I X [.ref zx0, .int zx1] (QO E G 5 rr I X) 0 0 := by
  refine Met.ofW (cc := cX4_reelAt) (maxL := 2) (ret := (some (.object "RadioCues$Reel"))) (by decide +kernel) rfl ?_
  intro p e s m args below meth c s₁ B hml hv
  obtain ⟨rfl, hw0, hSE⟩ := hv
  have C0 : CX p s m ([.ref zx0, .int zx1] : List Value).toArray meth c E cX4_reelAt RX4 2 := ⟨B.exec, B.bytes, hml, findClass_of_methodNamed B.named, fun w hw => atoms_spec (ws := WS yX4_reelAt cX4_reelAt 2 (some (.object "RadioCues$Reel"))) B.pre w (List.mem_cons_of_mem _ hw), B.notSynchronized, hSE⟩
  have hz : s.heap.size + 0 ≤ eB E + G.1 := Nat.le_of_eq hw0.2.1
  have hw : WD E G I X s.heap s.heap [] := ⟨hw0, va_S.rf⟩
  have hr := B.returns
  have hx := C0.1; have hb := C0.2.1; have hml := C0.2.2.1; have hown := C0.2.2.2.1; have hts := C0.2.2.2.2.1
  have hl := lv_entry ([.ref zx0, .int zx1]) (n := 2) (Nat.le_of_ble_eq_true rfl)
  rw [lg_entry_eq]
  generalize (lg_sl ([.ref zx0, .int zx1]) ++ List.replicate (2 - (lg_sl ([.ref zx0, .int zx1])).length) Slot.unset).toArray = ls at hl ⊢
  have hl : lv_has ls 2 [(0, .ref zx0), (1, .int zx1)] := hl
  unfold m4_reelAt at hf
  refine lv_iload_n hx hb dX4_reelAt_0 rfl (lv_at hl 1 rfl) ?_
  refine lv_if_lt (tgt := 13) hx hb dX4_reelAt_1 (by decide) (fun zc1 => ?_) (fun zc1 => ?_)
  · have hf := ite_t hf zc1
    exact w4_reelAt_13 C0 hr hz fl _ _ _ hw (lv_sub hl [] rfl) hf
  · have hf := ite_f hf zc1
    refine lv_iload_n hx hb dX4_reelAt_4 rfl (lv_at hl 1 rfl) ?_
    refine lv_aload_n hx hb dX4_reelAt_5 rfl (lv_at hl 0 rfl) ?_
    obtain ⟨zv2, ezv2, hf⟩ := nn_some hf
    have tzv2 : okA E G 16 zv2 := wt_r hw ezv2
    refine xg_4_2 C0 hw zt0 wd303 ezv2 dX4_reelAt_6 ?_
    refine x_alen C0 hw 16 tzv2 (by decide) rfl dX4_reelAt_9 ?_
    refine lv_icmp_lt (tgt := 17) hx hb dX4_reelAt_10 (by decide) (fun zc3 => ?_) (fun zc3 => ?_)
    · have hf := ite_t hf zc3
      refine lv_aload_n hx hb dX4_reelAt_17 rfl (lv_at hl 0 rfl) ?_
      refine xg_4_2 C0 hw zt0 wd303 ezv2 dX4_reelAt_18 ?_
      refine lv_iload_n hx hb dX4_reelAt_21 rfl (lv_at hl 1 rfl) ?_
      obtain ⟨zhb4, hf⟩ := ck_some hf
      obtain ⟨zv5, ezv5, hf⟩ := nn_some hf
      have tzv5 : okA E G 5 zv5 := wt_q hw tzv2 ezv5
      refine x_qald C0 hw 16 tzv2 (by decide) rfl zhb4 ezv5 dX4_reelAt_22 ?_
      exact w4_reelAt_23 C0 hr hz fl _ _ _ (some zv5) (fun a h => by cases h; exact tzv5) hw (lv_sub hl [] rfl) hf
    · have hf := ite_f hf zc3
      exact w4_reelAt_13 C0 hr hz fl _ _ _ hw (lv_sub hl [] rfl) hf
noncomputable def m5_soundNumbered_31 (fl : Nat) (len : Nat → Nat) (X : Xm) (I : Im) (zs0 : Option Nat) : Option (Option Nat) :=
  some (zs0)
set_option maxHeartbeats 4000000 in
set_option maxRecDepth 100000 in
theorem w5_soundNumbered_31 {p : Program} {l : Launch} {e : Env} {s : State} {m : MethodId} {args : Array Value} {below : List Frame} {meth : Method} {c : Code} {E : EN} {G : GM} {X : Xm} {I : Im} (C0 : CX p s m args meth c E cX5_soundNumbered RX5 2) (hr : meth.sig.returnType = (some (.object "RadioCues$Sound"))) (hz : s.heap.size + 0 ≤ eB E + G.1) {rr : Option Nat} (fl : Nat) : ∀ (H : Heap) (locs : List Loc) (ls : Array Slot) (zs0 : Option Nat) (zts0 : ∀ a, zs0 = some a → okA E G 7 a), WD E G I X s.heap H locs → lv_has ls 2 [] → m5_soundNumbered_31 fl G.2.2 X I zs0 = some rr → W p l e ({ frames := 0, cells := 0, slots := 0, locals := 0 } : Room) s m args below meth c H locs 0 0 (MQ below (QO E G 7 rr I X) args s 0 0 (eA E)) (F0 m 31 ls [va_rf zs0]) := by
  intro H locs ls zs0 zts0 hw hl hf
  unfold m5_soundNumbered_31 at hf
  have hx := C0.1; have hb := C0.2.1; have hml := C0.2.2.1; have hown := C0.2.2.2.1; have hts := C0.2.2.2.2.1
  obtain rfl := Option.some.inj hf
  exact x_oret (r := zs0) (k := 7) C0 hr zts0 hw dX5_soundNumbered_31
noncomputable def m5_soundNumbered_21 (fl : Nat) (len : Nat → Nat) (X : Xm) (I : Im) : Option (Option Nat) :=
  m5_soundNumbered_31 fl len X I none
set_option maxHeartbeats 4000000 in
set_option maxRecDepth 100000 in
theorem w5_soundNumbered_21 {p : Program} {l : Launch} {e : Env} {s : State} {m : MethodId} {args : Array Value} {below : List Frame} {meth : Method} {c : Code} {E : EN} {G : GM} {X : Xm} {I : Im} (C0 : CX p s m args meth c E cX5_soundNumbered RX5 2) (hr : meth.sig.returnType = (some (.object "RadioCues$Sound"))) (hz : s.heap.size + 0 ≤ eB E + G.1) {rr : Option Nat} (fl : Nat) : ∀ (H : Heap) (locs : List Loc) (ls : Array Slot) , WD E G I X s.heap H locs → lv_has ls 2 [] → m5_soundNumbered_21 fl G.2.2 X I = some rr → W p l e ({ frames := 0, cells := 0, slots := 0, locals := 0 } : Room) s m args below meth c H locs 0 0 (MQ below (QO E G 7 rr I X) args s 0 0 (eA E)) (F0 m 21 ls []) := by
  intro H locs ls hw hl hf
  unfold m5_soundNumbered_21 at hf
  have hx := C0.1; have hb := C0.2.1; have hml := C0.2.2.1; have hown := C0.2.2.2.1; have hts := C0.2.2.2.2.1
  refine lv_null hx hb dX5_soundNumbered_21 ?_
  refine lv_goto (tgt := 31) hx hb dX5_soundNumbered_22 (by decide) ?_
  exact w5_soundNumbered_31 C0 hr hz fl _ _ _ none (fun a h => by cases h) hw (lv_sub hl [] rfl) hf
noncomputable def m5_soundNumbered (fl : Nat) (len : Nat → Nat) (X : Xm) (I : Im) (zx0 : Nat) (zx1 : Int32) : Option (Option Nat) :=
  if zx1 < 0 then
    m5_soundNumbered_21 fl len X I 
  else
    if (gF I 81 zx0) ≤ zx1 then
      m5_soundNumbered_21 fl len X I 
    else
      nn (gR X 80 zx0) fun zv3 =>
      if zx1 < (nI (len zv3)) then
        ck (inb zx1 (len zv3) = true) <|
        nn (gQ X zv3 (zx1).toNatClampNeg) fun zv6 =>
        m5_soundNumbered_31 fl len X I (some zv6)
      else
        m5_soundNumbered_21 fl len X I 
theorem hy5_soundNumbered : yX5_soundNumbered.cls = RX5 ∧ yX5_soundNumbered.cls ≠ "java/lang/invoke/MethodHandle" ∧ yX5_soundNumbered.cls ≠ "java/lang/invoke/VarHandle" ∧ (parseMethodDescriptor yX5_soundNumbered.desc).map (fun d => d.parameters.length) = some 1 := ⟨rfl, by decide +kernel, by decide +kernel, by decide +kernel⟩
set_option maxHeartbeats 4000000 in
set_option maxRecDepth 100000 in
theorem c5_soundNumbered (l : Launch) (E : EN) (G : GM) (fl : Nat) (X : Xm) (I : Im) (zx0 : Nat) (zx1 : Int32) (zt0 : okA E G 5 zx0) {rr : Option Nat} (hf : m5_soundNumbered fl G.2.2 X I zx0 zx1 = some rr) : MT l yX5_soundNumbered cX5_soundNumbered 2 (some (.object "RadioCues$Sound")) ({ frames := 0, cells := 0, slots := 0, locals := 0 } : Room) E G I X [.ref zx0, .int zx1] (QO E G 7 rr I X) 0 0 := by
  refine Met.ofW (cc := cX5_soundNumbered) (maxL := 2) (ret := (some (.object "RadioCues$Sound"))) (by decide +kernel) rfl ?_
  intro p e s m args below meth c s₁ B hml hv
  obtain ⟨rfl, hw0, hSE⟩ := hv
  have C0 : CX p s m ([.ref zx0, .int zx1] : List Value).toArray meth c E cX5_soundNumbered RX5 2 := ⟨B.exec, B.bytes, hml, findClass_of_methodNamed B.named, fun w hw => atoms_spec (ws := WS yX5_soundNumbered cX5_soundNumbered 2 (some (.object "RadioCues$Sound"))) B.pre w (List.mem_cons_of_mem _ hw), B.notSynchronized, hSE⟩
  have hz : s.heap.size + 0 ≤ eB E + G.1 := Nat.le_of_eq hw0.2.1
  have hw : WD E G I X s.heap s.heap [] := ⟨hw0, va_S.rf⟩
  have hr := B.returns
  have hx := C0.1; have hb := C0.2.1; have hml := C0.2.2.1; have hown := C0.2.2.2.1; have hts := C0.2.2.2.2.1
  have hl := lv_entry ([.ref zx0, .int zx1]) (n := 2) (Nat.le_of_ble_eq_true rfl)
  rw [lg_entry_eq]
  generalize (lg_sl ([.ref zx0, .int zx1]) ++ List.replicate (2 - (lg_sl ([.ref zx0, .int zx1])).length) Slot.unset).toArray = ls at hl ⊢
  have hl : lv_has ls 2 [(0, .ref zx0), (1, .int zx1)] := hl
  unfold m5_soundNumbered at hf
  refine lv_iload_n hx hb dX5_soundNumbered_0 rfl (lv_at hl 1 rfl) ?_
  refine lv_if_lt (tgt := 21) hx hb dX5_soundNumbered_1 (by decide) (fun zc1 => ?_) (fun zc1 => ?_)
  · have hf := ite_t hf zc1
    exact w5_soundNumbered_21 C0 hr hz fl _ _ _ hw (lv_sub hl [] rfl) hf
  · have hf := ite_f hf zc1
    refine lv_iload_n hx hb dX5_soundNumbered_4 rfl (lv_at hl 1 rfl) ?_
    refine lv_aload_n hx hb dX5_soundNumbered_5 rfl (lv_at hl 0 rfl) ?_
    refine xg_5_1 C0 hw zt0 wd331 dX5_soundNumbered_6 ?_
    refine lv_icmp_ge (tgt := 21) hx hb dX5_soundNumbered_9 (by decide) (fun zc2 => ?_) (fun zc2 => ?_)
    · have hf := ite_t hf zc2
      exact w5_soundNumbered_21 C0 hr hz fl _ _ _ hw (lv_sub hl [] rfl) hf
    · have hf := ite_f hf zc2
      refine lv_iload_n hx hb dX5_soundNumbered_12 rfl (lv_at hl 1 rfl) ?_
      refine lv_aload_n hx hb dX5_soundNumbered_13 rfl (lv_at hl 0 rfl) ?_
      obtain ⟨zv3, ezv3, hf⟩ := nn_some hf
      have tzv3 : okA E G 17 zv3 := wt_r hw ezv3
      refine xg_5_0 C0 hw zt0 wd291 ezv3 dX5_soundNumbered_14 ?_
      refine x_alen C0 hw 17 tzv3 (by decide) rfl dX5_soundNumbered_17 ?_
      refine lv_icmp_lt (tgt := 25) hx hb dX5_soundNumbered_18 (by decide) (fun zc4 => ?_) (fun zc4 => ?_)
      · have hf := ite_t hf zc4
        refine lv_aload_n hx hb dX5_soundNumbered_25 rfl (lv_at hl 0 rfl) ?_
        refine xg_5_0 C0 hw zt0 wd291 ezv3 dX5_soundNumbered_26 ?_
        refine lv_iload_n hx hb dX5_soundNumbered_29 rfl (lv_at hl 1 rfl) ?_
        obtain ⟨zhb5, hf⟩ := ck_some hf
        obtain ⟨zv6, ezv6, hf⟩ := nn_some hf
        have tzv6 : okA E G 7 zv6 := wt_q hw tzv3 ezv6
        refine x_qald C0 hw 17 tzv3 (by decide) rfl zhb5 ezv6 dX5_soundNumbered_30 ?_
        exact w5_soundNumbered_31 C0 hr hz fl _ _ _ (some zv6) (fun a h => by cases h; exact tzv6) hw (lv_sub hl [] rfl) hf
      · have hf := ite_f hf zc4
        exact w5_soundNumbered_21 C0 hr hz fl _ _ _ hw (lv_sub hl [] rfl) hf
noncomputable def m5_tapeLength_28 (fl : Nat) (len : Nat → Nat) (X : Xm) (I : Im) (zs0 : Int32) : Option (Int32) :=
  some (zs0)
set_option maxHeartbeats 4000000 in
set_option maxRecDepth 100000 in
theorem w5_tapeLength_28 {p : Program} {l : Launch} {e : Env} {s : State} {m : MethodId} {args : Array Value} {below : List Frame} {meth : Method} {c : Code} {E : EN} {G : GM} {X : Xm} {I : Im} (C0 : CX p s m args meth c E cX5_tapeLength RX5 2) (hr : meth.sig.returnType = (some .int)) (hz : s.heap.size + 0 ≤ eB E + G.1) {rr : Int32} (fl : Nat) : ∀ (H : Heap) (locs : List Loc) (ls : Array Slot) (zs0 : Int32) , WD E G I X s.heap H locs → lv_has ls 2 [] → m5_tapeLength_28 fl G.2.2 X I zs0 = some rr → W p l e ({ frames := 1, cells := 0, slots := 0, locals := 21 } : Room) s m args below meth c H locs 0 0 (MQ below (QI E G rr I X) args s 0 0 (eA E)) (F0 m 28 ls [.int zs0]) := by
  intro H locs ls zs0 hw hl hf
  unfold m5_tapeLength_28 at hf
  have hx := C0.1; have hb := C0.2.1; have hml := C0.2.2.1; have hown := C0.2.2.2.1; have hts := C0.2.2.2.2.1
  obtain rfl := Option.some.inj hf
  exact x_iret C0 hr hw dX5_tapeLength_28
noncomputable def m5_tapeLength (fl : Nat) (len : Nat → Nat) (X : Xm) (I : Im) (zx0 : Nat) : Option (Int32) :=
  nn (m5_soundNumbered fl len X I zx0 ((gF I 81 zx0) - (1 : Int32))) fun zv1 =>
  if zv1 = none then
    m5_tapeLength_28 fl len X I (0 : Int32)
  else
    nn zv1 fun zb4 =>
    m5_tapeLength_28 fl len X I ((gF I 114 zb4) + (gF I 112 zb4))
theorem hy5_tapeLength : yX5_tapeLength.cls = RX5 ∧ yX5_tapeLength.cls ≠ "java/lang/invoke/MethodHandle" ∧ yX5_tapeLength.cls ≠ "java/lang/invoke/VarHandle" ∧ (parseMethodDescriptor yX5_tapeLength.desc).map (fun d => d.parameters.length) = some 0 := ⟨rfl, by decide +kernel, by decide +kernel, by decide +kernel⟩
set_option maxHeartbeats 4000000 in
set_option maxRecDepth 100000 in
theorem c5_tapeLength (l : Launch) (E : EN) (G : GM) (fl : Nat) (X : Xm) (I : Im) (zx0 : Nat) (zt0 : okA E G 5 zx0) {rr : Int32} (hf : m5_tapeLength fl G.2.2 X I zx0 = some rr) : MT l yX5_tapeLength cX5_tapeLength 2 (some .int) ({ frames := 1, cells := 0, slots := 0, locals := 21 } : Room) E G I X [.ref zx0] (QI E G rr I X) 0 0 := by
  refine Met.ofW (cc := cX5_tapeLength) (maxL := 2) (ret := (some .int)) (by decide +kernel) rfl ?_
  intro p e s m args below meth c s₁ B hml hv
  obtain ⟨rfl, hw0, hSE⟩ := hv
  have C0 : CX p s m ([.ref zx0] : List Value).toArray meth c E cX5_tapeLength RX5 2 := ⟨B.exec, B.bytes, hml, findClass_of_methodNamed B.named, fun w hw => atoms_spec (ws := WS yX5_tapeLength cX5_tapeLength 2 (some .int)) B.pre w (List.mem_cons_of_mem _ hw), B.notSynchronized, hSE⟩
  have hz : s.heap.size + 0 ≤ eB E + G.1 := Nat.le_of_eq hw0.2.1
  have hw : WD E G I X s.heap s.heap [] := ⟨hw0, va_S.rf⟩
  have hr := B.returns
  have hx := C0.1; have hb := C0.2.1; have hml := C0.2.2.1; have hown := C0.2.2.2.1; have hts := C0.2.2.2.2.1
  have hl := lv_entry ([.ref zx0]) (n := 2) (Nat.le_of_ble_eq_true rfl)
  rw [lg_entry_eq]
  generalize (lg_sl ([.ref zx0]) ++ List.replicate (2 - (lg_sl ([.ref zx0])).length) Slot.unset).toArray = ls at hl ⊢
  have hl : lv_has ls 2 [(0, .ref zx0)] := hl
  unfold m5_tapeLength at hf
  refine lv_aload_n hx hb dX5_tapeLength_0 rfl (lv_at hl 0 rfl) ?_
  refine lv_aload_n hx hb dX5_tapeLength_1 rfl (lv_at hl 0 rfl) ?_
  refine xg_5_1 C0 hw zt0 wd331 dX5_tapeLength_2 ?_
  refine lv_iconst (v := (1 : Int32)) hx hb dX5_tapeLength_5 (by decide) ?_
  refine lv_isub hx hb dX5_tapeLength_6 ?_
  obtain ⟨zv1, ze2, hf⟩ := nn_some hf
  refine x_co (r := zv1) (I1 := I) (X1 := X) (x_runV (As := [.int ((gF I 81 zx0) - (1 : Int32))]) (rest := []) C0 (c5_soundNumbered l E G fl X I zx0 ((gF I 81 zx0) - (1 : Int32)) zt0 ze2) hw 5 zt0 (by decide) rfl wd44 wd360 wd361 wd362 wd313 ⟨rfl, rfl⟩ hy5_soundNumbered ⟨Nat.le_of_ble_eq_true rfl, Nat.le_of_ble_eq_true rfl⟩ rfl hl.1 (Nat.le_of_ble_eq_true rfl) ⟨Nat.zero_le _, Nat.zero_le _⟩ dX5_tapeLength_7) hw (fun H locs hw tzv1 => ?_)
  refine x_astore_n (lv' := [(1, va_rf zv1), (0, .ref zx0)]) C0 dX5_tapeLength_10 rfl hl (by decide) rfl (fun ls hl => ?_)
  refine x_aload_n C0 dX5_tapeLength_11 rfl (lv_at hl 0 rfl) ?_
  refine x_ifnonnull (tgt := 19) C0 dX5_tapeLength_12 (by decide) (fun zc3 => ?_) (fun zc3 => ?_)
  · have hf := ite_f hf zc3
    refine x_aload_n C0 dX5_tapeLength_19 rfl (lv_at hl 0 rfl) ?_
    obtain ⟨zb4, ezb4, hfzb4⟩ := nn_some hf
    have tzb4 : okA E G 7 zb4 := tzv1 _ ezb4
    subst ezb4
    have hf := hfzb4
    refine xg_7_2 C0 hw tzb4 wd358 dX5_tapeLength_20 ?_
    refine lv_aload_n hx hb dX5_tapeLength_23 rfl (lv_at hl 0 rfl) ?_
    refine xg_7_0 C0 hw tzb4 wd359 dX5_tapeLength_24 ?_
    refine lv_iadd hx hb dX5_tapeLength_27 ?_
    exact w5_tapeLength_28 C0 hr hz fl _ _ _ ((gF I 114 zb4) + (gF I 112 zb4)) hw (lv_sub hl [] rfl) hf
  · have hf := ite_t hf zc3
    refine lv_iconst (v := (0 : Int32)) hx hb dX5_tapeLength_15 (by decide) ?_
    refine lv_goto (tgt := 28) hx hb dX5_tapeLength_16 (by decide) ?_
    exact w5_tapeLength_28 C0 hr hz fl _ _ _ (0 : Int32) hw (lv_sub hl [] rfl) hf
noncomputable def m5_appendSound_19 (fl : Nat) (len : Nat → Nat) (X : Xm) (I : Im) : Option (Int32 × Im) :=
  some ((-4 : Int32), I)
set_option maxHeartbeats 4000000 in
set_option maxRecDepth 100000 in
theorem w5_appendSound_19 {p : Program} {l : Launch} {e : Env} {s : State} {m : MethodId} {args : Array Value} {below : List Frame} {meth : Method} {c : Code} {E : EN} {G : GM} {X : Xm} (C0 : CX p s m args meth c E cX5_appendSound RX5 4) (hr : meth.sig.returnType = (some .int)) (hz : s.heap.size + 0 ≤ eB E + G.1) {rr : Int32 × Im} (fl : Nat) : ∀ (I : Im) (H : Heap) (locs : List Loc) (ls : Array Slot) , WD E G I X s.heap H locs → lv_has ls 4 [] → m5_appendSound_19 fl G.2.2 X I = some rr → W p l e ({ frames := 2, cells := 0, slots := 0, locals := 42 } : Room) s m args below meth c H locs 0 0 (MQ below (QI E G rr.1 rr.2 X) args s 0 0 (eA E)) (F0 m 19 ls []) := by
  intro I H locs ls hw hl hf
  unfold m5_appendSound_19 at hf
  have hx := C0.1; have hb := C0.2.1; have hml := C0.2.2.1; have hown := C0.2.2.2.1; have hts := C0.2.2.2.2.1
  refine lv_bipush (v := (-4 : Int32)) hx hb dX5_appendSound_19 (by decide) ?_
  obtain rfl := Option.some.inj hf
  exact x_iret C0 hr hw dX5_appendSound_21
noncomputable def m5_appendSound (fl : Nat) (len : Nat → Nat) (X : Xm) (I : Im) (zx0 : Nat) (zx1 : Int32) (zx2 : Int32) : Option (Int32 × Im) :=
  if (gF I 81 zx0) < 0 then
    m5_appendSound_19 fl len X I
  else
    nn (gR X 80 zx0) fun zv2 =>
    if (gF I 81 zx0) < (nI (len zv2)) then
      ck (inb (gF I 81 zx0) (len zv2) = true) <|
      nn (gQ X zv2 ((gF I 81 zx0)).toNatClampNeg) fun zv5 =>
      nn (m5_tapeLength fl len X I zx0) fun zv6 =>
      lt (pF I 114 zv5 zv6) fun zI8 =>
      lt (pF zI8 112 zv5 zx1) fun zI9 =>
      lt (pF zI9 113 zv5 zx2) fun zI10 =>
      lt (pF zI10 115 zv5 (0 : Int32)) fun zI11 =>
      lt (pF zI11 81 zx0 ((gF zI11 81 zx0) + (1 : Int32))) fun zI12 =>
      some (((gF zI12 81 zx0) - (1 : Int32)), zI12)
    else
      m5_appendSound_19 fl len X I
theorem hy5_appendSound : yX5_appendSound.cls = RX5 ∧ yX5_appendSound.cls ≠ "java/lang/invoke/MethodHandle" ∧ yX5_appendSound.cls ≠ "java/lang/invoke/VarHandle" ∧ (parseMethodDescriptor yX5_appendSound.desc).map (fun d => d.parameters.length) = some 2 := ⟨rfl, by decide +kernel, by decide +kernel, by decide +kernel⟩
set_option maxHeartbeats 4000000 in
set_option maxRecDepth 100000 in
theorem c5_appendSound (l : Launch) (E : EN) (G : GM) (fl : Nat) (X : Xm) (I : Im) (zx0 : Nat) (zx1 : Int32) (zx2 : Int32) (zt0 : okA E G 5 zx0) {rr : Int32 × Im} (hf : m5_appendSound fl G.2.2 X I zx0 zx1 zx2 = some rr) : MT l yX5_appendSound cX5_appendSound 4 (some .int) ({ frames := 2, cells := 0, slots := 0, locals := 42 } : Room) E G I X [.ref zx0, .int zx1, .int zx2] (QI E G rr.1 rr.2 X) 0 0 := by
  refine Met.ofW (cc := cX5_appendSound) (maxL := 4) (ret := (some .int)) (by decide +kernel) rfl ?_
  intro p e s m args below meth c s₁ B hml hv
  obtain ⟨rfl, hw0, hSE⟩ := hv
  have C0 : CX p s m ([.ref zx0, .int zx1, .int zx2] : List Value).toArray meth c E cX5_appendSound RX5 4 := ⟨B.exec, B.bytes, hml, findClass_of_methodNamed B.named, fun w hw => atoms_spec (ws := WS yX5_appendSound cX5_appendSound 4 (some .int)) B.pre w (List.mem_cons_of_mem _ hw), B.notSynchronized, hSE⟩
  have hz : s.heap.size + 0 ≤ eB E + G.1 := Nat.le_of_eq hw0.2.1
  have hw : WD E G I X s.heap s.heap [] := ⟨hw0, va_S.rf⟩
  have hr := B.returns
  have hx := C0.1; have hb := C0.2.1; have hml := C0.2.2.1; have hown := C0.2.2.2.1; have hts := C0.2.2.2.2.1
  have hl := lv_entry ([.ref zx0, .int zx1, .int zx2]) (n := 4) (Nat.le_of_ble_eq_true rfl)
  rw [lg_entry_eq]
  generalize (lg_sl ([.ref zx0, .int zx1, .int zx2]) ++ List.replicate (4 - (lg_sl ([.ref zx0, .int zx1, .int zx2])).length) Slot.unset).toArray = ls at hl ⊢
  have hl : lv_has ls 4 [(0, .ref zx0), (1, .int zx1), (2, .int zx2)] := hl
  unfold m5_appendSound at hf
  refine lv_aload_n hx hb dX5_appendSound_0 rfl (lv_at hl 0 rfl) ?_
  refine xg_5_1 C0 hw zt0 wd331 dX5_appendSound_1 ?_
  refine lv_if_lt (tgt := 19) hx hb dX5_appendSound_4 (by decide) (fun zc1 => ?_) (fun zc1 => ?_)
  · have hf := ite_t hf zc1
    exact w5_appendSound_19 C0 hr hz fl I _ _ _ hw (lv_sub hl [] rfl) hf
  · have hf := ite_f hf zc1
    refine lv_aload_n hx hb dX5_appendSound_7 rfl (lv_at hl 0 rfl) ?_
    refine xg_5_1 C0 hw zt0 wd331 dX5_appendSound_8 ?_
    refine lv_aload_n hx hb dX5_appendSound_11 rfl (lv_at hl 0 rfl) ?_
    obtain ⟨zv2, ezv2, hf⟩ := nn_some hf
    have tzv2 : okA E G 17 zv2 := wt_r hw ezv2
    refine xg_5_0 C0 hw zt0 wd291 ezv2 dX5_appendSound_12 ?_
    refine x_alen C0 hw 17 tzv2 (by decide) rfl dX5_appendSound_15 ?_
    refine lv_icmp_lt (tgt := 22) hx hb dX5_appendSound_16 (by decide) (fun zc3 => ?_) (fun zc3 => ?_)
    · have hf := ite_t hf zc3
      refine lv_aload_n hx hb dX5_appendSound_22 rfl (lv_at hl 0 rfl) ?_
      refine xg_5_0 C0 hw zt0 wd291 ezv2 dX5_appendSound_23 ?_
      refine lv_aload_n hx hb dX5_appendSound_26 rfl (lv_at hl 0 rfl) ?_
      refine xg_5_1 C0 hw zt0 wd331 dX5_appendSound_27 ?_
      obtain ⟨zhb4, hf⟩ := ck_some hf
      obtain ⟨zv5, ezv5, hf⟩ := nn_some hf
      have tzv5 : okA E G 7 zv5 := wt_q hw tzv2 ezv5
      refine x_qald C0 hw 17 tzv2 (by decide) rfl zhb4 ezv5 dX5_appendSound_30 ?_
      refine lv_astore_n (lv' := [(3, .ref zv5), (0, .ref zx0), (1, .int zx1), (2, .int zx2)]) hx hb dX5_appendSound_31 rfl hl (by decide) rfl (fun ls hl => ?_)
      refine lv_aload_n hx hb dX5_appendSound_32 rfl (lv_at hl 0 rfl) ?_
      refine lv_aload_n hx hb dX5_appendSound_33 rfl (lv_at hl 1 rfl) ?_
      obtain ⟨zv6, ze7, hf⟩ := nn_some hf
      refine x_ci (r := zv6) (I1 := I) (X1 := X) (x_runV (As := []) (rest := [.ref zv5]) C0 (c5_tapeLength l E G fl X I zx0 zt0 ze7) hw 5 zt0 (by decide) rfl wd45 wd365 wd366 wd367 wd313 ⟨rfl, rfl⟩ hy5_tapeLength ⟨Nat.le_of_ble_eq_true rfl, Nat.le_of_ble_eq_true rfl⟩ rfl hl.1 (Nat.le_of_ble_eq_true rfl) ⟨Nat.zero_le _, Nat.zero_le _⟩ dX5_appendSound_34) hw (fun H locs hw => ?_)
      obtain ⟨zI8, ezI8⟩ : ∃ y : Im, y = pF I 114 zv5 zv6 := ⟨_, rfl⟩
      have hf := lt_at hf ezI8
      refine xp_7_2 C0 hz hw tzv5 rfl rfl wd358 dX5_appendSound_37 ezI8 (fun H locs hw => ?_)
      refine lv_aload_n hx hb dX5_appendSound_40 rfl (lv_at hl 0 rfl) ?_
      refine lv_iload_n hx hb dX5_appendSound_41 rfl (lv_at hl 2 rfl) ?_
      obtain ⟨zI9, ezI9⟩ : ∃ y : Im, y = pF zI8 112 zv5 zx1 := ⟨_, rfl⟩
      have hf := lt_at hf ezI9
      refine xp_7_0 C0 hz hw tzv5 rfl rfl wd359 dX5_appendSound_42 ezI9 (fun H locs hw => ?_)
      refine lv_aload_n hx hb dX5_appendSound_45 rfl (lv_at hl 0 rfl) ?_
      refine lv_iload_n hx hb dX5_appendSound_46 rfl (lv_at hl 3 rfl) ?_
      obtain ⟨zI10, ezI10⟩ : ∃ y : Im, y = pF zI9 113 zv5 zx2 := ⟨_, rfl⟩
      have hf := lt_at hf ezI10
      refine xp_7_1 C0 hz hw tzv5 rfl rfl wd363 dX5_appendSound_47 ezI10 (fun H locs hw => ?_)
      refine lv_aload_n hx hb dX5_appendSound_50 rfl (lv_at hl 0 rfl) ?_
      refine lv_iconst (v := (0 : Int32)) hx hb dX5_appendSound_51 (by decide) ?_
      obtain ⟨zI11, ezI11⟩ : ∃ y : Im, y = pF zI10 115 zv5 (0 : Int32) := ⟨_, rfl⟩
      have hf := lt_at hf ezI11
      refine xp_7_3 C0 hz hw tzv5 rfl rfl wd364 dX5_appendSound_52 ezI11 (fun H locs hw => ?_)
      refine lv_aload_n hx hb dX5_appendSound_55 rfl (lv_at hl 1 rfl) ?_
      refine lv_dup hx hb dX5_appendSound_56 rfl ?_
      refine xg_5_1 C0 hw zt0 wd331 dX5_appendSound_57 ?_
      refine lv_iconst (v := (1 : Int32)) hx hb dX5_appendSound_60 (by decide) ?_
      refine lv_iadd hx hb dX5_appendSound_61 ?_
      obtain ⟨zI12, ezI12⟩ : ∃ y : Im, y = pF zI11 81 zx0 ((gF zI11 81 zx0) + (1 : Int32)) := ⟨_, rfl⟩
      have hf := lt_at hf ezI12
      refine xp_5_1 C0 hz hw zt0 rfl rfl wd331 dX5_appendSound_62 ezI12 (fun H locs hw => ?_)
      refine lv_aload_n hx hb dX5_appendSound_65 rfl (lv_at hl 1 rfl) ?_
      refine xg_5_1 C0 hw zt0 wd331 dX5_appendSound_66 ?_
      refine lv_iconst (v := (1 : Int32)) hx hb dX5_appendSound_69 (by decide) ?_
      refine lv_isub hx hb dX5_appendSound_70 ?_
      obtain rfl := Option.some.inj hf
      exact x_iret C0 hr hw dX5_appendSound_71
    · have hf := ite_f hf zc3
      exact w5_appendSound_19 C0 hr hz fl I _ _ _ hw (lv_sub hl [] rfl) hf
noncomputable def m4_addSound_34 (fl : Nat) (len : Nat → Nat) (X : Xm) (I : Im) : Option (Int32 × Im) :=
  some ((-2 : Int32), I)
set_option maxHeartbeats 4000000 in
set_option maxRecDepth 100000 in
theorem w4_addSound_34 {p : Program} {l : Launch} {e : Env} {s : State} {m : MethodId} {args : Array Value} {below : List Frame} {meth : Method} {c : Code} {E : EN} {G : GM} {X : Xm} (C0 : CX p s m args meth c E cX4_addSound RX4 5) (hr : meth.sig.returnType = (some .int)) (hz : s.heap.size + 0 ≤ eB E + G.1) {rr : Int32 × Im} (fl : Nat) : ∀ (I : Im) (H : Heap) (locs : List Loc) (ls : Array Slot) , WD E G I X s.heap H locs → lv_has ls 5 [] → m4_addSound_34 fl G.2.2 X I = some rr → W p l e ({ frames := 3, cells := 0, slots := 0, locals := 65 } : Room) s m args below meth c H locs 0 0 (MQ below (QI E G rr.1 rr.2 X) args s 0 0 (eA E)) (F0 m 34 ls []) := by
  intro I H locs ls hw hl hf
  unfold m4_addSound_34 at hf
  have hx := C0.1; have hb := C0.2.1; have hml := C0.2.2.1; have hown := C0.2.2.2.1; have hts := C0.2.2.2.2.1
  refine lv_bipush (v := (-2 : Int32)) hx hb dX4_addSound_34 (by decide) ?_
  obtain rfl := Option.some.inj hf
  exact x_iret C0 hr hw dX4_addSound_36
noncomputable def m4_addSound (fl : Nat) (len : Nat → Nat) (X : Xm) (I : Im) (zx0 : Nat) (zx1 : Int32) (zx2 : Int32) (zx3 : Int32) : Option (Int32 × Im) :=
  nn (m4_reelAt fl len X I zx0 zx1) fun zv1 =>
  if zv1 = none then
    some ((-1 : Int32), I)
  else
    nn (m8_within fl len X I zx2 (1 : Int32) (60 : Int32)) fun zv4 =>
    if zv4 = 0 then
      m4_addSound_34 fl len X I
    else
      nn (m8_within fl len X I zx3 (1 : Int32) (99 : Int32)) fun zv7 =>
      if zv7 = 0 then
        m4_addSound_34 fl len X I
      else
        nn zv1 fun zb10 =>
        nn (m5_appendSound fl len X I zb10 zx2 zx3) fun ⟨zv11, zI12⟩ =>
        some (zv11, zI12)
theorem hy4_addSound : yX4_addSound.cls = RX4 ∧ yX4_addSound.cls ≠ "java/lang/invoke/MethodHandle" ∧ yX4_addSound.cls ≠ "java/lang/invoke/VarHandle" ∧ (parseMethodDescriptor yX4_addSound.desc).map (fun d => d.parameters.length) = some 3 := ⟨rfl, by decide +kernel, by decide +kernel, by decide +kernel⟩
set_option maxHeartbeats 4000000 in
set_option maxRecDepth 100000 in
theorem c4_addSound (l : Launch) (E : EN) (G : GM) (fl : Nat) (X : Xm) (I : Im) (zx0 : Nat) (zx1 : Int32) (zx2 : Int32) (zx3 : Int32) (zt0 : okA E G 4 zx0) {rr : Int32 × Im} (hf : m4_addSound fl G.2.2 X I zx0 zx1 zx2 zx3 = some rr) : MT l yX4_addSound cX4_addSound 5 (some .int) ({ frames := 3, cells := 0, slots := 0, locals := 65 } : Room) E G I X [.ref zx0, .int zx1, .int zx2, .int zx3] (QI E G rr.1 rr.2 X) 0 0 := by
  refine Met.ofW (cc := cX4_addSound) (maxL := 5) (ret := (some .int)) (by decide +kernel) rfl ?_
  intro p e s m args below meth c s₁ B hml hv
  obtain ⟨rfl, hw0, hSE⟩ := hv
  have C0 : CX p s m ([.ref zx0, .int zx1, .int zx2, .int zx3] : List Value).toArray meth c E cX4_addSound RX4 5 := ⟨B.exec, B.bytes, hml, findClass_of_methodNamed B.named, fun w hw => atoms_spec (ws := WS yX4_addSound cX4_addSound 5 (some .int)) B.pre w (List.mem_cons_of_mem _ hw), B.notSynchronized, hSE⟩
  have hz : s.heap.size + 0 ≤ eB E + G.1 := Nat.le_of_eq hw0.2.1
  have hw : WD E G I X s.heap s.heap [] := ⟨hw0, va_S.rf⟩
  have hr := B.returns
  have hx := C0.1; have hb := C0.2.1; have hml := C0.2.2.1; have hown := C0.2.2.2.1; have hts := C0.2.2.2.2.1
  have hl := lv_entry ([.ref zx0, .int zx1, .int zx2, .int zx3]) (n := 5) (Nat.le_of_ble_eq_true rfl)
  rw [lg_entry_eq]
  generalize (lg_sl ([.ref zx0, .int zx1, .int zx2, .int zx3]) ++ List.replicate (5 - (lg_sl ([.ref zx0, .int zx1, .int zx2, .int zx3])).length) Slot.unset).toArray = ls at hl ⊢
  have hl : lv_has ls 5 [(0, .ref zx0), (1, .int zx1), (2, .int zx2), (3, .int zx3)] := hl
  unfold m4_addSound at hf
  refine lv_aload_n hx hb dX4_addSound_0 rfl (lv_at hl 0 rfl) ?_
  refine lv_iload_n hx hb dX4_addSound_1 rfl (lv_at hl 1 rfl) ?_
  obtain ⟨zv1, ze2, hf⟩ := nn_some hf
  refine x_co (r := zv1) (I1 := I) (X1 := X) (x_runV (As := [.int zx1]) (rest := []) C0 (c4_reelAt l E G fl X I zx0 zx1 zt0 ze2) hw 4 zt0 (by decide) rfl wd43 wd368 wd369 wd370 wd356 ⟨rfl, rfl⟩ hy4_reelAt ⟨Nat.le_of_ble_eq_true rfl, Nat.le_of_ble_eq_true rfl⟩ rfl hl.1 (Nat.le_of_ble_eq_true rfl) ⟨Nat.zero_le _, Nat.zero_le _⟩ dX4_addSound_2) hw (fun H locs hw tzv1 => ?_)
  refine x_astore (lv' := [(4, va_rf zv1), (0, .ref zx0), (1, .int zx1), (2, .int zx2), (3, .int zx3)]) C0 dX4_addSound_5 hl (by decide) rfl (fun ls hl => ?_)
  refine x_aload C0 dX4_addSound_7 (lv_at hl 0 rfl) ?_
  refine x_ifnonnull (tgt := 14) C0 dX4_addSound_9 (by decide) (fun zc3 => ?_) (fun zc3 => ?_)
  · have hf := ite_f hf zc3
    refine lv_iload_n hx hb dX4_addSound_14 rfl (lv_at hl 3 rfl) ?_
    refine lv_iconst (v := (1 : Int32)) hx hb dX4_addSound_15 (by decide) ?_
    refine lv_bipush (v := (60 : Int32)) hx hb dX4_addSound_16 (by decide) ?_
    obtain ⟨zv4, ze5, hf⟩ := nn_some hf
    refine x_ci (r := zv4) (I1 := I) (X1 := X) (x_runSN (As := [.int zx2, .int (1 : Int32), .int (60 : Int32)]) (rest := []) (host := "RadioCues") C0 (c8_within l E G fl X I zx2 (1 : Int32) (60 : Int32) ze5) hw wd41 (List.mem_of_getElem? (i := 5) rfl) wd357 wd197 ⟨rfl, rfl⟩ hy8_within.2 ⟨Nat.le_of_ble_eq_true rfl, Nat.le_of_ble_eq_true rfl⟩ rfl hl.1 (Nat.le_of_ble_eq_true rfl) ⟨Nat.zero_le _, Nat.zero_le _⟩ dX4_addSound_18) hw (fun H locs hw => ?_)
    refine lv_if_eq (tgt := 34) hx hb dX4_addSound_21 (by decide) (fun zc6 => ?_) (fun zc6 => ?_)
    · have hf := ite_t hf zc6
      exact w4_addSound_34 C0 hr hz fl I _ _ _ hw (lv_sub hl [] rfl) hf
    · have hf := ite_f hf zc6
      refine lv_iload_n hx hb dX4_addSound_24 rfl (lv_at hl 4 rfl) ?_
      refine lv_iconst (v := (1 : Int32)) hx hb dX4_addSound_25 (by decide) ?_
      refine lv_bipush (v := (99 : Int32)) hx hb dX4_addSound_26 (by decide) ?_
      obtain ⟨zv7, ze8, hf⟩ := nn_some hf
      refine x_ci (r := zv7) (I1 := I) (X1 := X) (x_runSN (As := [.int zx3, .int (1 : Int32), .int (99 : Int32)]) (rest := []) (host := "RadioCues") C0 (c8_within l E G fl X I zx3 (1 : Int32) (99 : Int32) ze8) hw wd41 (List.mem_of_getElem? (i := 5) rfl) wd357 wd197 ⟨rfl, rfl⟩ hy8_within.2 ⟨Nat.le_of_ble_eq_true rfl, Nat.le_of_ble_eq_true rfl⟩ rfl hl.1 (Nat.le_of_ble_eq_true rfl) ⟨Nat.zero_le _, Nat.zero_le _⟩ dX4_addSound_28) hw (fun H locs hw => ?_)
      refine lv_if_ne (tgt := 37) hx hb dX4_addSound_31 (by decide) (fun zc9 => ?_) (fun zc9 => ?_)
      · have hf := ite_f hf zc9
        refine x_aload C0 dX4_addSound_37 (lv_at hl 0 rfl) ?_
        refine lv_iload_n hx hb dX4_addSound_39 rfl (lv_at hl 3 rfl) ?_
        refine lv_iload_n hx hb dX4_addSound_40 rfl (lv_at hl 4 rfl) ?_
        obtain ⟨zb10, ezb10, hfzb10⟩ := nn_some hf
        have tzb10 : okA E G 5 zb10 := tzv1 _ ezb10
        subst ezb10
        have hf := hfzb10
        obtain ⟨⟨zv11, zI12⟩, ze13, hf⟩ := nn_some hf
        refine x_ci (r := zv11) (I1 := zI12) (X1 := X) (x_runV (As := [.int zx2, .int zx3]) (rest := []) C0 (c5_appendSound l E G fl X I zb10 zx2 zx3 tzb10 ze13) hw 5 tzb10 (by decide) rfl wd46 wd371 wd372 wd373 wd313 ⟨rfl, rfl⟩ hy5_appendSound ⟨Nat.le_of_ble_eq_true rfl, Nat.le_of_ble_eq_true rfl⟩ rfl hl.1 (Nat.le_of_ble_eq_true rfl) ⟨Nat.zero_le _, Nat.zero_le _⟩ dX4_addSound_41) hw (fun H locs hw => ?_)
        obtain rfl := Option.some.inj hf
        exact x_iret C0 hr hw dX4_addSound_44
      · have hf := ite_t hf zc9
        exact w4_addSound_34 C0 hr hz fl I _ _ _ hw (lv_sub hl [] rfl) hf
  · have hf := ite_t hf zc3
    refine lv_iconst (v := (-1 : Int32)) hx hb dX4_addSound_12 (by decide) ?_
    obtain rfl := Option.some.inj hf
    exact x_iret C0 hr hw dX4_addSound_13
noncomputable def m4_soundAt_19 (fl : Nat) (len : Nat → Nat) (X : Xm) (I : Im) (zs0 : Option Nat) : Option (Option Nat) :=
  some (zs0)
set_option maxHeartbeats 4000000 in
set_option maxRecDepth 100000 in
theorem w4_soundAt_19 {p : Program} {l : Launch} {e : Env} {s : State} {m : MethodId} {args : Array Value} {below : List Frame} {meth : Method} {c : Code} {E : EN} {G : GM} {X : Xm} {I : Im} (C0 : CX p s m args meth c E cX4_soundAt RX4 4) (hr : meth.sig.returnType = (some (.object "RadioCues$Sound"))) (hz : s.heap.size + 0 ≤ eB E + G.1) {rr : Option Nat} (fl : Nat) : ∀ (H : Heap) (locs : List Loc) (ls : Array Slot) (zs0 : Option Nat) (zts0 : ∀ a, zs0 = some a → okA E G 7 a), WD E G I X s.heap H locs → lv_has ls 4 [] → m4_soundAt_19 fl G.2.2 X I zs0 = some rr → W p l e ({ frames := 1, cells := 0, slots := 0, locals := 21 } : Room) s m args below meth c H locs 0 0 (MQ below (QO E G 7 rr I X) args s 0 0 (eA E)) (F0 m 19 ls [va_rf zs0]) := by
  intro H locs ls zs0 zts0 hw hl hf
  unfold m4_soundAt_19 at hf
  have hx := C0.1; have hb := C0.2.1; have hml := C0.2.2.1; have hown := C0.2.2.2.1; have hts := C0.2.2.2.2.1
  obtain rfl := Option.some.inj hf
  exact x_oret (r := zs0) (k := 7) C0 hr zts0 hw dX4_soundAt_19
noncomputable def m4_soundAt (fl : Nat) (len : Nat → Nat) (X : Xm) (I : Im) (zx0 : Nat) (zx1 : Int32) (zx2 : Int32) : Option (Option Nat) :=
  nn (m4_reelAt fl len X I zx0 zx1) fun zv1 =>
  if zv1 = none then
    m4_soundAt_19 fl len X I none
  else
    nn zv1 fun zb4 =>
    nn (m5_soundNumbered fl len X I zb4 zx2) fun zv5 =>
    m4_soundAt_19 fl len X I zv5
theorem hy4_soundAt : yX4_soundAt.cls = RX4 ∧ yX4_soundAt.cls ≠ "java/lang/invoke/MethodHandle" ∧ yX4_soundAt.cls ≠ "java/lang/invoke/VarHandle" ∧ (parseMethodDescriptor yX4_soundAt.desc).map (fun d => d.parameters.length) = some 2 := ⟨rfl, by decide +kernel, by decide +kernel, by decide +kernel⟩
set_option maxHeartbeats 4000000 in
set_option maxRecDepth 100000 in
theorem c4_soundAt (l : Launch) (E : EN) (G : GM) (fl : Nat) (X : Xm) (I : Im) (zx0 : Nat) (zx1 : Int32) (zx2 : Int32) (zt0 : okA E G 4 zx0) {rr : Option Nat} (hf : m4_soundAt fl G.2.2 X I zx0 zx1 zx2 = some rr) : MT l yX4_soundAt cX4_soundAt 4 (some (.object "RadioCues$Sound")) ({ frames := 1, cells := 0, slots := 0, locals := 21 } : Room) E G I X [.ref zx0, .int zx1, .int zx2] (QO E G 7 rr I X) 0 0 := by
  refine Met.ofW (cc := cX4_soundAt) (maxL := 4) (ret := (some (.object "RadioCues$Sound"))) (by decide +kernel) rfl ?_
  intro p e s m args below meth c s₁ B hml hv
  obtain ⟨rfl, hw0, hSE⟩ := hv
  have C0 : CX p s m ([.ref zx0, .int zx1, .int zx2] : List Value).toArray meth c E cX4_soundAt RX4 4 := ⟨B.exec, B.bytes, hml, findClass_of_methodNamed B.named, fun w hw => atoms_spec (ws := WS yX4_soundAt cX4_soundAt 4 (some (.object "RadioCues$Sound"))) B.pre w (List.mem_cons_of_mem _ hw), B.notSynchronized, hSE⟩
  have hz : s.heap.size + 0 ≤ eB E + G.1 := Nat.le_of_eq hw0.2.1
  have hw : WD E G I X s.heap s.heap [] := ⟨hw0, va_S.rf⟩
  have hr := B.returns
  have hx := C0.1; have hb := C0.2.1; have hml := C0.2.2.1; have hown := C0.2.2.2.1; have hts := C0.2.2.2.2.1
  have hl := lv_entry ([.ref zx0, .int zx1, .int zx2]) (n := 4) (Nat.le_of_ble_eq_true rfl)
  rw [lg_entry_eq]
  generalize (lg_sl ([.ref zx0, .int zx1, .int zx2]) ++ List.replicate (4 - (lg_sl ([.ref zx0, .int zx1, .int zx2])).length) Slot.unset).toArray = ls at hl ⊢
  have hl : lv_has ls 4 [(0, .ref zx0), (1, .int zx1), (2, .int zx2)] := hl
  unfold m4_soundAt at hf
  refine lv_aload_n hx hb dX4_soundAt_0 rfl (lv_at hl 0 rfl) ?_
  refine lv_iload_n hx hb dX4_soundAt_1 rfl (lv_at hl 1 rfl) ?_
  obtain ⟨zv1, ze2, hf⟩ := nn_some hf
  refine x_co (r := zv1) (I1 := I) (X1 := X) (x_runV (As := [.int zx1]) (rest := []) C0 (c4_reelAt l E G fl X I zx0 zx1 zt0 ze2) hw 4 zt0 (by decide) rfl wd43 wd368 wd369 wd370 wd356 ⟨rfl, rfl⟩ hy4_reelAt ⟨Nat.le_of_ble_eq_true rfl, Nat.le_of_ble_eq_true rfl⟩ rfl hl.1 (Nat.le_of_ble_eq_true rfl) ⟨Nat.zero_le _, Nat.zero_le _⟩ dX4_soundAt_2) hw (fun H locs hw tzv1 => ?_)
  refine x_astore_n (lv' := [(3, va_rf zv1), (0, .ref zx0), (1, .int zx1), (2, .int zx2)]) C0 dX4_soundAt_5 rfl hl (by decide) rfl (fun ls hl => ?_)
  refine x_aload_n C0 dX4_soundAt_6 rfl (lv_at hl 0 rfl) ?_
  refine x_ifnonnull (tgt := 14) C0 dX4_soundAt_7 (by decide) (fun zc3 => ?_) (fun zc3 => ?_)
  · have hf := ite_f hf zc3
    refine x_aload_n C0 dX4_soundAt_14 rfl (lv_at hl 0 rfl) ?_
    refine lv_iload_n hx hb dX4_soundAt_15 rfl (lv_at hl 3 rfl) ?_
    obtain ⟨zb4, ezb4, hfzb4⟩ := nn_some hf
    have tzb4 : okA E G 5 zb4 := tzv1 _ ezb4
    subst ezb4
    have hf := hfzb4
    obtain ⟨zv5, ze6, hf⟩ := nn_some hf
    refine x_co (r := zv5) (I1 := I) (X1 := X) (x_runV (As := [.int zx2]) (rest := []) C0 (c5_soundNumbered l E G fl X I zb4 zx2 tzb4 ze6) hw 5 tzb4 (by decide) rfl wd44 wd374 wd361 wd362 wd313 ⟨rfl, rfl⟩ hy5_soundNumbered ⟨Nat.le_of_ble_eq_true rfl, Nat.le_of_ble_eq_true rfl⟩ rfl hl.1 (Nat.le_of_ble_eq_true rfl) ⟨Nat.zero_le _, Nat.zero_le _⟩ dX4_soundAt_16) hw (fun H locs hw tzv5 => ?_)
    exact w4_soundAt_19 C0 hr hz fl _ _ _ zv5 tzv5 hw (lv_sub hl [] rfl) hf
  · have hf := ite_t hf zc3
    refine lv_null hx hb dX4_soundAt_10 ?_
    refine lv_goto (tgt := 19) hx hb dX4_soundAt_11 (by decide) ?_
    exact w4_soundAt_19 C0 hr hz fl _ _ _ none (fun a h => by cases h) hw (lv_sub hl [] rfl) hf
noncomputable def m6_cueAt_31 (fl : Nat) (len : Nat → Nat) (X : Xm) (I : Im) (zs0 : Option Nat) : Option (Option Nat) :=
  some (zs0)
set_option maxHeartbeats 4000000 in
set_option maxRecDepth 100000 in
theorem w6_cueAt_31 {p : Program} {l : Launch} {e : Env} {s : State} {m : MethodId} {args : Array Value} {below : List Frame} {meth : Method} {c : Code} {E : EN} {G : GM} {X : Xm} {I : Im} (C0 : CX p s m args meth c E cX6_cueAt RX6 2) (hr : meth.sig.returnType = (some (.object "RadioCues$Cue"))) (hz : s.heap.size + 0 ≤ eB E + G.1) {rr : Option Nat} (fl : Nat) : ∀ (H : Heap) (locs : List Loc) (ls : Array Slot) (zs0 : Option Nat) (zts0 : ∀ a, zs0 = some a → okA E G 1 a), WD E G I X s.heap H locs → lv_has ls 2 [] → m6_cueAt_31 fl G.2.2 X I zs0 = some rr → W p l e ({ frames := 0, cells := 0, slots := 0, locals := 0 } : Room) s m args below meth c H locs 0 0 (MQ below (QO E G 1 rr I X) args s 0 0 (eA E)) (F0 m 31 ls [va_rf zs0]) := by
  intro H locs ls zs0 zts0 hw hl hf
  unfold m6_cueAt_31 at hf
  have hx := C0.1; have hb := C0.2.1; have hml := C0.2.2.1; have hown := C0.2.2.2.1; have hts := C0.2.2.2.2.1
  obtain rfl := Option.some.inj hf
  exact x_oret (r := zs0) (k := 1) C0 hr zts0 hw dX6_cueAt_31
noncomputable def m6_cueAt_21 (fl : Nat) (len : Nat → Nat) (X : Xm) (I : Im) : Option (Option Nat) :=
  m6_cueAt_31 fl len X I none
set_option maxHeartbeats 4000000 in
set_option maxRecDepth 100000 in
theorem w6_cueAt_21 {p : Program} {l : Launch} {e : Env} {s : State} {m : MethodId} {args : Array Value} {below : List Frame} {meth : Method} {c : Code} {E : EN} {G : GM} {X : Xm} {I : Im} (C0 : CX p s m args meth c E cX6_cueAt RX6 2) (hr : meth.sig.returnType = (some (.object "RadioCues$Cue"))) (hz : s.heap.size + 0 ≤ eB E + G.1) {rr : Option Nat} (fl : Nat) : ∀ (H : Heap) (locs : List Loc) (ls : Array Slot) , WD E G I X s.heap H locs → lv_has ls 2 [] → m6_cueAt_21 fl G.2.2 X I = some rr → W p l e ({ frames := 0, cells := 0, slots := 0, locals := 0 } : Room) s m args below meth c H locs 0 0 (MQ below (QO E G 1 rr I X) args s 0 0 (eA E)) (F0 m 21 ls []) := by
  intro H locs ls hw hl hf
  unfold m6_cueAt_21 at hf
  have hx := C0.1; have hb := C0.2.1; have hml := C0.2.2.1; have hown := C0.2.2.2.1; have hts := C0.2.2.2.2.1
  refine lv_null hx hb dX6_cueAt_21 ?_
  refine lv_goto (tgt := 31) hx hb dX6_cueAt_22 (by decide) ?_
  exact w6_cueAt_31 C0 hr hz fl _ _ _ none (fun a h => by cases h) hw (lv_sub hl [] rfl) hf
noncomputable def m6_cueAt (fl : Nat) (len : Nat → Nat) (X : Xm) (I : Im) (zx0 : Nat) (zx1 : Int32) : Option (Option Nat) :=
  if zx1 < 0 then
    m6_cueAt_21 fl len X I 
  else
    if (gF I 97 zx0) ≤ zx1 then
      m6_cueAt_21 fl len X I 
    else
      nn (gR X 96 zx0) fun zv3 =>
      if zx1 < (nI (len zv3)) then
        ck (inb zx1 (len zv3) = true) <|
        nn (gQ X zv3 (zx1).toNatClampNeg) fun zv6 =>
        m6_cueAt_31 fl len X I (some zv6)
      else
        m6_cueAt_21 fl len X I 
theorem hy6_cueAt : yX6_cueAt.cls = RX6 ∧ yX6_cueAt.cls ≠ "java/lang/invoke/MethodHandle" ∧ yX6_cueAt.cls ≠ "java/lang/invoke/VarHandle" ∧ (parseMethodDescriptor yX6_cueAt.desc).map (fun d => d.parameters.length) = some 1 := ⟨rfl, by decide +kernel, by decide +kernel, by decide +kernel⟩
set_option maxHeartbeats 4000000 in
set_option maxRecDepth 100000 in
theorem c6_cueAt (l : Launch) (E : EN) (G : GM) (fl : Nat) (X : Xm) (I : Im) (zx0 : Nat) (zx1 : Int32) (zt0 : okA E G 6 zx0) {rr : Option Nat} (hf : m6_cueAt fl G.2.2 X I zx0 zx1 = some rr) : MT l yX6_cueAt cX6_cueAt 2 (some (.object "RadioCues$Cue")) ({ frames := 0, cells := 0, slots := 0, locals := 0 } : Room) E G I X [.ref zx0, .int zx1] (QO E G 1 rr I X) 0 0 := by
  refine Met.ofW (cc := cX6_cueAt) (maxL := 2) (ret := (some (.object "RadioCues$Cue"))) (by decide +kernel) rfl ?_
  intro p e s m args below meth c s₁ B hml hv
  obtain ⟨rfl, hw0, hSE⟩ := hv
  have C0 : CX p s m ([.ref zx0, .int zx1] : List Value).toArray meth c E cX6_cueAt RX6 2 := ⟨B.exec, B.bytes, hml, findClass_of_methodNamed B.named, fun w hw => atoms_spec (ws := WS yX6_cueAt cX6_cueAt 2 (some (.object "RadioCues$Cue"))) B.pre w (List.mem_cons_of_mem _ hw), B.notSynchronized, hSE⟩
  have hz : s.heap.size + 0 ≤ eB E + G.1 := Nat.le_of_eq hw0.2.1
  have hw : WD E G I X s.heap s.heap [] := ⟨hw0, va_S.rf⟩
  have hr := B.returns
  have hx := C0.1; have hb := C0.2.1; have hml := C0.2.2.1; have hown := C0.2.2.2.1; have hts := C0.2.2.2.2.1
  have hl := lv_entry ([.ref zx0, .int zx1]) (n := 2) (Nat.le_of_ble_eq_true rfl)
  rw [lg_entry_eq]
  generalize (lg_sl ([.ref zx0, .int zx1]) ++ List.replicate (2 - (lg_sl ([.ref zx0, .int zx1])).length) Slot.unset).toArray = ls at hl ⊢
  have hl : lv_has ls 2 [(0, .ref zx0), (1, .int zx1)] := hl
  unfold m6_cueAt at hf
  refine lv_iload_n hx hb dX6_cueAt_0 rfl (lv_at hl 1 rfl) ?_
  refine lv_if_lt (tgt := 21) hx hb dX6_cueAt_1 (by decide) (fun zc1 => ?_) (fun zc1 => ?_)
  · have hf := ite_t hf zc1
    exact w6_cueAt_21 C0 hr hz fl _ _ _ hw (lv_sub hl [] rfl) hf
  · have hf := ite_f hf zc1
    refine lv_iload_n hx hb dX6_cueAt_4 rfl (lv_at hl 1 rfl) ?_
    refine lv_aload_n hx hb dX6_cueAt_5 rfl (lv_at hl 0 rfl) ?_
    refine xg_6_1 C0 hw zt0 wd322 dX6_cueAt_6 ?_
    refine lv_icmp_ge (tgt := 21) hx hb dX6_cueAt_9 (by decide) (fun zc2 => ?_) (fun zc2 => ?_)
    · have hf := ite_t hf zc2
      exact w6_cueAt_21 C0 hr hz fl _ _ _ hw (lv_sub hl [] rfl) hf
    · have hf := ite_f hf zc2
      refine lv_iload_n hx hb dX6_cueAt_12 rfl (lv_at hl 1 rfl) ?_
      refine lv_aload_n hx hb dX6_cueAt_13 rfl (lv_at hl 0 rfl) ?_
      obtain ⟨zv3, ezv3, hf⟩ := nn_some hf
      have tzv3 : okA E G 14 zv3 := wt_r hw ezv3
      refine xg_6_0 C0 hw zt0 wd284 ezv3 dX6_cueAt_14 ?_
      refine x_alen C0 hw 14 tzv3 (by decide) rfl dX6_cueAt_17 ?_
      refine lv_icmp_lt (tgt := 25) hx hb dX6_cueAt_18 (by decide) (fun zc4 => ?_) (fun zc4 => ?_)
      · have hf := ite_t hf zc4
        refine lv_aload_n hx hb dX6_cueAt_25 rfl (lv_at hl 0 rfl) ?_
        refine xg_6_0 C0 hw zt0 wd284 ezv3 dX6_cueAt_26 ?_
        refine lv_iload_n hx hb dX6_cueAt_29 rfl (lv_at hl 1 rfl) ?_
        obtain ⟨zhb5, hf⟩ := ck_some hf
        obtain ⟨zv6, ezv6, hf⟩ := nn_some hf
        have tzv6 : okA E G 1 zv6 := wt_q hw tzv3 ezv6
        refine x_qald C0 hw 14 tzv3 (by decide) rfl zhb5 ezv6 dX6_cueAt_30 ?_
        exact w6_cueAt_31 C0 hr hz fl _ _ _ (some zv6) (fun a h => by cases h; exact tzv6) hw (lv_sub hl [] rfl) hf
      · have hf := ite_f hf zc4
        exact w6_cueAt_21 C0 hr hz fl _ _ _ hw (lv_sub hl [] rfl) hf
noncomputable def m6_sortLast_61 (fl : Nat) (len : Nat → Nat) (I : Im) (X : Xm) (zx0 : Nat) (zx1 : Int32) (zx2 : Option Nat) : Option (Int32 × Xm) :=
  nn (gR X 96 zx0) fun zv1 =>
  nn zx2 fun zb2 =>
  ck (inb zx1 (len zv1) = true) <|
  lt (pQ X zv1 (zx1).toNatClampNeg (some zb2)) fun zX4 =>
  some (zx1, zX4)
set_option maxHeartbeats 4000000 in
set_option maxRecDepth 100000 in
theorem w6_sortLast_61 {p : Program} {l : Launch} {e : Env} {s : State} {m : MethodId} {args : Array Value} {below : List Frame} {meth : Method} {c : Code} {E : EN} {G : GM} {I : Im} (C0 : CX p s m args meth c E cX6_sortLast RX6 3) (hr : meth.sig.returnType = (some .int)) (hz : s.heap.size + 0 ≤ eB E + G.1) {rr : Int32 × Xm} (fl : Nat) : ∀ (X : Xm) (H : Heap) (locs : List Loc) (ls : Array Slot) (zx0 : Nat) (zx1 : Int32) (zx2 : Option Nat) (zt0 : okA E G 6 zx0) (zt2 : ∀ a, zx2 = some a → okA E G 1 a), WD E G I X s.heap H locs → lv_has ls 3 [(0, .ref zx0), (1, .int zx1), (2, va_rf zx2)] → m6_sortLast_61 fl G.2.2 I X zx0 zx1 zx2 = some rr → W p l e ({ frames := 1, cells := 0, slots := 0, locals := 21 } : Room) s m args below meth c H locs 0 0 (MQ below (QI E G rr.1 I rr.2) args s 0 0 (eA E)) (F0 m 61 ls []) := by
  intro X H locs ls zx0 zx1 zx2 zt0 zt2 hw hl hf
  unfold m6_sortLast_61 at hf
  have hx := C0.1; have hb := C0.2.1; have hml := C0.2.2.1; have hown := C0.2.2.2.1; have hts := C0.2.2.2.2.1
  refine lv_aload_n hx hb dX6_sortLast_61 rfl (lv_at hl 0 rfl) ?_
  obtain ⟨zv1, ezv1, hf⟩ := nn_some hf
  have tzv1 : okA E G 14 zv1 := wt_r hw ezv1
  refine xg_6_0 C0 hw zt0 wd284 ezv1 dX6_sortLast_62 ?_
  refine lv_iload_n hx hb dX6_sortLast_65 rfl (lv_at hl 1 rfl) ?_
  refine x_aload_n C0 dX6_sortLast_66 rfl (lv_at hl 2 rfl) ?_
  obtain ⟨zb2, ezb2, hfzb2⟩ := nn_some hf
  have tzb2 : okA E G 1 zb2 := zt2 _ ezb2
  subst ezb2
  have hf := hfzb2
  obtain ⟨zhb3, hf⟩ := ck_some hf
  obtain ⟨zX4, ezX4⟩ : ∃ y : Xm, y = pQ X zv1 (zx1).toNatClampNeg (some zb2) := ⟨_, rfl⟩
  have hf := lt_at hf ezX4
  refine x_qast C0 hz hw 14 tzv1 (by decide) tzb2 (by decide) rfl rfl zhb3 dX6_sortLast_67 ezX4 (fun H locs hw => ?_)
  refine lv_iload_n hx hb dX6_sortLast_68 rfl (lv_at hl 1 rfl) ?_
  obtain rfl := Option.some.inj hf
  exact x_iret C0 hr hw dX6_sortLast_69
noncomputable def m6_sortLast_19b (fl : Nat) (len : Nat → Nat) (I : Im) (zr19 : Xm → Nat → Int32 → Option Nat → Option (Int32 × Xm)) (X : Xm) (zx0 : Nat) (zx1 : Int32) (zx2 : Option Nat) : Option (Int32 × Xm) :=
  if zx1 ≤ 0 then
    m6_sortLast_61 fl len I X zx0 zx1 zx2
  else
    nn (gR X 96 zx0) fun zv2 =>
    ck (inb (zx1 - (1 : Int32)) (len zv2) = true) <|
    nn (gQ X zv2 ((zx1 - (1 : Int32))).toNatClampNeg) fun zv4 =>
    nn zx2 fun zb5 =>
    if (gF I 16 zv4) ≤ (gF I 16 zb5) then
      m6_sortLast_61 fl len I X zx0 zx1 (some zb5)
    else
      nn (gQ X zv2 ((zx1 - (1 : Int32))).toNatClampNeg) fun zv7 =>
      ck (inb zx1 (len zv2) = true) <|
      lt (pQ X zv2 (zx1).toNatClampNeg (some zv7)) fun zX9 =>
      lt (zx1 + (-1)) fun zv10 =>
      zr19 zX9 zx0 zv10 (some zb5)
noncomputable def m6_sortLast_19 (fl : Nat) (len : Nat → Nat) (I : Im) (n : Nat) : Xm → Nat → Int32 → Option Nat → Option (Int32 × Xm) :=
  Nat.rec (fun _ _ _ _ => none) (fun _ r => m6_sortLast_19b fl len I r) n
set_option maxHeartbeats 4000000 in
set_option maxRecDepth 100000 in
theorem w6_sortLast_19b {p : Program} {l : Launch} {e : Env} {s : State} {m : MethodId} {args : Array Value} {below : List Frame} {meth : Method} {c : Code} {E : EN} {G : GM} {I : Im} (C0 : CX p s m args meth c E cX6_sortLast RX6 3) (hr : meth.sig.returnType = (some .int)) (hz : s.heap.size + 0 ≤ eB E + G.1) {rr : Int32 × Xm} (fl : Nat) (zr19 : Xm → Nat → Int32 → Option Nat → Option (Int32 × Xm)) (zhr19 : ∀ (X : Xm) (H : Heap) (locs : List Loc) (ls : Array Slot) (zx0 : Nat) (zx1 : Int32) (zx2 : Option Nat) (zt0 : okA E G 6 zx0) (zt2 : ∀ a, zx2 = some a → okA E G 1 a), WD E G I X s.heap H locs → lv_has ls 3 [(0, .ref zx0), (1, .int zx1), (2, va_rf zx2)] → zr19 X zx0 zx1 zx2 = some rr → W p l e ({ frames := 1, cells := 0, slots := 0, locals := 21 } : Room) s m args below meth c H locs 0 0 (MQ below (QI E G rr.1 I rr.2) args s 0 0 (eA E)) (F0 m 19 ls [])) : ∀ (X : Xm) (H : Heap) (locs : List Loc) (ls : Array Slot) (zx0 : Nat) (zx1 : Int32) (zx2 : Option Nat) (zt0 : okA E G 6 zx0) (zt2 : ∀ a, zx2 = some a → okA E G 1 a), WD E G I X s.heap H locs → lv_has ls 3 [(0, .ref zx0), (1, .int zx1), (2, va_rf zx2)] → m6_sortLast_19b fl G.2.2 I zr19 X zx0 zx1 zx2 = some rr → W p l e ({ frames := 1, cells := 0, slots := 0, locals := 21 } : Room) s m args below meth c H locs 0 0 (MQ below (QI E G rr.1 I rr.2) args s 0 0 (eA E)) (F0 m 19 ls []) := by
  intro X H locs ls zx0 zx1 zx2 zt0 zt2 hw hl hf
  unfold m6_sortLast_19b at hf
  have hx := C0.1; have hb := C0.2.1; have hml := C0.2.2.1; have hown := C0.2.2.2.1; have hts := C0.2.2.2.2.1
  refine lv_iload_n hx hb dX6_sortLast_19 rfl (lv_at hl 1 rfl) ?_
  refine lv_if_le (tgt := 61) hx hb dX6_sortLast_20 (by decide) (fun zc1 => ?_) (fun zc1 => ?_)
  · have hf := ite_t hf zc1
    exact w6_sortLast_61 C0 hr hz fl X _ _ _ zx0 zx1 zx2 zt0 zt2 hw (lv_sub hl [0, 1, 2] rfl) hf
  · have hf := ite_f hf zc1
    refine lv_aload_n hx hb dX6_sortLast_23 rfl (lv_at hl 0 rfl) ?_
    obtain ⟨zv2, ezv2, hf⟩ := nn_some hf
    have tzv2 : okA E G 14 zv2 := wt_r hw ezv2
    refine xg_6_0 C0 hw zt0 wd284 ezv2 dX6_sortLast_24 ?_
    refine lv_iload_n hx hb dX6_sortLast_27 rfl (lv_at hl 1 rfl) ?_
    refine lv_iconst (v := (1 : Int32)) hx hb dX6_sortLast_28 (by decide) ?_
    refine lv_isub hx hb dX6_sortLast_29 ?_
    obtain ⟨zhb3, hf⟩ := ck_some hf
    obtain ⟨zv4, ezv4, hf⟩ := nn_some hf
    have tzv4 : okA E G 1 zv4 := wt_q hw tzv2 ezv4
    refine x_qald C0 hw 14 tzv2 (by decide) rfl zhb3 ezv4 dX6_sortLast_30 ?_
    refine xg_1_0 C0 hw tzv4 wd375 dX6_sortLast_31 ?_
    refine x_aload_n C0 dX6_sortLast_34 rfl (lv_at hl 2 rfl) ?_
    obtain ⟨zb5, ezb5, hfzb5⟩ := nn_some hf
    have tzb5 : okA E G 1 zb5 := zt2 _ ezb5
    subst ezb5
    have hf := hfzb5
    refine xg_1_0 C0 hw tzb5 wd375 dX6_sortLast_35 ?_
    refine lv_icmp_le (tgt := 61) hx hb dX6_sortLast_38 (by decide) (fun zc6 => ?_) (fun zc6 => ?_)
    · have hf := ite_t hf zc6
      exact w6_sortLast_61 C0 hr hz fl X _ _ _ zx0 zx1 (some zb5) zt0 (fun a h => by cases h; exact tzb5) hw (lv_sub hl [0, 1, 2] rfl) hf
    · have hf := ite_f hf zc6
      refine lv_aload_n hx hb dX6_sortLast_41 rfl (lv_at hl 0 rfl) ?_
      refine xg_6_0 C0 hw zt0 wd284 ezv2 dX6_sortLast_42 ?_
      refine lv_iload_n hx hb dX6_sortLast_45 rfl (lv_at hl 1 rfl) ?_
      refine lv_aload_n hx hb dX6_sortLast_46 rfl (lv_at hl 0 rfl) ?_
      refine xg_6_0 C0 hw zt0 wd284 ezv2 dX6_sortLast_47 ?_
      refine lv_iload_n hx hb dX6_sortLast_50 rfl (lv_at hl 1 rfl) ?_
      refine lv_iconst (v := (1 : Int32)) hx hb dX6_sortLast_51 (by decide) ?_
      refine lv_isub hx hb dX6_sortLast_52 ?_
      obtain ⟨zv7, ezv7, hf⟩ := nn_some hf
      have tzv7 : okA E G 1 zv7 := wt_q hw tzv2 ezv7
      refine x_qald C0 hw 14 tzv2 (by decide) rfl zhb3 ezv7 dX6_sortLast_53 ?_
      obtain ⟨zhb8, hf⟩ := ck_some hf
      obtain ⟨zX9, ezX9⟩ : ∃ y : Xm, y = pQ X zv2 (zx1).toNatClampNeg (some zv7) := ⟨_, rfl⟩
      have hf := lt_at hf ezX9
      refine x_qast C0 hz hw 14 tzv2 (by decide) tzv7 (by decide) rfl rfl zhb8 dX6_sortLast_54 ezX9 (fun H locs hw => ?_)
      obtain ⟨zv10, ezv10⟩ : ∃ y : Int32, y = zx1 + (-1) := ⟨_, rfl⟩
      have hf := lt_at hf ezv10
      refine lv_iinc (v := zv10) (lv' := [(1, .int zv10), (0, .ref zx0), (2, .ref zb5)]) hx hb dX6_sortLast_55 hl (k := 1) rfl (by rw [ezv10]; rfl) (by decide) rfl (fun ls hl => ?_)
      refine lv_goto (tgt := 19) hx hb dX6_sortLast_58 (by decide) ?_
      exact zhr19 zX9 _ _ _ zx0 zv10 (some zb5) zt0 (fun a h => by cases h; exact tzb5) hw (lv_sub hl [1, 0, 2] rfl) hf
theorem w6_sortLast_19 {p : Program} {l : Launch} {e : Env} {s : State} {m : MethodId} {args : Array Value} {below : List Frame} {meth : Method} {c : Code} {E : EN} {G : GM} {I : Im} (C0 : CX p s m args meth c E cX6_sortLast RX6 3) (hr : meth.sig.returnType = (some .int)) (hz : s.heap.size + 0 ≤ eB E + G.1) {rr : Int32 × Xm} (fl : Nat) : ∀ (n : Nat) (X : Xm) (H : Heap) (locs : List Loc) (ls : Array Slot) (zx0 : Nat) (zx1 : Int32) (zx2 : Option Nat) (zt0 : okA E G 6 zx0) (zt2 : ∀ a, zx2 = some a → okA E G 1 a), WD E G I X s.heap H locs → lv_has ls 3 [(0, .ref zx0), (1, .int zx1), (2, va_rf zx2)] → m6_sortLast_19 fl G.2.2 I n X zx0 zx1 zx2 = some rr → W p l e ({ frames := 1, cells := 0, slots := 0, locals := 21 } : Room) s m args below meth c H locs 0 0 (MQ below (QI E G rr.1 I rr.2) args s 0 0 (eA E)) (F0 m 19 ls []) := by
  intro n
  induction n with
  | zero => intro X H locs ls zx0 zx1 zx2 zt0 zt2 hw hl hf; exact absurd (show (none : Option (Int32 × Xm)) = some rr from hf) (by simp)
  | succ n ih => intro X H locs ls zx0 zx1 zx2 zt0 zt2 hw hl hf; exact w6_sortLast_19b C0 hr hz fl _ ih X H locs ls zx0 zx1 zx2 zt0 zt2 hw hl hf
noncomputable def m6_sortLast (fl : Nat) (len : Nat → Nat) (X : Xm) (I : Im) (zx0 : Nat) : Option (Int32 × Xm) :=
  lt (((gF I 97 zx0) - (1 : Int32))) fun zv1 =>
  nn (m6_cueAt fl len X I zx0 zv1) fun zv2 =>
  if zv2 = none then
    some ((-1 : Int32), X)
  else
    m6_sortLast_19 fl len I fl X zx0 zv1 zv2
theorem hy6_sortLast : yX6_sortLast.cls = RX6 ∧ yX6_sortLast.cls ≠ "java/lang/invoke/MethodHandle" ∧ yX6_sortLast.cls ≠ "java/lang/invoke/VarHandle" ∧ (parseMethodDescriptor yX6_sortLast.desc).map (fun d => d.parameters.length) = some 0 := ⟨rfl, by decide +kernel, by decide +kernel, by decide +kernel⟩
set_option maxHeartbeats 4000000 in
set_option maxRecDepth 100000 in
theorem c6_sortLast (l : Launch) (E : EN) (G : GM) (fl : Nat) (X : Xm) (I : Im) (zx0 : Nat) (zt0 : okA E G 6 zx0) {rr : Int32 × Xm} (hf : m6_sortLast fl G.2.2 X I zx0 = some rr) : MT l yX6_sortLast cX6_sortLast 3 (some .int) ({ frames := 1, cells := 0, slots := 0, locals := 21 } : Room) E G I X [.ref zx0] (QI E G rr.1 I rr.2) 0 0 := by
  refine Met.ofW (cc := cX6_sortLast) (maxL := 3) (ret := (some .int)) (by decide +kernel) rfl ?_
  intro p e s m args below meth c s₁ B hml hv
  obtain ⟨rfl, hw0, hSE⟩ := hv
  have C0 : CX p s m ([.ref zx0] : List Value).toArray meth c E cX6_sortLast RX6 3 := ⟨B.exec, B.bytes, hml, findClass_of_methodNamed B.named, fun w hw => atoms_spec (ws := WS yX6_sortLast cX6_sortLast 3 (some .int)) B.pre w (List.mem_cons_of_mem _ hw), B.notSynchronized, hSE⟩
  have hz : s.heap.size + 0 ≤ eB E + G.1 := Nat.le_of_eq hw0.2.1
  have hw : WD E G I X s.heap s.heap [] := ⟨hw0, va_S.rf⟩
  have hr := B.returns
  have hx := C0.1; have hb := C0.2.1; have hml := C0.2.2.1; have hown := C0.2.2.2.1; have hts := C0.2.2.2.2.1
  have hl := lv_entry ([.ref zx0]) (n := 3) (Nat.le_of_ble_eq_true rfl)
  rw [lg_entry_eq]
  generalize (lg_sl ([.ref zx0]) ++ List.replicate (3 - (lg_sl ([.ref zx0])).length) Slot.unset).toArray = ls at hl ⊢
  have hl : lv_has ls 3 [(0, .ref zx0)] := hl
  unfold m6_sortLast at hf
  refine lv_aload_n hx hb dX6_sortLast_0 rfl (lv_at hl 0 rfl) ?_
  refine xg_6_1 C0 hw zt0 wd322 dX6_sortLast_1 ?_
  refine lv_iconst (v := (1 : Int32)) hx hb dX6_sortLast_4 (by decide) ?_
  refine lv_isub hx hb dX6_sortLast_5 ?_
  refine lv_topi (fun zv1 ezv1 => ?_)
  have hf := lt_at hf ezv1
  refine lv_istore_n (lv' := [(1, .int zv1), (0, .ref zx0)]) hx hb dX6_sortLast_6 rfl hl (by decide) rfl (fun ls hl => ?_)
  refine lv_aload_n hx hb dX6_sortLast_7 rfl (lv_at hl 1 rfl) ?_
  refine lv_iload_n hx hb dX6_sortLast_8 rfl (lv_at hl 0 rfl) ?_
  obtain ⟨zv2, ze3, hf⟩ := nn_some hf
  refine x_co (r := zv2) (I1 := I) (X1 := X) (x_runV (As := [.int zv1]) (rest := []) C0 (c6_cueAt l E G fl X I zx0 zv1 zt0 ze3) hw 6 zt0 (by decide) rfl wd49 wd376 wd377 wd378 wd300 ⟨rfl, rfl⟩ hy6_cueAt ⟨Nat.le_of_ble_eq_true rfl, Nat.le_of_ble_eq_true rfl⟩ rfl hl.1 (Nat.le_of_ble_eq_true rfl) ⟨Nat.zero_le _, Nat.zero_le _⟩ dX6_sortLast_9) hw (fun H locs hw tzv2 => ?_)
  refine x_astore_n (lv' := [(2, va_rf zv2), (1, .int zv1), (0, .ref zx0)]) C0 dX6_sortLast_12 rfl hl (by decide) rfl (fun ls hl => ?_)
  refine x_aload_n C0 dX6_sortLast_13 rfl (lv_at hl 0 rfl) ?_
  refine x_ifnonnull (tgt := 19) C0 dX6_sortLast_14 (by decide) (fun zc4 => ?_) (fun zc4 => ?_)
  · have hf := ite_f hf zc4
    exact w6_sortLast_19 C0 hr hz fl fl X _ _ _ zx0 zv1 zv2 zt0 tzv2 hw (lv_sub hl [2, 1, 0] rfl) hf
  · have hf := ite_t hf zc4
    refine lv_iconst (v := (-1 : Int32)) hx hb dX6_sortLast_17 (by decide) ?_
    obtain rfl := Option.some.inj hf
    exact x_iret C0 hr hw dX6_sortLast_18
noncomputable def m6_insertCue_19 (fl : Nat) (len : Nat → Nat) (I : Im) (X : Xm) : Option (Int32 × Im × Xm) :=
  some ((-4 : Int32), I, X)
set_option maxHeartbeats 4000000 in
set_option maxRecDepth 100000 in
theorem w6_insertCue_19 {p : Program} {l : Launch} {e : Env} {s : State} {m : MethodId} {args : Array Value} {below : List Frame} {meth : Method} {c : Code} {E : EN} {G : GM} (C0 : CX p s m args meth c E cX6_insertCue RX6 6) (hr : meth.sig.returnType = (some .int)) (hz : s.heap.size + 0 ≤ eB E + G.1) {rr : Int32 × Im × Xm} (fl : Nat) : ∀ (I : Im) (X : Xm) (H : Heap) (locs : List Loc) (ls : Array Slot) , WD E G I X s.heap H locs → lv_has ls 6 [] → m6_insertCue_19 fl G.2.2 I X = some rr → W p l e ({ frames := 2, cells := 0, slots := 0, locals := 43 } : Room) s m args below meth c H locs 0 0 (MQ below (QI E G rr.1 rr.2.1 rr.2.2) args s 0 0 (eA E)) (F0 m 19 ls []) := by
  intro I X H locs ls hw hl hf
  unfold m6_insertCue_19 at hf
  have hx := C0.1; have hb := C0.2.1; have hml := C0.2.2.1; have hown := C0.2.2.2.1; have hts := C0.2.2.2.2.1
  refine lv_bipush (v := (-4 : Int32)) hx hb dX6_insertCue_19 (by decide) ?_
  obtain rfl := Option.some.inj hf
  exact x_iret C0 hr hw dX6_insertCue_21
noncomputable def m6_insertCue (fl : Nat) (len : Nat → Nat) (X : Xm) (I : Im) (zx0 : Nat) (zx1 : Int32) (zx2 : Int32) (zx3 : Int32) (zx4 : Int32) : Option (Int32 × Im × Xm) :=
  if (gF I 97 zx0) < 0 then
    m6_insertCue_19 fl len I X
  else
    nn (gR X 96 zx0) fun zv2 =>
    if (gF I 97 zx0) < (nI (len zv2)) then
      ck (inb (gF I 97 zx0) (len zv2) = true) <|
      nn (gQ X zv2 ((gF I 97 zx0)).toNatClampNeg) fun zv5 =>
      lt (pF I 16 zv5 zx1) fun zI6 =>
      lt (pF zI6 17 zv5 zx2) fun zI7 =>
      lt (pF zI7 18 zv5 zx3) fun zI8 =>
      lt (pF zI8 19 zv5 zx4) fun zI9 =>
      lt (pF zI9 20 zv5 (0 : Int32)) fun zI10 =>
      lt (pF zI10 97 zx0 ((gF zI10 97 zx0) + (1 : Int32))) fun zI11 =>
      nn (m6_sortLast fl len X zI11 zx0) fun ⟨zv12, zX13⟩ =>
      some (zv12, zI11, zX13)
    else
      m6_insertCue_19 fl len I X
theorem hy6_insertCue : yX6_insertCue.cls = RX6 ∧ yX6_insertCue.cls ≠ "java/lang/invoke/MethodHandle" ∧ yX6_insertCue.cls ≠ "java/lang/invoke/VarHandle" ∧ (parseMethodDescriptor yX6_insertCue.desc).map (fun d => d.parameters.length) = some 4 := ⟨rfl, by decide +kernel, by decide +kernel, by decide +kernel⟩
set_option maxHeartbeats 4000000 in
set_option maxRecDepth 100000 in
theorem c6_insertCue (l : Launch) (E : EN) (G : GM) (fl : Nat) (X : Xm) (I : Im) (zx0 : Nat) (zx1 : Int32) (zx2 : Int32) (zx3 : Int32) (zx4 : Int32) (zt0 : okA E G 6 zx0) {rr : Int32 × Im × Xm} (hf : m6_insertCue fl G.2.2 X I zx0 zx1 zx2 zx3 zx4 = some rr) : MT l yX6_insertCue cX6_insertCue 6 (some .int) ({ frames := 2, cells := 0, slots := 0, locals := 43 } : Room) E G I X [.ref zx0, .int zx1, .int zx2, .int zx3, .int zx4] (QI E G rr.1 rr.2.1 rr.2.2) 0 0 := by
  refine Met.ofW (cc := cX6_insertCue) (maxL := 6) (ret := (some .int)) (by decide +kernel) rfl ?_
  intro p e s m args below meth c s₁ B hml hv
  obtain ⟨rfl, hw0, hSE⟩ := hv
  have C0 : CX p s m ([.ref zx0, .int zx1, .int zx2, .int zx3, .int zx4] : List Value).toArray meth c E cX6_insertCue RX6 6 := ⟨B.exec, B.bytes, hml, findClass_of_methodNamed B.named, fun w hw => atoms_spec (ws := WS yX6_insertCue cX6_insertCue 6 (some .int)) B.pre w (List.mem_cons_of_mem _ hw), B.notSynchronized, hSE⟩
  have hz : s.heap.size + 0 ≤ eB E + G.1 := Nat.le_of_eq hw0.2.1
  have hw : WD E G I X s.heap s.heap [] := ⟨hw0, va_S.rf⟩
  have hr := B.returns
  have hx := C0.1; have hb := C0.2.1; have hml := C0.2.2.1; have hown := C0.2.2.2.1; have hts := C0.2.2.2.2.1
  have hl := lv_entry ([.ref zx0, .int zx1, .int zx2, .int zx3, .int zx4]) (n := 6) (Nat.le_of_ble_eq_true rfl)
  rw [lg_entry_eq]
  generalize (lg_sl ([.ref zx0, .int zx1, .int zx2, .int zx3, .int zx4]) ++ List.replicate (6 - (lg_sl ([.ref zx0, .int zx1, .int zx2, .int zx3, .int zx4])).length) Slot.unset).toArray = ls at hl ⊢
  have hl : lv_has ls 6 [(0, .ref zx0), (1, .int zx1), (2, .int zx2), (3, .int zx3), (4, .int zx4)] := hl
  unfold m6_insertCue at hf
  refine lv_aload_n hx hb dX6_insertCue_0 rfl (lv_at hl 0 rfl) ?_
  refine xg_6_1 C0 hw zt0 wd322 dX6_insertCue_1 ?_
  refine lv_if_lt (tgt := 19) hx hb dX6_insertCue_4 (by decide) (fun zc1 => ?_) (fun zc1 => ?_)
  · have hf := ite_t hf zc1
    exact w6_insertCue_19 C0 hr hz fl I X _ _ _ hw (lv_sub hl [] rfl) hf
  · have hf := ite_f hf zc1
    refine lv_aload_n hx hb dX6_insertCue_7 rfl (lv_at hl 0 rfl) ?_
    refine xg_6_1 C0 hw zt0 wd322 dX6_insertCue_8 ?_
    refine lv_aload_n hx hb dX6_insertCue_11 rfl (lv_at hl 0 rfl) ?_
    obtain ⟨zv2, ezv2, hf⟩ := nn_some hf
    have tzv2 : okA E G 14 zv2 := wt_r hw ezv2
    refine xg_6_0 C0 hw zt0 wd284 ezv2 dX6_insertCue_12 ?_
    refine x_alen C0 hw 14 tzv2 (by decide) rfl dX6_insertCue_15 ?_
    refine lv_icmp_lt (tgt := 22) hx hb dX6_insertCue_16 (by decide) (fun zc3 => ?_) (fun zc3 => ?_)
    · have hf := ite_t hf zc3
      refine lv_aload_n hx hb dX6_insertCue_22 rfl (lv_at hl 0 rfl) ?_
      refine xg_6_0 C0 hw zt0 wd284 ezv2 dX6_insertCue_23 ?_
      refine lv_aload_n hx hb dX6_insertCue_26 rfl (lv_at hl 0 rfl) ?_
      refine xg_6_1 C0 hw zt0 wd322 dX6_insertCue_27 ?_
      obtain ⟨zhb4, hf⟩ := ck_some hf
      obtain ⟨zv5, ezv5, hf⟩ := nn_some hf
      have tzv5 : okA E G 1 zv5 := wt_q hw tzv2 ezv5
      refine x_qald C0 hw 14 tzv2 (by decide) rfl zhb4 ezv5 dX6_insertCue_30 ?_
      refine lv_astore (lv' := [(5, .ref zv5), (0, .ref zx0), (1, .int zx1), (2, .int zx2), (3, .int zx3), (4, .int zx4)]) hx hb dX6_insertCue_31 hl (by decide) rfl (fun ls hl => ?_)
      refine lv_aload hx hb dX6_insertCue_33 (lv_at hl 0 rfl) ?_
      refine lv_iload_n hx hb dX6_insertCue_35 rfl (lv_at hl 2 rfl) ?_
      obtain ⟨zI6, ezI6⟩ : ∃ y : Im, y = pF I 16 zv5 zx1 := ⟨_, rfl⟩
      have hf := lt_at hf ezI6
      refine xp_1_0 C0 hz hw tzv5 rfl rfl wd375 dX6_insertCue_36 ezI6 (fun H locs hw => ?_)
      refine lv_aload hx hb dX6_insertCue_39 (lv_at hl 0 rfl) ?_
      refine lv_iload_n hx hb dX6_insertCue_41 rfl (lv_at hl 3 rfl) ?_
      obtain ⟨zI7, ezI7⟩ : ∃ y : Im, y = pF zI6 17 zv5 zx2 := ⟨_, rfl⟩
      have hf := lt_at hf ezI7
      refine xp_1_1 C0 hz hw tzv5 rfl rfl wd379 dX6_insertCue_42 ezI7 (fun H locs hw => ?_)
      refine lv_aload hx hb dX6_insertCue_45 (lv_at hl 0 rfl) ?_
      refine lv_iload_n hx hb dX6_insertCue_47 rfl (lv_at hl 4 rfl) ?_
      obtain ⟨zI8, ezI8⟩ : ∃ y : Im, y = pF zI7 18 zv5 zx3 := ⟨_, rfl⟩
      have hf := lt_at hf ezI8
      refine xp_1_2 C0 hz hw tzv5 rfl rfl wd380 dX6_insertCue_48 ezI8 (fun H locs hw => ?_)
      refine lv_aload hx hb dX6_insertCue_51 (lv_at hl 0 rfl) ?_
      refine lv_iload hx hb dX6_insertCue_53 (lv_at hl 5 rfl) ?_
      obtain ⟨zI9, ezI9⟩ : ∃ y : Im, y = pF zI8 19 zv5 zx4 := ⟨_, rfl⟩
      have hf := lt_at hf ezI9
      refine xp_1_3 C0 hz hw tzv5 rfl rfl wd381 dX6_insertCue_55 ezI9 (fun H locs hw => ?_)
      refine lv_aload hx hb dX6_insertCue_58 (lv_at hl 0 rfl) ?_
      refine lv_iconst (v := (0 : Int32)) hx hb dX6_insertCue_60 (by decide) ?_
      obtain ⟨zI10, ezI10⟩ : ∃ y : Im, y = pF zI9 20 zv5 (0 : Int32) := ⟨_, rfl⟩
      have hf := lt_at hf ezI10
      refine xp_1_4 C0 hz hw tzv5 rfl rfl wd382 dX6_insertCue_61 ezI10 (fun H locs hw => ?_)
      refine lv_aload_n hx hb dX6_insertCue_64 rfl (lv_at hl 1 rfl) ?_
      refine lv_dup hx hb dX6_insertCue_65 rfl ?_
      refine xg_6_1 C0 hw zt0 wd322 dX6_insertCue_66 ?_
      refine lv_iconst (v := (1 : Int32)) hx hb dX6_insertCue_69 (by decide) ?_
      refine lv_iadd hx hb dX6_insertCue_70 ?_
      obtain ⟨zI11, ezI11⟩ : ∃ y : Im, y = pF zI10 97 zx0 ((gF zI10 97 zx0) + (1 : Int32)) := ⟨_, rfl⟩
      have hf := lt_at hf ezI11
      refine xp_6_1 C0 hz hw zt0 rfl rfl wd322 dX6_insertCue_71 ezI11 (fun H locs hw => ?_)
      refine lv_aload_n hx hb dX6_insertCue_74 rfl (lv_at hl 1 rfl) ?_
      obtain ⟨⟨zv12, zX13⟩, ze14, hf⟩ := nn_some hf
      refine x_ci (r := zv12) (I1 := zI11) (X1 := zX13) (x_runV (As := []) (rest := []) C0 (c6_sortLast l E G fl X zI11 zx0 zt0 ze14) hw 6 zt0 (by decide) rfl wd50 wd383 wd384 wd385 wd300 ⟨rfl, rfl⟩ hy6_sortLast ⟨Nat.le_of_ble_eq_true rfl, Nat.le_of_ble_eq_true rfl⟩ rfl hl.1 (Nat.le_of_ble_eq_true rfl) ⟨Nat.zero_le _, Nat.zero_le _⟩ dX6_insertCue_75) hw (fun H locs hw => ?_)
      obtain rfl := Option.some.inj hf
      exact x_iret C0 hr hw dX6_insertCue_78
    · have hf := ite_f hf zc3
      exact w6_insertCue_19 C0 hr hz fl I X _ _ _ hw (lv_sub hl [] rfl) hf
noncomputable def m4_addCue_83 (fl : Nat) (len : Nat → Nat) (I : Im) (X : Xm) (zx0 : Nat) (zx1 : Int32) (zx2 : Int32) (zx3 : Int32) (zx4 : Int32) : Option (Int32 × Im × Xm) :=
  if (gF I 72 zx0) ≤ zx1 then
    nn (gR X 65 zx0) fun zv2 =>
    nn (m6_insertCue fl len X I zv2 zx1 zx2 zx3 zx4) fun ⟨zv3, zI4, zX5⟩ =>
    some (zv3, zI4, zX5)
  else
    some ((-5 : Int32), I, X)
set_option maxHeartbeats 4000000 in
set_option maxRecDepth 100000 in
theorem w4_addCue_83 {p : Program} {l : Launch} {e : Env} {s : State} {m : MethodId} {args : Array Value} {below : List Frame} {meth : Method} {c : Code} {E : EN} {G : GM} (C0 : CX p s m args meth c E cX4_addCue RX4 5) (hr : meth.sig.returnType = (some .int)) (hz : s.heap.size + 0 ≤ eB E + G.1) {rr : Int32 × Im × Xm} (fl : Nat) : ∀ (I : Im) (X : Xm) (H : Heap) (locs : List Loc) (ls : Array Slot) (zx0 : Nat) (zx1 : Int32) (zx2 : Int32) (zx3 : Int32) (zx4 : Int32) (zt0 : okA E G 4 zx0), WD E G I X s.heap H locs → lv_has ls 5 [(0, .ref zx0), (1, .int zx1), (2, .int zx2), (3, .int zx3), (4, .int zx4)] → m4_addCue_83 fl G.2.2 I X zx0 zx1 zx2 zx3 zx4 = some rr → W p l e ({ frames := 3, cells := 0, slots := 0, locals := 68 } : Room) s m args below meth c H locs 0 0 (MQ below (QI E G rr.1 rr.2.1 rr.2.2) args s 0 0 (eA E)) (F0 m 83 ls []) := by
  intro I X H locs ls zx0 zx1 zx2 zx3 zx4 zt0 hw hl hf
  unfold m4_addCue_83 at hf
  have hx := C0.1; have hb := C0.2.1; have hml := C0.2.2.1; have hown := C0.2.2.2.1; have hts := C0.2.2.2.2.1
  refine lv_iload_n hx hb dX4_addCue_83 rfl (lv_at hl 1 rfl) ?_
  refine lv_aload_n hx hb dX4_addCue_84 rfl (lv_at hl 0 rfl) ?_
  refine xg_4_8 C0 hw zt0 wd337 dX4_addCue_85 ?_
  refine lv_icmp_ge (tgt := 94) hx hb dX4_addCue_88 (by decide) (fun zc1 => ?_) (fun zc1 => ?_)
  · have hf := ite_t hf zc1
    refine lv_aload_n hx hb dX4_addCue_94 rfl (lv_at hl 0 rfl) ?_
    obtain ⟨zv2, ezv2, hf⟩ := nn_some hf
    have tzv2 : okA E G 6 zv2 := wt_r hw ezv2
    refine xg_4_1 C0 hw zt0 wd301 ezv2 dX4_addCue_95 ?_
    refine lv_iload_n hx hb dX4_addCue_98 rfl (lv_at hl 1 rfl) ?_
    refine lv_iload_n hx hb dX4_addCue_99 rfl (lv_at hl 2 rfl) ?_
    refine lv_iload_n hx hb dX4_addCue_100 rfl (lv_at hl 3 rfl) ?_
    refine lv_iload hx hb dX4_addCue_101 (lv_at hl 4 rfl) ?_
    obtain ⟨⟨zv3, zI4, zX5⟩, ze6, hf⟩ := nn_some hf
    refine x_ci (r := zv3) (I1 := zI4) (X1 := zX5) (x_runV (As := [.int zx1, .int zx2, .int zx3, .int zx4]) (rest := []) C0 (c6_insertCue l E G fl X I zv2 zx1 zx2 zx3 zx4 tzv2 ze6) hw 6 tzv2 (by decide) rfl wd51 wd389 wd390 wd391 wd300 ⟨rfl, rfl⟩ hy6_insertCue ⟨Nat.le_of_ble_eq_true rfl, Nat.le_of_ble_eq_true rfl⟩ rfl hl.1 (Nat.le_of_ble_eq_true rfl) ⟨Nat.zero_le _, Nat.zero_le _⟩ dX4_addCue_103) hw (fun H locs hw => ?_)
    obtain rfl := Option.some.inj hf
    exact x_iret C0 hr hw dX4_addCue_106
  · have hf := ite_f hf zc1
    refine lv_bipush (v := (-5 : Int32)) hx hb dX4_addCue_91 (by decide) ?_
    obtain rfl := Option.some.inj hf
    exact x_iret C0 hr hw dX4_addCue_93
noncomputable def m4_addCue_80 (fl : Nat) (len : Nat → Nat) (I : Im) (X : Xm) : Option (Int32 × Im × Xm) :=
  some ((-2 : Int32), I, X)
set_option maxHeartbeats 4000000 in
set_option maxRecDepth 100000 in
theorem w4_addCue_80 {p : Program} {l : Launch} {e : Env} {s : State} {m : MethodId} {args : Array Value} {below : List Frame} {meth : Method} {c : Code} {E : EN} {G : GM} (C0 : CX p s m args meth c E cX4_addCue RX4 5) (hr : meth.sig.returnType = (some .int)) (hz : s.heap.size + 0 ≤ eB E + G.1) {rr : Int32 × Im × Xm} (fl : Nat) : ∀ (I : Im) (X : Xm) (H : Heap) (locs : List Loc) (ls : Array Slot) , WD E G I X s.heap H locs → lv_has ls 5 [] → m4_addCue_80 fl G.2.2 I X = some rr → W p l e ({ frames := 3, cells := 0, slots := 0, locals := 68 } : Room) s m args below meth c H locs 0 0 (MQ below (QI E G rr.1 rr.2.1 rr.2.2) args s 0 0 (eA E)) (F0 m 80 ls []) := by
  intro I X H locs ls hw hl hf
  unfold m4_addCue_80 at hf
  have hx := C0.1; have hb := C0.2.1; have hml := C0.2.2.1; have hown := C0.2.2.2.1; have hts := C0.2.2.2.2.1
  refine lv_bipush (v := (-2 : Int32)) hx hb dX4_addCue_80 (by decide) ?_
  obtain rfl := Option.some.inj hf
  exact x_iret C0 hr hw dX4_addCue_82
noncomputable def m4_addCue_64 (fl : Nat) (len : Nat → Nat) (I : Im) (X : Xm) (zx0 : Nat) (zx1 : Int32) (zx2 : Int32) (zx3 : Int32) (zx4 : Int32) : Option (Int32 × Im × Xm) :=
  if zx2 = (2 : Int32) then
    nn (m8_within fl len X I zx4 (0 : Int32) (100 : Int32)) fun zv2 =>
    if zv2 = 0 then
      m4_addCue_80 fl len I X
    else
      m4_addCue_83 fl len I X zx0 zx1 zx2 zx3 zx4
  else
    m4_addCue_83 fl len I X zx0 zx1 zx2 zx3 zx4
set_option maxHeartbeats 4000000 in
set_option maxRecDepth 100000 in
theorem w4_addCue_64 {p : Program} {l : Launch} {e : Env} {s : State} {m : MethodId} {args : Array Value} {below : List Frame} {meth : Method} {c : Code} {E : EN} {G : GM} (C0 : CX p s m args meth c E cX4_addCue RX4 5) (hr : meth.sig.returnType = (some .int)) (hz : s.heap.size + 0 ≤ eB E + G.1) {rr : Int32 × Im × Xm} (fl : Nat) : ∀ (I : Im) (X : Xm) (H : Heap) (locs : List Loc) (ls : Array Slot) (zx0 : Nat) (zx1 : Int32) (zx2 : Int32) (zx3 : Int32) (zx4 : Int32) (zt0 : okA E G 4 zx0), WD E G I X s.heap H locs → lv_has ls 5 [(0, .ref zx0), (1, .int zx1), (2, .int zx2), (3, .int zx3), (4, .int zx4)] → m4_addCue_64 fl G.2.2 I X zx0 zx1 zx2 zx3 zx4 = some rr → W p l e ({ frames := 3, cells := 0, slots := 0, locals := 68 } : Room) s m args below meth c H locs 0 0 (MQ below (QI E G rr.1 rr.2.1 rr.2.2) args s 0 0 (eA E)) (F0 m 64 ls []) := by
  intro I X H locs ls zx0 zx1 zx2 zx3 zx4 zt0 hw hl hf
  unfold m4_addCue_64 at hf
  have hx := C0.1; have hb := C0.2.1; have hml := C0.2.2.1; have hown := C0.2.2.2.1; have hts := C0.2.2.2.2.1
  refine lv_iload_n hx hb dX4_addCue_64 rfl (lv_at hl 2 rfl) ?_
  refine lv_iconst (v := (2 : Int32)) hx hb dX4_addCue_65 (by decide) ?_
  refine lv_icmp_ne (tgt := 83) hx hb dX4_addCue_66 (by decide) (fun zc1 => ?_) (fun zc1 => ?_)
  · have hf := ite_f hf zc1
    exact w4_addCue_83 C0 hr hz fl I X _ _ _ zx0 zx1 zx2 zx3 zx4 zt0 hw (lv_sub hl [0, 1, 2, 3, 4] rfl) hf
  · have hf := ite_t hf zc1
    refine lv_iload hx hb dX4_addCue_69 (lv_at hl 4 rfl) ?_
    refine lv_iconst (v := (0 : Int32)) hx hb dX4_addCue_71 (by decide) ?_
    refine lv_bipush (v := (100 : Int32)) hx hb dX4_addCue_72 (by decide) ?_
    obtain ⟨zv2, ze3, hf⟩ := nn_some hf
    refine x_ci (r := zv2) (I1 := I) (X1 := X) (x_runSN (As := [.int zx4, .int (0 : Int32), .int (100 : Int32)]) (rest := []) (host := "RadioCues") C0 (c8_within l E G fl X I zx4 (0 : Int32) (100 : Int32) ze3) hw wd41 (List.mem_of_getElem? (i := 5) rfl) wd357 wd197 ⟨rfl, rfl⟩ hy8_within.2 ⟨Nat.le_of_ble_eq_true rfl, Nat.le_of_ble_eq_true rfl⟩ rfl hl.1 (Nat.le_of_ble_eq_true rfl) ⟨Nat.zero_le _, Nat.zero_le _⟩ dX4_addCue_74) hw (fun H locs hw => ?_)
    refine lv_if_ne (tgt := 83) hx hb dX4_addCue_77 (by decide) (fun zc4 => ?_) (fun zc4 => ?_)
    · have hf := ite_f hf zc4
      exact w4_addCue_83 C0 hr hz fl I X _ _ _ zx0 zx1 zx2 zx3 zx4 zt0 hw (lv_sub hl [0, 1, 2, 3, 4] rfl) hf
    · have hf := ite_t hf zc4
      exact w4_addCue_80 C0 hr hz fl I X _ _ _ hw (lv_sub hl [] rfl) hf
noncomputable def m4_addCue_48 (fl : Nat) (len : Nat → Nat) (I : Im) (X : Xm) (zx0 : Nat) (zx1 : Int32) (zx2 : Int32) (zx3 : Int32) (zx4 : Int32) : Option (Int32 × Im × Xm) :=
  if zx2 = (1 : Int32) then
    nn (m8_within fl len X I zx4 (1 : Int32) (99 : Int32)) fun zv2 =>
    if zv2 = 0 then
      m4_addCue_80 fl len I X
    else
      m4_addCue_64 fl len I X zx0 zx1 zx2 zx3 zx4
  else
    m4_addCue_64 fl len I X zx0 zx1 zx2 zx3 zx4
set_option maxHeartbeats 4000000 in
set_option maxRecDepth 100000 in
theorem w4_addCue_48 {p : Program} {l : Launch} {e : Env} {s : State} {m : MethodId} {args : Array Value} {below : List Frame} {meth : Method} {c : Code} {E : EN} {G : GM} (C0 : CX p s m args meth c E cX4_addCue RX4 5) (hr : meth.sig.returnType = (some .int)) (hz : s.heap.size + 0 ≤ eB E + G.1) {rr : Int32 × Im × Xm} (fl : Nat) : ∀ (I : Im) (X : Xm) (H : Heap) (locs : List Loc) (ls : Array Slot) (zx0 : Nat) (zx1 : Int32) (zx2 : Int32) (zx3 : Int32) (zx4 : Int32) (zt0 : okA E G 4 zx0), WD E G I X s.heap H locs → lv_has ls 5 [(0, .ref zx0), (1, .int zx1), (2, .int zx2), (3, .int zx3), (4, .int zx4)] → m4_addCue_48 fl G.2.2 I X zx0 zx1 zx2 zx3 zx4 = some rr → W p l e ({ frames := 3, cells := 0, slots := 0, locals := 68 } : Room) s m args below meth c H locs 0 0 (MQ below (QI E G rr.1 rr.2.1 rr.2.2) args s 0 0 (eA E)) (F0 m 48 ls []) := by
  intro I X H locs ls zx0 zx1 zx2 zx3 zx4 zt0 hw hl hf
  unfold m4_addCue_48 at hf
  have hx := C0.1; have hb := C0.2.1; have hml := C0.2.2.1; have hown := C0.2.2.2.1; have hts := C0.2.2.2.2.1
  refine lv_iload_n hx hb dX4_addCue_48 rfl (lv_at hl 2 rfl) ?_
  refine lv_iconst (v := (1 : Int32)) hx hb dX4_addCue_49 (by decide) ?_
  refine lv_icmp_ne (tgt := 64) hx hb dX4_addCue_50 (by decide) (fun zc1 => ?_) (fun zc1 => ?_)
  · have hf := ite_f hf zc1
    exact w4_addCue_64 C0 hr hz fl I X _ _ _ zx0 zx1 zx2 zx3 zx4 zt0 hw (lv_sub hl [0, 1, 2, 3, 4] rfl) hf
  · have hf := ite_t hf zc1
    refine lv_iload hx hb dX4_addCue_53 (lv_at hl 4 rfl) ?_
    refine lv_iconst (v := (1 : Int32)) hx hb dX4_addCue_55 (by decide) ?_
    refine lv_bipush (v := (99 : Int32)) hx hb dX4_addCue_56 (by decide) ?_
    obtain ⟨zv2, ze3, hf⟩ := nn_some hf
    refine x_ci (r := zv2) (I1 := I) (X1 := X) (x_runSN (As := [.int zx4, .int (1 : Int32), .int (99 : Int32)]) (rest := []) (host := "RadioCues") C0 (c8_within l E G fl X I zx4 (1 : Int32) (99 : Int32) ze3) hw wd41 (List.mem_of_getElem? (i := 5) rfl) wd357 wd197 ⟨rfl, rfl⟩ hy8_within.2 ⟨Nat.le_of_ble_eq_true rfl, Nat.le_of_ble_eq_true rfl⟩ rfl hl.1 (Nat.le_of_ble_eq_true rfl) ⟨Nat.zero_le _, Nat.zero_le _⟩ dX4_addCue_58) hw (fun H locs hw => ?_)
    refine lv_if_eq (tgt := 80) hx hb dX4_addCue_61 (by decide) (fun zc4 => ?_) (fun zc4 => ?_)
    · have hf := ite_t hf zc4
      exact w4_addCue_80 C0 hr hz fl I X _ _ _ hw (lv_sub hl [] rfl) hf
    · have hf := ite_f hf zc4
      exact w4_addCue_64 C0 hr hz fl I X _ _ _ zx0 zx1 zx2 zx3 zx4 zt0 hw (lv_sub hl [0, 1, 2, 3, 4] rfl) hf
noncomputable def m4_addCue_46 (fl : Nat) (len : Nat → Nat) (I : Im) (X : Xm) : Option (Int32 × Im × Xm) :=
  some ((-1 : Int32), I, X)
set_option maxHeartbeats 4000000 in
set_option maxRecDepth 100000 in
theorem w4_addCue_46 {p : Program} {l : Launch} {e : Env} {s : State} {m : MethodId} {args : Array Value} {below : List Frame} {meth : Method} {c : Code} {E : EN} {G : GM} (C0 : CX p s m args meth c E cX4_addCue RX4 5) (hr : meth.sig.returnType = (some .int)) (hz : s.heap.size + 0 ≤ eB E + G.1) {rr : Int32 × Im × Xm} (fl : Nat) : ∀ (I : Im) (X : Xm) (H : Heap) (locs : List Loc) (ls : Array Slot) , WD E G I X s.heap H locs → lv_has ls 5 [] → m4_addCue_46 fl G.2.2 I X = some rr → W p l e ({ frames := 3, cells := 0, slots := 0, locals := 68 } : Room) s m args below meth c H locs 0 0 (MQ below (QI E G rr.1 rr.2.1 rr.2.2) args s 0 0 (eA E)) (F0 m 46 ls []) := by
  intro I X H locs ls hw hl hf
  unfold m4_addCue_46 at hf
  have hx := C0.1; have hb := C0.2.1; have hml := C0.2.2.1; have hown := C0.2.2.2.1; have hts := C0.2.2.2.2.1
  refine lv_iconst (v := (-1 : Int32)) hx hb dX4_addCue_46 (by decide) ?_
  obtain rfl := Option.some.inj hf
  exact x_iret C0 hr hw dX4_addCue_47
noncomputable def m4_addCue_20 (fl : Nat) (len : Nat → Nat) (I : Im) (X : Xm) : Option (Int32 × Im × Xm) :=
  some ((-2 : Int32), I, X)
set_option maxHeartbeats 4000000 in
set_option maxRecDepth 100000 in
theorem w4_addCue_20 {p : Program} {l : Launch} {e : Env} {s : State} {m : MethodId} {args : Array Value} {below : List Frame} {meth : Method} {c : Code} {E : EN} {G : GM} (C0 : CX p s m args meth c E cX4_addCue RX4 5) (hr : meth.sig.returnType = (some .int)) (hz : s.heap.size + 0 ≤ eB E + G.1) {rr : Int32 × Im × Xm} (fl : Nat) : ∀ (I : Im) (X : Xm) (H : Heap) (locs : List Loc) (ls : Array Slot) , WD E G I X s.heap H locs → lv_has ls 5 [] → m4_addCue_20 fl G.2.2 I X = some rr → W p l e ({ frames := 3, cells := 0, slots := 0, locals := 68 } : Room) s m args below meth c H locs 0 0 (MQ below (QI E G rr.1 rr.2.1 rr.2.2) args s 0 0 (eA E)) (F0 m 20 ls []) := by
  intro I X H locs ls hw hl hf
  unfold m4_addCue_20 at hf
  have hx := C0.1; have hb := C0.2.1; have hml := C0.2.2.1; have hown := C0.2.2.2.1; have hts := C0.2.2.2.2.1
  refine lv_bipush (v := (-2 : Int32)) hx hb dX4_addCue_20 (by decide) ?_
  obtain rfl := Option.some.inj hf
  exact x_iret C0 hr hw dX4_addCue_22
noncomputable def m4_addCue (fl : Nat) (len : Nat → Nat) (X : Xm) (I : Im) (zx0 : Nat) (zx1 : Int32) (zx2 : Int32) (zx3 : Int32) (zx4 : Int32) : Option (Int32 × Im × Xm) :=
  nn (m8_within fl len X I zx1 (0 : Int32) (999 : Int32)) fun zv1 =>
  if zv1 = 0 then
    m4_addCue_20 fl len I X
  else
    nn (m8_within fl len X I zx2 (0 : Int32) (2 : Int32)) fun zv4 =>
    if zv4 = 0 then
      m4_addCue_20 fl len I X
    else
      nn (m8_within fl len X I zx3 (0 : Int32) (3 : Int32)) fun zv7 =>
      if zv7 = 0 then
        m4_addCue_46 fl len I X
      else
        if zx2 = 0 then
          nn (m4_soundAt fl len X I zx0 zx3 zx4) fun zv11 =>
          if zv11 = none then
            m4_addCue_46 fl len I X
          else
            m4_addCue_48 fl len I X zx0 zx1 zx2 zx3 zx4
        else
          m4_addCue_48 fl len I X zx0 zx1 zx2 zx3 zx4
theorem hy4_addCue : yX4_addCue.cls = RX4 ∧ yX4_addCue.cls ≠ "java/lang/invoke/MethodHandle" ∧ yX4_addCue.cls ≠ "java/lang/invoke/VarHandle" ∧ (parseMethodDescriptor yX4_addCue.desc).map (fun d => d.parameters.length) = some 4 := ⟨rfl, by decide +kernel, by decide +kernel, by decide +kernel⟩
set_option maxHeartbeats 4000000 in
set_option maxRecDepth 100000 in
theorem c4_addCue (l : Launch) (E : EN) (G : GM) (fl : Nat) (X : Xm) (I : Im) (zx0 : Nat) (zx1 : Int32) (zx2 : Int32) (zx3 : Int32) (zx4 : Int32) (zt0 : okA E G 4 zx0) {rr : Int32 × Im × Xm} (hf : m4_addCue fl G.2.2 X I zx0 zx1 zx2 zx3 zx4 = some rr) : MT l yX4_addCue cX4_addCue 5 (some .int) ({ frames := 3, cells := 0, slots := 0, locals := 68 } : Room) E G I X [.ref zx0, .int zx1, .int zx2, .int zx3, .int zx4] (QI E G rr.1 rr.2.1 rr.2.2) 0 0 := by
  refine Met.ofW (cc := cX4_addCue) (maxL := 5) (ret := (some .int)) (by decide +kernel) rfl ?_
  intro p e s m args below meth c s₁ B hml hv
  obtain ⟨rfl, hw0, hSE⟩ := hv
  have C0 : CX p s m ([.ref zx0, .int zx1, .int zx2, .int zx3, .int zx4] : List Value).toArray meth c E cX4_addCue RX4 5 := ⟨B.exec, B.bytes, hml, findClass_of_methodNamed B.named, fun w hw => atoms_spec (ws := WS yX4_addCue cX4_addCue 5 (some .int)) B.pre w (List.mem_cons_of_mem _ hw), B.notSynchronized, hSE⟩
  have hz : s.heap.size + 0 ≤ eB E + G.1 := Nat.le_of_eq hw0.2.1
  have hw : WD E G I X s.heap s.heap [] := ⟨hw0, va_S.rf⟩
  have hr := B.returns
  have hx := C0.1; have hb := C0.2.1; have hml := C0.2.2.1; have hown := C0.2.2.2.1; have hts := C0.2.2.2.2.1
  have hl := lv_entry ([.ref zx0, .int zx1, .int zx2, .int zx3, .int zx4]) (n := 5) (Nat.le_of_ble_eq_true rfl)
  rw [lg_entry_eq]
  generalize (lg_sl ([.ref zx0, .int zx1, .int zx2, .int zx3, .int zx4]) ++ List.replicate (5 - (lg_sl ([.ref zx0, .int zx1, .int zx2, .int zx3, .int zx4])).length) Slot.unset).toArray = ls at hl ⊢
  have hl : lv_has ls 5 [(0, .ref zx0), (1, .int zx1), (2, .int zx2), (3, .int zx3), (4, .int zx4)] := hl
  unfold m4_addCue at hf
  refine lv_iload_n hx hb dX4_addCue_0 rfl (lv_at hl 1 rfl) ?_
  refine lv_iconst (v := (0 : Int32)) hx hb dX4_addCue_1 (by decide) ?_
  refine lv_sipush (v := (999 : Int32)) hx hb dX4_addCue_2 (by decide) ?_
  obtain ⟨zv1, ze2, hf⟩ := nn_some hf
  refine x_ci (r := zv1) (I1 := I) (X1 := X) (x_runSN (As := [.int zx1, .int (0 : Int32), .int (999 : Int32)]) (rest := []) (host := "RadioCues") C0 (c8_within l E G fl X I zx1 (0 : Int32) (999 : Int32) ze2) hw wd41 (List.mem_of_getElem? (i := 5) rfl) wd357 wd197 ⟨rfl, rfl⟩ hy8_within.2 ⟨Nat.le_of_ble_eq_true rfl, Nat.le_of_ble_eq_true rfl⟩ rfl hl.1 (Nat.le_of_ble_eq_true rfl) ⟨Nat.zero_le _, Nat.zero_le _⟩ dX4_addCue_5) hw (fun H locs hw => ?_)
  refine lv_if_eq (tgt := 20) hx hb dX4_addCue_8 (by decide) (fun zc3 => ?_) (fun zc3 => ?_)
  · have hf := ite_t hf zc3
    exact w4_addCue_20 C0 hr hz fl I X _ _ _ hw (lv_sub hl [] rfl) hf
  · have hf := ite_f hf zc3
    refine lv_iload_n hx hb dX4_addCue_11 rfl (lv_at hl 2 rfl) ?_
    refine lv_iconst (v := (0 : Int32)) hx hb dX4_addCue_12 (by decide) ?_
    refine lv_iconst (v := (2 : Int32)) hx hb dX4_addCue_13 (by decide) ?_
    obtain ⟨zv4, ze5, hf⟩ := nn_some hf
    refine x_ci (r := zv4) (I1 := I) (X1 := X) (x_runSN (As := [.int zx2, .int (0 : Int32), .int (2 : Int32)]) (rest := []) (host := "RadioCues") C0 (c8_within l E G fl X I zx2 (0 : Int32) (2 : Int32) ze5) hw wd41 (List.mem_of_getElem? (i := 5) rfl) wd357 wd197 ⟨rfl, rfl⟩ hy8_within.2 ⟨Nat.le_of_ble_eq_true rfl, Nat.le_of_ble_eq_true rfl⟩ rfl hl.1 (Nat.le_of_ble_eq_true rfl) ⟨Nat.zero_le _, Nat.zero_le _⟩ dX4_addCue_14) hw (fun H locs hw => ?_)
    refine lv_if_ne (tgt := 23) hx hb dX4_addCue_17 (by decide) (fun zc6 => ?_) (fun zc6 => ?_)
    · have hf := ite_f hf zc6
      refine lv_iload_n hx hb dX4_addCue_23 rfl (lv_at hl 3 rfl) ?_
      refine lv_iconst (v := (0 : Int32)) hx hb dX4_addCue_24 (by decide) ?_
      refine lv_iconst (v := (3 : Int32)) hx hb dX4_addCue_25 (by decide) ?_
      obtain ⟨zv7, ze8, hf⟩ := nn_some hf
      refine x_ci (r := zv7) (I1 := I) (X1 := X) (x_runSN (As := [.int zx3, .int (0 : Int32), .int (3 : Int32)]) (rest := []) (host := "RadioCues") C0 (c8_within l E G fl X I zx3 (0 : Int32) (3 : Int32) ze8) hw wd41 (List.mem_of_getElem? (i := 5) rfl) wd357 wd197 ⟨rfl, rfl⟩ hy8_within.2 ⟨Nat.le_of_ble_eq_true rfl, Nat.le_of_ble_eq_true rfl⟩ rfl hl.1 (Nat.le_of_ble_eq_true rfl) ⟨Nat.zero_le _, Nat.zero_le _⟩ dX4_addCue_26) hw (fun H locs hw => ?_)
      refine lv_if_eq (tgt := 46) hx hb dX4_addCue_29 (by decide) (fun zc9 => ?_) (fun zc9 => ?_)
      · have hf := ite_t hf zc9
        exact w4_addCue_46 C0 hr hz fl I X _ _ _ hw (lv_sub hl [] rfl) hf
      · have hf := ite_f hf zc9
        refine lv_iload_n hx hb dX4_addCue_32 rfl (lv_at hl 2 rfl) ?_
        refine lv_if_ne (tgt := 48) hx hb dX4_addCue_33 (by decide) (fun zc10 => ?_) (fun zc10 => ?_)
        · have hf := ite_f hf zc10
          exact w4_addCue_48 C0 hr hz fl I X _ _ _ zx0 zx1 zx2 zx3 zx4 zt0 hw (lv_sub hl [0, 1, 2, 3, 4] rfl) hf
        · have hf := ite_t hf zc10
          refine lv_aload_n hx hb dX4_addCue_36 rfl (lv_at hl 0 rfl) ?_
          refine lv_iload_n hx hb dX4_addCue_37 rfl (lv_at hl 3 rfl) ?_
          refine lv_iload hx hb dX4_addCue_38 (lv_at hl 4 rfl) ?_
          obtain ⟨zv11, ze12, hf⟩ := nn_some hf
          refine x_co (r := zv11) (I1 := I) (X1 := X) (x_runV (As := [.int zx3, .int zx4]) (rest := []) C0 (c4_soundAt l E G fl X I zx0 zx3 zx4 zt0 ze12) hw 4 zt0 (by decide) rfl wd48 wd386 wd387 wd388 wd356 ⟨rfl, rfl⟩ hy4_soundAt ⟨Nat.le_of_ble_eq_true rfl, Nat.le_of_ble_eq_true rfl⟩ rfl hl.1 (Nat.le_of_ble_eq_true rfl) ⟨Nat.zero_le _, Nat.zero_le _⟩ dX4_addCue_40) hw (fun H locs hw tzv11 => ?_)
          refine x_ifnonnull (tgt := 48) C0 dX4_addCue_43 (by decide) (fun zc13 => ?_) (fun zc13 => ?_)
          · have hf := ite_f hf zc13
            exact w4_addCue_48 C0 hr hz fl I X _ _ _ zx0 zx1 zx2 zx3 zx4 zt0 hw (lv_sub hl [0, 1, 2, 3, 4] rfl) hf
          · have hf := ite_t hf zc13
            exact w4_addCue_46 C0 hr hz fl I X _ _ _ hw (lv_sub hl [] rfl) hf
    · have hf := ite_t hf zc6
      exact w4_addCue_20 C0 hr hz fl I X _ _ _ hw (lv_sub hl [] rfl) hf
noncomputable def m6_makeLast_58 (fl : Nat) (len : Nat → Nat) (I : Im) (X : Xm) : Option (Xm) :=
  some (X)
set_option maxHeartbeats 4000000 in
set_option maxRecDepth 100000 in
theorem w6_makeLast_58 {p : Program} {l : Launch} {e : Env} {s : State} {m : MethodId} {args : Array Value} {below : List Frame} {meth : Method} {c : Code} {E : EN} {G : GM} {I : Im} (C0 : CX p s m args meth c E cX6_makeLast RX6 4) (hr : meth.sig.returnType = none) (hz : s.heap.size + 0 ≤ eB E + G.1) {rr : Xm} (fl : Nat) : ∀ (X : Xm) (H : Heap) (locs : List Loc) (ls : Array Slot) , WD E G I X s.heap H locs → lv_has ls 4 [] → m6_makeLast_58 fl G.2.2 I X = some rr → W p l e ({ frames := 1, cells := 0, slots := 0, locals := 21 } : Room) s m args below meth c H locs 0 0 (MQ below (QV E G I rr) args s 0 0 (eA E)) (F0 m 58 ls []) := by
  intro X H locs ls hw hl hf
  unfold m6_makeLast_58 at hf
  have hx := C0.1; have hb := C0.2.1; have hml := C0.2.2.1; have hown := C0.2.2.2.1; have hts := C0.2.2.2.2.1
  obtain rfl := Option.some.inj hf
  exact x_vret C0 hr hw dX6_makeLast_58
noncomputable def m6_makeLast_14b (fl : Nat) (len : Nat → Nat) (I : Im) (zr14 : Xm → Nat → Option Nat → Int32 → Option (Xm)) (X : Xm) (zx0 : Nat) (zx2 : Option Nat) (zx3 : Int32) : Option (Xm) :=
  if (gF I 97 zx0) ≤ zx3 then
    m6_makeLast_58 fl len I X
  else
    nn (gR X 96 zx0) fun zv2 =>
    if (nI (len zv2)) ≤ zx3 then
      m6_makeLast_58 fl len I X
    else
      ck (inb zx3 (len zv2) = true) <|
      nn (gQ X zv2 (zx3).toNatClampNeg) fun zv5 =>
      ck (inb (zx3 - (1 : Int32)) (len zv2) = true) <|
      lt (pQ X zv2 ((zx3 - (1 : Int32))).toNatClampNeg (some zv5)) fun zX7 =>
      nn (gR zX7 96 zx0) fun zv8 =>
      nn zx2 fun zb9 =>
      ck (inb zx3 (len zv8) = true) <|
      lt (pQ zX7 zv8 (zx3).toNatClampNeg (some zb9)) fun zX11 =>
      lt (zx3 + 1) fun zv12 =>
      zr14 zX11 zx0 (some zb9) zv12
noncomputable def m6_makeLast_14 (fl : Nat) (len : Nat → Nat) (I : Im) (n : Nat) : Xm → Nat → Option Nat → Int32 → Option (Xm) :=
  Nat.rec (fun _ _ _ _ => none) (fun _ r => m6_makeLast_14b fl len I r) n
set_option maxHeartbeats 4000000 in
set_option maxRecDepth 100000 in
theorem w6_makeLast_14b {p : Program} {l : Launch} {e : Env} {s : State} {m : MethodId} {args : Array Value} {below : List Frame} {meth : Method} {c : Code} {E : EN} {G : GM} {I : Im} (C0 : CX p s m args meth c E cX6_makeLast RX6 4) (hr : meth.sig.returnType = none) (hz : s.heap.size + 0 ≤ eB E + G.1) {rr : Xm} (fl : Nat) (zr14 : Xm → Nat → Option Nat → Int32 → Option (Xm)) (zhr14 : ∀ (X : Xm) (H : Heap) (locs : List Loc) (ls : Array Slot) (zx0 : Nat) (zx2 : Option Nat) (zx3 : Int32) (zt0 : okA E G 6 zx0) (zt2 : ∀ a, zx2 = some a → okA E G 1 a), WD E G I X s.heap H locs → lv_has ls 4 [(0, .ref zx0), (2, va_rf zx2), (3, .int zx3)] → zr14 X zx0 zx2 zx3 = some rr → W p l e ({ frames := 1, cells := 0, slots := 0, locals := 21 } : Room) s m args below meth c H locs 0 0 (MQ below (QV E G I rr) args s 0 0 (eA E)) (F0 m 14 ls [])) : ∀ (X : Xm) (H : Heap) (locs : List Loc) (ls : Array Slot) (zx0 : Nat) (zx2 : Option Nat) (zx3 : Int32) (zt0 : okA E G 6 zx0) (zt2 : ∀ a, zx2 = some a → okA E G 1 a), WD E G I X s.heap H locs → lv_has ls 4 [(0, .ref zx0), (2, va_rf zx2), (3, .int zx3)] → m6_makeLast_14b fl G.2.2 I zr14 X zx0 zx2 zx3 = some rr → W p l e ({ frames := 1, cells := 0, slots := 0, locals := 21 } : Room) s m args below meth c H locs 0 0 (MQ below (QV E G I rr) args s 0 0 (eA E)) (F0 m 14 ls []) := by
  intro X H locs ls zx0 zx2 zx3 zt0 zt2 hw hl hf
  unfold m6_makeLast_14b at hf
  have hx := C0.1; have hb := C0.2.1; have hml := C0.2.2.1; have hown := C0.2.2.2.1; have hts := C0.2.2.2.2.1
  refine lv_iload_n hx hb dX6_makeLast_14 rfl (lv_at hl 2 rfl) ?_
  refine lv_aload_n hx hb dX6_makeLast_15 rfl (lv_at hl 0 rfl) ?_
  refine xg_6_1 C0 hw zt0 wd322 dX6_makeLast_16 ?_
  refine lv_icmp_ge (tgt := 58) hx hb dX6_makeLast_19 (by decide) (fun zc1 => ?_) (fun zc1 => ?_)
  · have hf := ite_t hf zc1
    exact w6_makeLast_58 C0 hr hz fl X _ _ _ hw (lv_sub hl [] rfl) hf
  · have hf := ite_f hf zc1
    refine lv_iload_n hx hb dX6_makeLast_22 rfl (lv_at hl 2 rfl) ?_
    refine lv_aload_n hx hb dX6_makeLast_23 rfl (lv_at hl 0 rfl) ?_
    obtain ⟨zv2, ezv2, hf⟩ := nn_some hf
    have tzv2 : okA E G 14 zv2 := wt_r hw ezv2
    refine xg_6_0 C0 hw zt0 wd284 ezv2 dX6_makeLast_24 ?_
    refine x_alen C0 hw 14 tzv2 (by decide) rfl dX6_makeLast_27 ?_
    refine lv_icmp_ge (tgt := 58) hx hb dX6_makeLast_28 (by decide) (fun zc3 => ?_) (fun zc3 => ?_)
    · have hf := ite_t hf zc3
      exact w6_makeLast_58 C0 hr hz fl X _ _ _ hw (lv_sub hl [] rfl) hf
    · have hf := ite_f hf zc3
      refine lv_aload_n hx hb dX6_makeLast_31 rfl (lv_at hl 0 rfl) ?_
      refine xg_6_0 C0 hw zt0 wd284 ezv2 dX6_makeLast_32 ?_
      refine lv_iload_n hx hb dX6_makeLast_35 rfl (lv_at hl 2 rfl) ?_
      refine lv_iconst (v := (1 : Int32)) hx hb dX6_makeLast_36 (by decide) ?_
      refine lv_isub hx hb dX6_makeLast_37 ?_
      refine lv_aload_n hx hb dX6_makeLast_38 rfl (lv_at hl 0 rfl) ?_
      refine xg_6_0 C0 hw zt0 wd284 ezv2 dX6_makeLast_39 ?_
      refine lv_iload_n hx hb dX6_makeLast_42 rfl (lv_at hl 2 rfl) ?_
      obtain ⟨zhb4, hf⟩ := ck_some hf
      obtain ⟨zv5, ezv5, hf⟩ := nn_some hf
      have tzv5 : okA E G 1 zv5 := wt_q hw tzv2 ezv5
      refine x_qald C0 hw 14 tzv2 (by decide) rfl zhb4 ezv5 dX6_makeLast_43 ?_
      obtain ⟨zhb6, hf⟩ := ck_some hf
      obtain ⟨zX7, ezX7⟩ : ∃ y : Xm, y = pQ X zv2 ((zx3 - (1 : Int32))).toNatClampNeg (some zv5) := ⟨_, rfl⟩
      have hf := lt_at hf ezX7
      refine x_qast C0 hz hw 14 tzv2 (by decide) tzv5 (by decide) rfl rfl zhb6 dX6_makeLast_44 ezX7 (fun H locs hw => ?_)
      refine lv_aload_n hx hb dX6_makeLast_45 rfl (lv_at hl 0 rfl) ?_
      obtain ⟨zv8, ezv8, hf⟩ := nn_some hf
      have tzv8 : okA E G 14 zv8 := wt_r hw ezv8
      refine xg_6_0 C0 hw zt0 wd284 ezv8 dX6_makeLast_46 ?_
      refine lv_iload_n hx hb dX6_makeLast_49 rfl (lv_at hl 2 rfl) ?_
      refine x_aload_n C0 dX6_makeLast_50 rfl (lv_at hl 1 rfl) ?_
      obtain ⟨zb9, ezb9, hfzb9⟩ := nn_some hf
      have tzb9 : okA E G 1 zb9 := zt2 _ ezb9
      subst ezb9
      have hf := hfzb9
      obtain ⟨zhb10, hf⟩ := ck_some hf
      obtain ⟨zX11, ezX11⟩ : ∃ y : Xm, y = pQ zX7 zv8 (zx3).toNatClampNeg (some zb9) := ⟨_, rfl⟩
      have hf := lt_at hf ezX11
      refine x_qast C0 hz hw 14 tzv8 (by decide) tzb9 (by decide) rfl rfl zhb10 dX6_makeLast_51 ezX11 (fun H locs hw => ?_)
      obtain ⟨zv12, ezv12⟩ : ∃ y : Int32, y = zx3 + 1 := ⟨_, rfl⟩
      have hf := lt_at hf ezv12
      refine lv_iinc (v := zv12) (lv' := [(3, .int zv12), (0, .ref zx0), (2, .ref zb9)]) hx hb dX6_makeLast_52 hl (k := 2) rfl (by rw [ezv12]; rfl) (by decide) rfl (fun ls hl => ?_)
      refine lv_goto (tgt := 14) hx hb dX6_makeLast_55 (by decide) ?_
      exact zhr14 zX11 _ _ _ zx0 (some zb9) zv12 zt0 (fun a h => by cases h; exact tzb9) hw (lv_sub hl [1, 2, 0] rfl) hf
theorem w6_makeLast_14 {p : Program} {l : Launch} {e : Env} {s : State} {m : MethodId} {args : Array Value} {below : List Frame} {meth : Method} {c : Code} {E : EN} {G : GM} {I : Im} (C0 : CX p s m args meth c E cX6_makeLast RX6 4) (hr : meth.sig.returnType = none) (hz : s.heap.size + 0 ≤ eB E + G.1) {rr : Xm} (fl : Nat) : ∀ (n : Nat) (X : Xm) (H : Heap) (locs : List Loc) (ls : Array Slot) (zx0 : Nat) (zx2 : Option Nat) (zx3 : Int32) (zt0 : okA E G 6 zx0) (zt2 : ∀ a, zx2 = some a → okA E G 1 a), WD E G I X s.heap H locs → lv_has ls 4 [(0, .ref zx0), (2, va_rf zx2), (3, .int zx3)] → m6_makeLast_14 fl G.2.2 I n X zx0 zx2 zx3 = some rr → W p l e ({ frames := 1, cells := 0, slots := 0, locals := 21 } : Room) s m args below meth c H locs 0 0 (MQ below (QV E G I rr) args s 0 0 (eA E)) (F0 m 14 ls []) := by
  intro n
  induction n with
  | zero => intro X H locs ls zx0 zx2 zx3 zt0 zt2 hw hl hf; exact absurd (show (none : Option (Xm)) = some rr from hf) (by simp)
  | succ n ih => intro X H locs ls zx0 zx2 zx3 zt0 zt2 hw hl hf; exact w6_makeLast_14b C0 hr hz fl _ ih X H locs ls zx0 zx2 zx3 zt0 zt2 hw hl hf
noncomputable def m6_makeLast (fl : Nat) (len : Nat → Nat) (X : Xm) (I : Im) (zx0 : Nat) (zx1 : Int32) : Option (Xm) :=
  nn (m6_cueAt fl len X I zx0 zx1) fun zv1 =>
  lt (((if (0 : Int32) < zx1 then zx1 else (0 : Int32)) + (1 : Int32))) fun zv3 =>
  m6_makeLast_14 fl len I fl X zx0 zv1 zv3
theorem hy6_makeLast : yX6_makeLast.cls = RX6 ∧ yX6_makeLast.cls ≠ "java/lang/invoke/MethodHandle" ∧ yX6_makeLast.cls ≠ "java/lang/invoke/VarHandle" ∧ (parseMethodDescriptor yX6_makeLast.desc).map (fun d => d.parameters.length) = some 1 := ⟨rfl, by decide +kernel, by decide +kernel, by decide +kernel⟩
set_option maxHeartbeats 4000000 in
set_option maxRecDepth 100000 in
theorem c6_makeLast (l : Launch) (E : EN) (G : GM) (fl : Nat) (X : Xm) (I : Im) (zx0 : Nat) (zx1 : Int32) (zt0 : okA E G 6 zx0) {rr : Xm} (hf : m6_makeLast fl G.2.2 X I zx0 zx1 = some rr) : MT l yX6_makeLast cX6_makeLast 4 none ({ frames := 1, cells := 0, slots := 0, locals := 21 } : Room) E G I X [.ref zx0, .int zx1] (QV E G I rr) 0 0 := by
  refine Met.ofW (cc := cX6_makeLast) (maxL := 4) (ret := none) (by decide +kernel) rfl ?_
  intro p e s m args below meth c s₁ B hml hv
  obtain ⟨rfl, hw0, hSE⟩ := hv
  have C0 : CX p s m ([.ref zx0, .int zx1] : List Value).toArray meth c E cX6_makeLast RX6 4 := ⟨B.exec, B.bytes, hml, findClass_of_methodNamed B.named, fun w hw => atoms_spec (ws := WS yX6_makeLast cX6_makeLast 4 none) B.pre w (List.mem_cons_of_mem _ hw), B.notSynchronized, hSE⟩
  have hz : s.heap.size + 0 ≤ eB E + G.1 := Nat.le_of_eq hw0.2.1
  have hw : WD E G I X s.heap s.heap [] := ⟨hw0, va_S.rf⟩
  have hr := B.returns
  have hx := C0.1; have hb := C0.2.1; have hml := C0.2.2.1; have hown := C0.2.2.2.1; have hts := C0.2.2.2.2.1
  have hl := lv_entry ([.ref zx0, .int zx1]) (n := 4) (Nat.le_of_ble_eq_true rfl)
  rw [lg_entry_eq]
  generalize (lg_sl ([.ref zx0, .int zx1]) ++ List.replicate (4 - (lg_sl ([.ref zx0, .int zx1])).length) Slot.unset).toArray = ls at hl ⊢
  have hl : lv_has ls 4 [(0, .ref zx0), (1, .int zx1)] := hl
  unfold m6_makeLast at hf
  refine lv_aload_n hx hb dX6_makeLast_0 rfl (lv_at hl 0 rfl) ?_
  refine lv_iload_n hx hb dX6_makeLast_1 rfl (lv_at hl 1 rfl) ?_
  obtain ⟨zv1, ze2, hf⟩ := nn_some hf
  refine x_co (r := zv1) (I1 := I) (X1 := X) (x_runV (As := [.int zx1]) (rest := []) C0 (c6_cueAt l E G fl X I zx0 zx1 zt0 ze2) hw 6 zt0 (by decide) rfl wd49 wd376 wd377 wd378 wd300 ⟨rfl, rfl⟩ hy6_cueAt ⟨Nat.le_of_ble_eq_true rfl, Nat.le_of_ble_eq_true rfl⟩ rfl hl.1 (Nat.le_of_ble_eq_true rfl) ⟨Nat.zero_le _, Nat.zero_le _⟩ dX6_makeLast_2) hw (fun H locs hw tzv1 => ?_)
  refine x_astore_n (lv' := [(2, va_rf zv1), (0, .ref zx0), (1, .int zx1)]) C0 dX6_makeLast_5 rfl hl (by decide) rfl (fun ls hl => ?_)
  refine lv_iconst (v := (0 : Int32)) hx hb dX6_makeLast_6 (by decide) ?_
  refine lv_iload_n hx hb dX6_makeLast_7 rfl (lv_at hl 2 rfl) ?_
  refine va_mmax hx hb (hml.trans hl.1.symm) hown (hts _ wd392) (hts _ wd194) (hts _ wd191) (hts _ wd195) (Nat.le_of_ble_eq_true rfl) (Nat.le_of_ble_eq_true rfl) (Nat.zero_le _) (Nat.zero_le _) dX6_makeLast_8 ?_
  refine lv_iconst (v := (1 : Int32)) hx hb dX6_makeLast_11 (by decide) ?_
  refine lv_iadd hx hb dX6_makeLast_12 ?_
  refine lv_topi (fun zv3 ezv3 => ?_)
  have hf := lt_at hf ezv3
  refine lv_istore_n (lv' := [(3, .int zv3), (2, va_rf zv1), (0, .ref zx0), (1, .int zx1)]) hx hb dX6_makeLast_13 rfl hl (by decide) (by cases zv1 <;> rfl) (fun ls hl => ?_)
  exact w6_makeLast_14 C0 hr hz fl fl X _ _ _ zx0 zv1 zv3 zt0 tzv1 hw (lv_sub hl [2, 1, 0] rfl) hf
noncomputable def m4_moveCue_44 (fl : Nat) (len : Nat → Nat) (I : Im) (X : Xm) : Option (Int32 × Im × Xm) :=
  some ((-5 : Int32), I, X)
set_option maxHeartbeats 4000000 in
set_option maxRecDepth 100000 in
theorem w4_moveCue_44 {p : Program} {l : Launch} {e : Env} {s : State} {m : MethodId} {args : Array Value} {below : List Frame} {meth : Method} {c : Code} {E : EN} {G : GM} (C0 : CX p s m args meth c E cX4_moveCue RX4 4) (hr : meth.sig.returnType = (some .int)) (hz : s.heap.size + 0 ≤ eB E + G.1) {rr : Int32 × Im × Xm} (fl : Nat) : ∀ (I : Im) (X : Xm) (H : Heap) (locs : List Loc) (ls : Array Slot) , WD E G I X s.heap H locs → lv_has ls 4 [] → m4_moveCue_44 fl G.2.2 I X = some rr → W p l e ({ frames := 2, cells := 0, slots := 0, locals := 44 } : Room) s m args below meth c H locs 0 0 (MQ below (QI E G rr.1 rr.2.1 rr.2.2) args s 0 0 (eA E)) (F0 m 44 ls []) := by
  intro I X H locs ls hw hl hf
  unfold m4_moveCue_44 at hf
  have hx := C0.1; have hb := C0.2.1; have hml := C0.2.2.1; have hown := C0.2.2.2.1; have hts := C0.2.2.2.2.1
  refine lv_bipush (v := (-5 : Int32)) hx hb dX4_moveCue_44 (by decide) ?_
  obtain rfl := Option.some.inj hf
  exact x_iret C0 hr hw dX4_moveCue_46
noncomputable def m4_moveCue (fl : Nat) (len : Nat → Nat) (X : Xm) (I : Im) (zx0 : Nat) (zx1 : Int32) (zx2 : Int32) : Option (Int32 × Im × Xm) :=
  nn (gR X 65 zx0) fun zv1 =>
  nn (m6_cueAt fl len X I zv1 zx1) fun zv2 =>
  if zv2 = none then
    some ((-1 : Int32), I, X)
  else
    nn (m8_within fl len X I zx2 (0 : Int32) (999 : Int32)) fun zv5 =>
    if zv5 = 0 then
      some ((-2 : Int32), I, X)
    else
      nn zv2 fun zb8 =>
      if (gF I 20 zb8) = 0 then
        if (gF I 72 zx0) ≤ zx2 then
          nn (m6_makeLast fl len X I zv1 zx1) fun zX11 =>
          lt (pF I 16 zb8 zx2) fun zI13 =>
          nn (gR zX11 65 zx0) fun zv14 =>
          nn (m6_sortLast fl len zX11 zI13 zv14) fun ⟨zv15, zX16⟩ =>
          some (zv15, zI13, zX16)
        else
          m4_moveCue_44 fl len I X
      else
        m4_moveCue_44 fl len I X
theorem hy4_moveCue : yX4_moveCue.cls = RX4 ∧ yX4_moveCue.cls ≠ "java/lang/invoke/MethodHandle" ∧ yX4_moveCue.cls ≠ "java/lang/invoke/VarHandle" ∧ (parseMethodDescriptor yX4_moveCue.desc).map (fun d => d.parameters.length) = some 2 := ⟨rfl, by decide +kernel, by decide +kernel, by decide +kernel⟩
set_option maxHeartbeats 4000000 in
set_option maxRecDepth 100000 in
theorem c4_moveCue (l : Launch) (E : EN) (G : GM) (fl : Nat) (X : Xm) (I : Im) (zx0 : Nat) (zx1 : Int32) (zx2 : Int32) (zt0 : okA E G 4 zx0) {rr : Int32 × Im × Xm} (hf : m4_moveCue fl G.2.2 X I zx0 zx1 zx2 = some rr) : MT l yX4_moveCue cX4_moveCue 4 (some .int) ({ frames := 2, cells := 0, slots := 0, locals := 44 } : Room) E G I X [.ref zx0, .int zx1, .int zx2] (QI E G rr.1 rr.2.1 rr.2.2) 0 0 := by
  refine Met.ofW (cc := cX4_moveCue) (maxL := 4) (ret := (some .int)) (by decide +kernel) rfl ?_
  intro p e s m args below meth c s₁ B hml hv
  obtain ⟨rfl, hw0, hSE⟩ := hv
  have C0 : CX p s m ([.ref zx0, .int zx1, .int zx2] : List Value).toArray meth c E cX4_moveCue RX4 4 := ⟨B.exec, B.bytes, hml, findClass_of_methodNamed B.named, fun w hw => atoms_spec (ws := WS yX4_moveCue cX4_moveCue 4 (some .int)) B.pre w (List.mem_cons_of_mem _ hw), B.notSynchronized, hSE⟩
  have hz : s.heap.size + 0 ≤ eB E + G.1 := Nat.le_of_eq hw0.2.1
  have hw : WD E G I X s.heap s.heap [] := ⟨hw0, va_S.rf⟩
  have hr := B.returns
  have hx := C0.1; have hb := C0.2.1; have hml := C0.2.2.1; have hown := C0.2.2.2.1; have hts := C0.2.2.2.2.1
  have hl := lv_entry ([.ref zx0, .int zx1, .int zx2]) (n := 4) (Nat.le_of_ble_eq_true rfl)
  rw [lg_entry_eq]
  generalize (lg_sl ([.ref zx0, .int zx1, .int zx2]) ++ List.replicate (4 - (lg_sl ([.ref zx0, .int zx1, .int zx2])).length) Slot.unset).toArray = ls at hl ⊢
  have hl : lv_has ls 4 [(0, .ref zx0), (1, .int zx1), (2, .int zx2)] := hl
  unfold m4_moveCue at hf
  refine lv_aload_n hx hb dX4_moveCue_0 rfl (lv_at hl 0 rfl) ?_
  obtain ⟨zv1, ezv1, hf⟩ := nn_some hf
  have tzv1 : okA E G 6 zv1 := wt_r hw ezv1
  refine xg_4_1 C0 hw zt0 wd301 ezv1 dX4_moveCue_1 ?_
  refine lv_iload_n hx hb dX4_moveCue_4 rfl (lv_at hl 1 rfl) ?_
  obtain ⟨zv2, ze3, hf⟩ := nn_some hf
  refine x_co (r := zv2) (I1 := I) (X1 := X) (x_runV (As := [.int zx1]) (rest := []) C0 (c6_cueAt l E G fl X I zv1 zx1 tzv1 ze3) hw 6 tzv1 (by decide) rfl wd49 wd395 wd377 wd378 wd300 ⟨rfl, rfl⟩ hy6_cueAt ⟨Nat.le_of_ble_eq_true rfl, Nat.le_of_ble_eq_true rfl⟩ rfl hl.1 (Nat.le_of_ble_eq_true rfl) ⟨Nat.zero_le _, Nat.zero_le _⟩ dX4_moveCue_5) hw (fun H locs hw tzv2 => ?_)
  refine x_astore_n (lv' := [(3, va_rf zv2), (0, .ref zx0), (1, .int zx1), (2, .int zx2)]) C0 dX4_moveCue_8 rfl hl (by decide) rfl (fun ls hl => ?_)
  refine x_aload_n C0 dX4_moveCue_9 rfl (lv_at hl 0 rfl) ?_
  refine x_ifnonnull (tgt := 15) C0 dX4_moveCue_10 (by decide) (fun zc4 => ?_) (fun zc4 => ?_)
  · have hf := ite_f hf zc4
    refine lv_iload_n hx hb dX4_moveCue_15 rfl (lv_at hl 3 rfl) ?_
    refine lv_iconst (v := (0 : Int32)) hx hb dX4_moveCue_16 (by decide) ?_
    refine lv_sipush (v := (999 : Int32)) hx hb dX4_moveCue_17 (by decide) ?_
    obtain ⟨zv5, ze6, hf⟩ := nn_some hf
    refine x_ci (r := zv5) (I1 := I) (X1 := X) (x_runSN (As := [.int zx2, .int (0 : Int32), .int (999 : Int32)]) (rest := []) (host := "RadioCues") C0 (c8_within l E G fl X I zx2 (0 : Int32) (999 : Int32) ze6) hw wd41 (List.mem_of_getElem? (i := 5) rfl) wd357 wd197 ⟨rfl, rfl⟩ hy8_within.2 ⟨Nat.le_of_ble_eq_true rfl, Nat.le_of_ble_eq_true rfl⟩ rfl hl.1 (Nat.le_of_ble_eq_true rfl) ⟨Nat.zero_le _, Nat.zero_le _⟩ dX4_moveCue_20) hw (fun H locs hw => ?_)
    refine lv_if_ne (tgt := 29) hx hb dX4_moveCue_23 (by decide) (fun zc7 => ?_) (fun zc7 => ?_)
    · have hf := ite_f hf zc7
      refine x_aload_n C0 dX4_moveCue_29 rfl (lv_at hl 0 rfl) ?_
      obtain ⟨zb8, ezb8, hfzb8⟩ := nn_some hf
      have tzb8 : okA E G 1 zb8 := tzv2 _ ezb8
      subst ezb8
      have hf := hfzb8
      refine xg_1_4 C0 hw tzb8 wd393 dX4_moveCue_30 ?_
      refine lv_if_ne (tgt := 44) hx hb dX4_moveCue_33 (by decide) (fun zc9 => ?_) (fun zc9 => ?_)
      · have hf := ite_f hf zc9
        exact w4_moveCue_44 C0 hr hz fl I X _ _ _ hw (lv_sub hl [] rfl) hf
      · have hf := ite_t hf zc9
        refine lv_iload_n hx hb dX4_moveCue_36 rfl (lv_at hl 3 rfl) ?_
        refine lv_aload_n hx hb dX4_moveCue_37 rfl (lv_at hl 1 rfl) ?_
        refine xg_4_8 C0 hw zt0 wd337 dX4_moveCue_38 ?_
        refine lv_icmp_ge (tgt := 47) hx hb dX4_moveCue_41 (by decide) (fun zc10 => ?_) (fun zc10 => ?_)
        · have hf := ite_t hf zc10
          refine lv_aload_n hx hb dX4_moveCue_47 rfl (lv_at hl 1 rfl) ?_
          refine xg_4_1 C0 hw zt0 wd301 ezv1 dX4_moveCue_48 ?_
          refine lv_iload_n hx hb dX4_moveCue_51 rfl (lv_at hl 2 rfl) ?_
          obtain ⟨zX11, ze12, hf⟩ := nn_some hf
          refine x_cv (I1 := I) (X1 := zX11) (x_runV (As := [.int zx1]) (rest := []) C0 (c6_makeLast l E G fl X I zv1 zx1 tzv1 ze12) hw 6 tzv1 (by decide) rfl wd53 wd396 wd397 wd398 wd300 ⟨rfl, rfl⟩ hy6_makeLast ⟨Nat.le_of_ble_eq_true rfl, Nat.le_of_ble_eq_true rfl⟩ rfl hl.1 (Nat.le_of_ble_eq_true rfl) ⟨Nat.zero_le _, Nat.zero_le _⟩ dX4_moveCue_52) hw (fun H locs hw => ?_)
          refine lv_aload_n hx hb dX4_moveCue_55 rfl (lv_at hl 0 rfl) ?_
          refine lv_iload_n hx hb dX4_moveCue_56 rfl (lv_at hl 3 rfl) ?_
          obtain ⟨zI13, ezI13⟩ : ∃ y : Im, y = pF I 16 zb8 zx2 := ⟨_, rfl⟩
          have hf := lt_at hf ezI13
          refine xp_1_0 C0 hz hw tzb8 rfl rfl wd394 dX4_moveCue_57 ezI13 (fun H locs hw => ?_)
          refine lv_aload_n hx hb dX4_moveCue_60 rfl (lv_at hl 1 rfl) ?_
          obtain ⟨zv14, ezv14, hf⟩ := nn_some hf
          have tzv14 : okA E G 6 zv14 := wt_r hw ezv14
          refine xg_4_1 C0 hw zt0 wd301 ezv14 dX4_moveCue_61 ?_
          obtain ⟨⟨zv15, zX16⟩, ze17, hf⟩ := nn_some hf
          refine x_ci (r := zv15) (I1 := zI13) (X1 := zX16) (x_runV (As := []) (rest := []) C0 (c6_sortLast l E G fl zX11 zI13 zv14 tzv14 ze17) hw 6 tzv14 (by decide) rfl wd50 wd399 wd384 wd385 wd300 ⟨rfl, rfl⟩ hy6_sortLast ⟨Nat.le_of_ble_eq_true rfl, Nat.le_of_ble_eq_true rfl⟩ rfl hl.1 (Nat.le_of_ble_eq_true rfl) ⟨Nat.zero_le _, Nat.zero_le _⟩ dX4_moveCue_64) hw (fun H locs hw => ?_)
          obtain rfl := Option.some.inj hf
          exact x_iret C0 hr hw dX4_moveCue_67
        · have hf := ite_f hf zc10
          exact w4_moveCue_44 C0 hr hz fl I X _ _ _ hw (lv_sub hl [] rfl) hf
    · have hf := ite_t hf zc7
      refine lv_bipush (v := (-2 : Int32)) hx hb dX4_moveCue_26 (by decide) ?_
      obtain rfl := Option.some.inj hf
      exact x_iret C0 hr hw dX4_moveCue_28
  · have hf := ite_t hf zc4
    refine lv_iconst (v := (-1 : Int32)) hx hb dX4_moveCue_13 (by decide) ?_
    obtain rfl := Option.some.inj hf
    exact x_iret C0 hr hw dX4_moveCue_14
noncomputable def m4_channelAt_23 (fl : Nat) (len : Nat → Nat) (X : Xm) (I : Im) (zs0 : Option Nat) : Option (Option Nat) :=
  some (zs0)
set_option maxHeartbeats 4000000 in
set_option maxRecDepth 100000 in
theorem w4_channelAt_23 {p : Program} {l : Launch} {e : Env} {s : State} {m : MethodId} {args : Array Value} {below : List Frame} {meth : Method} {c : Code} {E : EN} {G : GM} {X : Xm} {I : Im} (C0 : CX p s m args meth c E cX4_channelAt RX4 2) (hr : meth.sig.returnType = (some (.object "RadioCues$Channel"))) (hz : s.heap.size + 0 ≤ eB E + G.1) {rr : Option Nat} (fl : Nat) : ∀ (H : Heap) (locs : List Loc) (ls : Array Slot) (zs0 : Option Nat) (zts0 : ∀ a, zs0 = some a → okA E G 0 a), WD E G I X s.heap H locs → lv_has ls 2 [] → m4_channelAt_23 fl G.2.2 X I zs0 = some rr → W p l e ({ frames := 0, cells := 0, slots := 0, locals := 0 } : Room) s m args below meth c H locs 0 0 (MQ below (QO E G 0 rr I X) args s 0 0 (eA E)) (F0 m 23 ls [va_rf zs0]) := by
  intro H locs ls zs0 zts0 hw hl hf
  unfold m4_channelAt_23 at hf
  have hx := C0.1; have hb := C0.2.1; have hml := C0.2.2.1; have hown := C0.2.2.2.1; have hts := C0.2.2.2.2.1
  obtain rfl := Option.some.inj hf
  exact x_oret (r := zs0) (k := 0) C0 hr zts0 hw dX4_channelAt_23
noncomputable def m4_channelAt_13 (fl : Nat) (len : Nat → Nat) (X : Xm) (I : Im) : Option (Option Nat) :=
  m4_channelAt_23 fl len X I none
set_option maxHeartbeats 4000000 in
set_option maxRecDepth 100000 in
theorem w4_channelAt_13 {p : Program} {l : Launch} {e : Env} {s : State} {m : MethodId} {args : Array Value} {below : List Frame} {meth : Method} {c : Code} {E : EN} {G : GM} {X : Xm} {I : Im} (C0 : CX p s m args meth c E cX4_channelAt RX4 2) (hr : meth.sig.returnType = (some (.object "RadioCues$Channel"))) (hz : s.heap.size + 0 ≤ eB E + G.1) {rr : Option Nat} (fl : Nat) : ∀ (H : Heap) (locs : List Loc) (ls : Array Slot) , WD E G I X s.heap H locs → lv_has ls 2 [] → m4_channelAt_13 fl G.2.2 X I = some rr → W p l e ({ frames := 0, cells := 0, slots := 0, locals := 0 } : Room) s m args below meth c H locs 0 0 (MQ below (QO E G 0 rr I X) args s 0 0 (eA E)) (F0 m 13 ls []) := by
  intro H locs ls hw hl hf
  unfold m4_channelAt_13 at hf
  have hx := C0.1; have hb := C0.2.1; have hml := C0.2.2.1; have hown := C0.2.2.2.1; have hts := C0.2.2.2.2.1
  refine lv_null hx hb dX4_channelAt_13 ?_
  refine lv_goto (tgt := 23) hx hb dX4_channelAt_14 (by decide) ?_
  exact w4_channelAt_23 C0 hr hz fl _ _ _ none (fun a h => by cases h) hw (lv_sub hl [] rfl) hf
noncomputable def m4_channelAt (fl : Nat) (len : Nat → Nat) (X : Xm) (I : Im) (zx0 : Nat) (zx1 : Int32) : Option (Option Nat) :=
  if zx1 < 0 then
    m4_channelAt_13 fl len X I 
  else
    nn (gR X 67 zx0) fun zv2 =>
    if zx1 < (nI (len zv2)) then
      ck (inb zx1 (len zv2) = true) <|
      nn (gQ X zv2 (zx1).toNatClampNeg) fun zv5 =>
      m4_channelAt_23 fl len X I (some zv5)
    else
      m4_channelAt_13 fl len X I 
theorem hy4_channelAt : yX4_channelAt.cls = RX4 ∧ yX4_channelAt.cls ≠ "java/lang/invoke/MethodHandle" ∧ yX4_channelAt.cls ≠ "java/lang/invoke/VarHandle" ∧ (parseMethodDescriptor yX4_channelAt.desc).map (fun d => d.parameters.length) = some 1 := ⟨rfl, by decide +kernel, by decide +kernel, by decide +kernel⟩
set_option maxHeartbeats 4000000 in
set_option maxRecDepth 100000 in
theorem c4_channelAt (l : Launch) (E : EN) (G : GM) (fl : Nat) (X : Xm) (I : Im) (zx0 : Nat) (zx1 : Int32) (zt0 : okA E G 4 zx0) {rr : Option Nat} (hf : m4_channelAt fl G.2.2 X I zx0 zx1 = some rr) : MT l yX4_channelAt cX4_channelAt 2 (some (.object "RadioCues$Channel")) ({ frames := 0, cells := 0, slots := 0, locals := 0 } : Room) E G I X [.ref zx0, .int zx1] (QO E G 0 rr I X) 0 0 := by
  refine Met.ofW (cc := cX4_channelAt) (maxL := 2) (ret := (some (.object "RadioCues$Channel"))) (by decide +kernel) rfl ?_
  intro p e s m args below meth c s₁ B hml hv
  obtain ⟨rfl, hw0, hSE⟩ := hv
  have C0 : CX p s m ([.ref zx0, .int zx1] : List Value).toArray meth c E cX4_channelAt RX4 2 := ⟨B.exec, B.bytes, hml, findClass_of_methodNamed B.named, fun w hw => atoms_spec (ws := WS yX4_channelAt cX4_channelAt 2 (some (.object "RadioCues$Channel"))) B.pre w (List.mem_cons_of_mem _ hw), B.notSynchronized, hSE⟩
  have hz : s.heap.size + 0 ≤ eB E + G.1 := Nat.le_of_eq hw0.2.1
  have hw : WD E G I X s.heap s.heap [] := ⟨hw0, va_S.rf⟩
  have hr := B.returns
  have hx := C0.1; have hb := C0.2.1; have hml := C0.2.2.1; have hown := C0.2.2.2.1; have hts := C0.2.2.2.2.1
  have hl := lv_entry ([.ref zx0, .int zx1]) (n := 2) (Nat.le_of_ble_eq_true rfl)
  rw [lg_entry_eq]
  generalize (lg_sl ([.ref zx0, .int zx1]) ++ List.replicate (2 - (lg_sl ([.ref zx0, .int zx1])).length) Slot.unset).toArray = ls at hl ⊢
  have hl : lv_has ls 2 [(0, .ref zx0), (1, .int zx1)] := hl
  unfold m4_channelAt at hf
  refine lv_iload_n hx hb dX4_channelAt_0 rfl (lv_at hl 1 rfl) ?_
  refine lv_if_lt (tgt := 13) hx hb dX4_channelAt_1 (by decide) (fun zc1 => ?_) (fun zc1 => ?_)
  · have hf := ite_t hf zc1
    exact w4_channelAt_13 C0 hr hz fl _ _ _ hw (lv_sub hl [] rfl) hf
  · have hf := ite_f hf zc1
    refine lv_iload_n hx hb dX4_channelAt_4 rfl (lv_at hl 1 rfl) ?_
    refine lv_aload_n hx hb dX4_channelAt_5 rfl (lv_at hl 0 rfl) ?_
    obtain ⟨zv2, ezv2, hf⟩ := nn_some hf
    have tzv2 : okA E G 13 zv2 := wt_r hw ezv2
    refine xg_4_3 C0 hw zt0 wd305 ezv2 dX4_channelAt_6 ?_
    refine x_alen C0 hw 13 tzv2 (by decide) rfl dX4_channelAt_9 ?_
    refine lv_icmp_lt (tgt := 17) hx hb dX4_channelAt_10 (by decide) (fun zc3 => ?_) (fun zc3 => ?_)
    · have hf := ite_t hf zc3
      refine lv_aload_n hx hb dX4_channelAt_17 rfl (lv_at hl 0 rfl) ?_
      refine xg_4_3 C0 hw zt0 wd305 ezv2 dX4_channelAt_18 ?_
      refine lv_iload_n hx hb dX4_channelAt_21 rfl (lv_at hl 1 rfl) ?_
      obtain ⟨zhb4, hf⟩ := ck_some hf
      obtain ⟨zv5, ezv5, hf⟩ := nn_some hf
      have tzv5 : okA E G 0 zv5 := wt_q hw tzv2 ezv5
      refine x_qald C0 hw 13 tzv2 (by decide) rfl zhb4 ezv5 dX4_channelAt_22 ?_
      exact w4_channelAt_23 C0 hr hz fl _ _ _ (some zv5) (fun a h => by cases h; exact tzv5) hw (lv_sub hl [] rfl) hf
    · have hf := ite_f hf zc3
      exact w4_channelAt_13 C0 hr hz fl _ _ _ hw (lv_sub hl [] rfl) hf
noncomputable def m4_putGoal (fl : Nat) (len : Nat → Nat) (X : Xm) (I : Im) (zx0 : Nat) (zx1 : Int32) (zx2 : Int32) : Option (Int32 × Im) :=
  nn (m4_channelAt fl len X I zx0 zx1) fun zv1 =>
  if zv1 = none then
    some ((-1 : Int32), I)
  else
    nn (m8_within fl len X I zx2 (0 : Int32) (100 : Int32)) fun zv4 =>
    if zv4 = 0 then
      some ((-2 : Int32), I)
    else
      nn zv1 fun zb7 =>
      lt ((gF I 1 zb7)) fun zv8 =>
      lt (pF I 1 zb7 zx2) fun zI9 =>
      some (zv8, zI9)
theorem hy4_putGoal : yX4_putGoal.cls = RX4 ∧ yX4_putGoal.cls ≠ "java/lang/invoke/MethodHandle" ∧ yX4_putGoal.cls ≠ "java/lang/invoke/VarHandle" ∧ (parseMethodDescriptor yX4_putGoal.desc).map (fun d => d.parameters.length) = some 2 := ⟨rfl, by decide +kernel, by decide +kernel, by decide +kernel⟩
set_option maxHeartbeats 4000000 in
set_option maxRecDepth 100000 in
theorem c4_putGoal (l : Launch) (E : EN) (G : GM) (fl : Nat) (X : Xm) (I : Im) (zx0 : Nat) (zx1 : Int32) (zx2 : Int32) (zt0 : okA E G 4 zx0) {rr : Int32 × Im} (hf : m4_putGoal fl G.2.2 X I zx0 zx1 zx2 = some rr) : MT l yX4_putGoal cX4_putGoal 5 (some .int) ({ frames := 1, cells := 0, slots := 0, locals := 22 } : Room) E G I X [.ref zx0, .int zx1, .int zx2] (QI E G rr.1 rr.2 X) 0 0 := by
  refine Met.ofW (cc := cX4_putGoal) (maxL := 5) (ret := (some .int)) (by decide +kernel) rfl ?_
  intro p e s m args below meth c s₁ B hml hv
  obtain ⟨rfl, hw0, hSE⟩ := hv
  have C0 : CX p s m ([.ref zx0, .int zx1, .int zx2] : List Value).toArray meth c E cX4_putGoal RX4 5 := ⟨B.exec, B.bytes, hml, findClass_of_methodNamed B.named, fun w hw => atoms_spec (ws := WS yX4_putGoal cX4_putGoal 5 (some .int)) B.pre w (List.mem_cons_of_mem _ hw), B.notSynchronized, hSE⟩
  have hz : s.heap.size + 0 ≤ eB E + G.1 := Nat.le_of_eq hw0.2.1
  have hw : WD E G I X s.heap s.heap [] := ⟨hw0, va_S.rf⟩
  have hr := B.returns
  have hx := C0.1; have hb := C0.2.1; have hml := C0.2.2.1; have hown := C0.2.2.2.1; have hts := C0.2.2.2.2.1
  have hl := lv_entry ([.ref zx0, .int zx1, .int zx2]) (n := 5) (Nat.le_of_ble_eq_true rfl)
  rw [lg_entry_eq]
  generalize (lg_sl ([.ref zx0, .int zx1, .int zx2]) ++ List.replicate (5 - (lg_sl ([.ref zx0, .int zx1, .int zx2])).length) Slot.unset).toArray = ls at hl ⊢
  have hl : lv_has ls 5 [(0, .ref zx0), (1, .int zx1), (2, .int zx2)] := hl
  unfold m4_putGoal at hf
  refine lv_aload_n hx hb dX4_putGoal_0 rfl (lv_at hl 0 rfl) ?_
  refine lv_iload_n hx hb dX4_putGoal_1 rfl (lv_at hl 1 rfl) ?_
  obtain ⟨zv1, ze2, hf⟩ := nn_some hf
  refine x_co (r := zv1) (I1 := I) (X1 := X) (x_runV (As := [.int zx1]) (rest := []) C0 (c4_channelAt l E G fl X I zx0 zx1 zt0 ze2) hw 4 zt0 (by decide) rfl wd55 wd400 wd401 wd402 wd356 ⟨rfl, rfl⟩ hy4_channelAt ⟨Nat.le_of_ble_eq_true rfl, Nat.le_of_ble_eq_true rfl⟩ rfl hl.1 (Nat.le_of_ble_eq_true rfl) ⟨Nat.zero_le _, Nat.zero_le _⟩ dX4_putGoal_2) hw (fun H locs hw tzv1 => ?_)
  refine x_astore_n (lv' := [(3, va_rf zv1), (0, .ref zx0), (1, .int zx1), (2, .int zx2)]) C0 dX4_putGoal_5 rfl hl (by decide) rfl (fun ls hl => ?_)
  refine x_aload_n C0 dX4_putGoal_6 rfl (lv_at hl 0 rfl) ?_
  refine x_ifnonnull (tgt := 12) C0 dX4_putGoal_7 (by decide) (fun zc3 => ?_) (fun zc3 => ?_)
  · have hf := ite_f hf zc3
    refine lv_iload_n hx hb dX4_putGoal_12 rfl (lv_at hl 3 rfl) ?_
    refine lv_iconst (v := (0 : Int32)) hx hb dX4_putGoal_13 (by decide) ?_
    refine lv_bipush (v := (100 : Int32)) hx hb dX4_putGoal_14 (by decide) ?_
    obtain ⟨zv4, ze5, hf⟩ := nn_some hf
    refine x_ci (r := zv4) (I1 := I) (X1 := X) (x_runSN (As := [.int zx2, .int (0 : Int32), .int (100 : Int32)]) (rest := []) (host := "RadioCues") C0 (c8_within l E G fl X I zx2 (0 : Int32) (100 : Int32) ze5) hw wd41 (List.mem_of_getElem? (i := 5) rfl) wd357 wd197 ⟨rfl, rfl⟩ hy8_within.2 ⟨Nat.le_of_ble_eq_true rfl, Nat.le_of_ble_eq_true rfl⟩ rfl hl.1 (Nat.le_of_ble_eq_true rfl) ⟨Nat.zero_le _, Nat.zero_le _⟩ dX4_putGoal_16) hw (fun H locs hw => ?_)
    refine lv_if_ne (tgt := 25) hx hb dX4_putGoal_19 (by decide) (fun zc6 => ?_) (fun zc6 => ?_)
    · have hf := ite_f hf zc6
      refine x_aload_n C0 dX4_putGoal_25 rfl (lv_at hl 0 rfl) ?_
      obtain ⟨zb7, ezb7, hfzb7⟩ := nn_some hf
      have tzb7 : okA E G 0 zb7 := tzv1 _ ezb7
      subst ezb7
      have hf := hfzb7
      refine xg_0_1 C0 hw tzb7 wd342 dX4_putGoal_26 ?_
      refine lv_topi (fun zv8 ezv8 => ?_)
      have hf := lt_at hf ezv8
      refine lv_istore (lv' := [(4, .int zv8), (3, .ref zb7), (0, .ref zx0), (1, .int zx1), (2, .int zx2)]) hx hb dX4_putGoal_29 hl (by decide) rfl (fun ls hl => ?_)
      refine lv_aload_n hx hb dX4_putGoal_31 rfl (lv_at hl 1 rfl) ?_
      refine lv_iload_n hx hb dX4_putGoal_32 rfl (lv_at hl 4 rfl) ?_
      obtain ⟨zI9, ezI9⟩ : ∃ y : Im, y = pF I 1 zb7 zx2 := ⟨_, rfl⟩
      have hf := lt_at hf ezI9
      refine xp_0_1 C0 hz hw tzb7 rfl rfl wd342 dX4_putGoal_33 ezI9 (fun H locs hw => ?_)
      refine lv_iload hx hb dX4_putGoal_36 (lv_at hl 0 rfl) ?_
      obtain rfl := Option.some.inj hf
      exact x_iret C0 hr hw dX4_putGoal_38
    · have hf := ite_t hf zc6
      refine lv_bipush (v := (-2 : Int32)) hx hb dX4_putGoal_22 (by decide) ?_
      obtain rfl := Option.some.inj hf
      exact x_iret C0 hr hw dX4_putGoal_24
  · have hf := ite_t hf zc3
    refine lv_iconst (v := (-1 : Int32)) hx hb dX4_putGoal_10 (by decide) ?_
    obtain rfl := Option.some.inj hf
    exact x_iret C0 hr hw dX4_putGoal_11
noncomputable def m6_letAllCome_40 (fl : Nat) (len : Nat → Nat) (X : Xm) (I : Im) : Option (Im) :=
  some (I)
set_option maxHeartbeats 4000000 in
set_option maxRecDepth 100000 in
theorem w6_letAllCome_40 {p : Program} {l : Launch} {e : Env} {s : State} {m : MethodId} {args : Array Value} {below : List Frame} {meth : Method} {c : Code} {E : EN} {G : GM} {X : Xm} (C0 : CX p s m args meth c E cX6_letAllCome RX6 2) (hr : meth.sig.returnType = none) (hz : s.heap.size + 0 ≤ eB E + G.1) {rr : Im} (fl : Nat) : ∀ (I : Im) (H : Heap) (locs : List Loc) (ls : Array Slot) , WD E G I X s.heap H locs → lv_has ls 2 [] → m6_letAllCome_40 fl G.2.2 X I = some rr → W p l e ({ frames := 0, cells := 0, slots := 0, locals := 0 } : Room) s m args below meth c H locs 0 0 (MQ below (QV E G rr X) args s 0 0 (eA E)) (F0 m 40 ls []) := by
  intro I H locs ls hw hl hf
  unfold m6_letAllCome_40 at hf
  have hx := C0.1; have hb := C0.2.1; have hml := C0.2.2.1; have hown := C0.2.2.2.1; have hts := C0.2.2.2.2.1
  obtain rfl := Option.some.inj hf
  exact x_vret C0 hr hw dX6_letAllCome_40
noncomputable def m6_letAllCome_7b (fl : Nat) (len : Nat → Nat) (X : Xm) (zr7 : Im → Nat → Int32 → Option (Im)) (I : Im) (zx0 : Nat) (zx1 : Int32) : Option (Im) :=
  if (gF I 97 zx0) ≤ zx1 then
    m6_letAllCome_40 fl len X I
  else
    nn (gR X 96 zx0) fun zv2 =>
    if (nI (len zv2)) ≤ zx1 then
      m6_letAllCome_40 fl len X I
    else
      ck (inb zx1 (len zv2) = true) <|
      nn (gQ X zv2 (zx1).toNatClampNeg) fun zv5 =>
      lt (pF I 20 zv5 (0 : Int32)) fun zI6 =>
      lt (zx1 + 1) fun zv7 =>
      zr7 zI6 zx0 zv7
noncomputable def m6_letAllCome_7 (fl : Nat) (len : Nat → Nat) (X : Xm) (n : Nat) : Im → Nat → Int32 → Option (Im) :=
  Nat.rec (fun _ _ _ => none) (fun _ r => m6_letAllCome_7b fl len X r) n
set_option maxHeartbeats 4000000 in
set_option maxRecDepth 100000 in
theorem w6_letAllCome_7b {p : Program} {l : Launch} {e : Env} {s : State} {m : MethodId} {args : Array Value} {below : List Frame} {meth : Method} {c : Code} {E : EN} {G : GM} {X : Xm} (C0 : CX p s m args meth c E cX6_letAllCome RX6 2) (hr : meth.sig.returnType = none) (hz : s.heap.size + 0 ≤ eB E + G.1) {rr : Im} (fl : Nat) (zr7 : Im → Nat → Int32 → Option (Im)) (zhr7 : ∀ (I : Im) (H : Heap) (locs : List Loc) (ls : Array Slot) (zx0 : Nat) (zx1 : Int32) (zt0 : okA E G 6 zx0), WD E G I X s.heap H locs → lv_has ls 2 [(0, .ref zx0), (1, .int zx1)] → zr7 I zx0 zx1 = some rr → W p l e ({ frames := 0, cells := 0, slots := 0, locals := 0 } : Room) s m args below meth c H locs 0 0 (MQ below (QV E G rr X) args s 0 0 (eA E)) (F0 m 7 ls [])) : ∀ (I : Im) (H : Heap) (locs : List Loc) (ls : Array Slot) (zx0 : Nat) (zx1 : Int32) (zt0 : okA E G 6 zx0), WD E G I X s.heap H locs → lv_has ls 2 [(0, .ref zx0), (1, .int zx1)] → m6_letAllCome_7b fl G.2.2 X zr7 I zx0 zx1 = some rr → W p l e ({ frames := 0, cells := 0, slots := 0, locals := 0 } : Room) s m args below meth c H locs 0 0 (MQ below (QV E G rr X) args s 0 0 (eA E)) (F0 m 7 ls []) := by
  intro I H locs ls zx0 zx1 zt0 hw hl hf
  unfold m6_letAllCome_7b at hf
  have hx := C0.1; have hb := C0.2.1; have hml := C0.2.2.1; have hown := C0.2.2.2.1; have hts := C0.2.2.2.2.1
  refine lv_iload_n hx hb dX6_letAllCome_7 rfl (lv_at hl 1 rfl) ?_
  refine lv_aload_n hx hb dX6_letAllCome_8 rfl (lv_at hl 0 rfl) ?_
  refine xg_6_1 C0 hw zt0 wd322 dX6_letAllCome_9 ?_
  refine lv_icmp_ge (tgt := 40) hx hb dX6_letAllCome_12 (by decide) (fun zc1 => ?_) (fun zc1 => ?_)
  · have hf := ite_t hf zc1
    exact w6_letAllCome_40 C0 hr hz fl I _ _ _ hw (lv_sub hl [] rfl) hf
  · have hf := ite_f hf zc1
    refine lv_iload_n hx hb dX6_letAllCome_15 rfl (lv_at hl 1 rfl) ?_
    refine lv_aload_n hx hb dX6_letAllCome_16 rfl (lv_at hl 0 rfl) ?_
    obtain ⟨zv2, ezv2, hf⟩ := nn_some hf
    have tzv2 : okA E G 14 zv2 := wt_r hw ezv2
    refine xg_6_0 C0 hw zt0 wd284 ezv2 dX6_letAllCome_17 ?_
    refine x_alen C0 hw 14 tzv2 (by decide) rfl dX6_letAllCome_20 ?_
    refine lv_icmp_ge (tgt := 40) hx hb dX6_letAllCome_21 (by decide) (fun zc3 => ?_) (fun zc3 => ?_)
    · have hf := ite_t hf zc3
      exact w6_letAllCome_40 C0 hr hz fl I _ _ _ hw (lv_sub hl [] rfl) hf
    · have hf := ite_f hf zc3
      refine lv_aload_n hx hb dX6_letAllCome_24 rfl (lv_at hl 0 rfl) ?_
      refine xg_6_0 C0 hw zt0 wd284 ezv2 dX6_letAllCome_25 ?_
      refine lv_iload_n hx hb dX6_letAllCome_28 rfl (lv_at hl 1 rfl) ?_
      obtain ⟨zhb4, hf⟩ := ck_some hf
      obtain ⟨zv5, ezv5, hf⟩ := nn_some hf
      have tzv5 : okA E G 1 zv5 := wt_q hw tzv2 ezv5
      refine x_qald C0 hw 14 tzv2 (by decide) rfl zhb4 ezv5 dX6_letAllCome_29 ?_
      refine lv_iconst (v := (0 : Int32)) hx hb dX6_letAllCome_30 (by decide) ?_
      obtain ⟨zI6, ezI6⟩ : ∃ y : Im, y = pF I 20 zv5 (0 : Int32) := ⟨_, rfl⟩
      have hf := lt_at hf ezI6
      refine xp_1_4 C0 hz hw tzv5 rfl rfl wd382 dX6_letAllCome_31 ezI6 (fun H locs hw => ?_)
      obtain ⟨zv7, ezv7⟩ : ∃ y : Int32, y = zx1 + 1 := ⟨_, rfl⟩
      have hf := lt_at hf ezv7
      refine lv_iinc (v := zv7) (lv' := [(1, .int zv7), (0, .ref zx0)]) hx hb dX6_letAllCome_34 hl (k := 1) rfl (by rw [ezv7]; rfl) (by decide) rfl (fun ls hl => ?_)
      refine lv_goto (tgt := 7) hx hb dX6_letAllCome_37 (by decide) ?_
      exact zhr7 zI6 _ _ _ zx0 zv7 zt0 hw (lv_sub hl [1, 0] rfl) hf
theorem w6_letAllCome_7 {p : Program} {l : Launch} {e : Env} {s : State} {m : MethodId} {args : Array Value} {below : List Frame} {meth : Method} {c : Code} {E : EN} {G : GM} {X : Xm} (C0 : CX p s m args meth c E cX6_letAllCome RX6 2) (hr : meth.sig.returnType = none) (hz : s.heap.size + 0 ≤ eB E + G.1) {rr : Im} (fl : Nat) : ∀ (n : Nat) (I : Im) (H : Heap) (locs : List Loc) (ls : Array Slot) (zx0 : Nat) (zx1 : Int32) (zt0 : okA E G 6 zx0), WD E G I X s.heap H locs → lv_has ls 2 [(0, .ref zx0), (1, .int zx1)] → m6_letAllCome_7 fl G.2.2 X n I zx0 zx1 = some rr → W p l e ({ frames := 0, cells := 0, slots := 0, locals := 0 } : Room) s m args below meth c H locs 0 0 (MQ below (QV E G rr X) args s 0 0 (eA E)) (F0 m 7 ls []) := by
  intro n
  induction n with
  | zero => intro I H locs ls zx0 zx1 zt0 hw hl hf; exact absurd (show (none : Option (Im)) = some rr from hf) (by simp)
  | succ n ih => intro I H locs ls zx0 zx1 zt0 hw hl hf; exact w6_letAllCome_7b C0 hr hz fl _ ih I H locs ls zx0 zx1 zt0 hw hl hf
noncomputable def m6_letAllCome (fl : Nat) (len : Nat → Nat) (X : Xm) (I : Im) (zx0 : Nat) : Option (Im) :=
  lt (pF I 98 zx0 (0 : Int32)) fun zI1 =>
  m6_letAllCome_7 fl len X fl zI1 zx0 (0 : Int32)
theorem hy6_letAllCome : yX6_letAllCome.cls = RX6 ∧ yX6_letAllCome.cls ≠ "java/lang/invoke/MethodHandle" ∧ yX6_letAllCome.cls ≠ "java/lang/invoke/VarHandle" ∧ (parseMethodDescriptor yX6_letAllCome.desc).map (fun d => d.parameters.length) = some 0 := ⟨rfl, by decide +kernel, by decide +kernel, by decide +kernel⟩
set_option maxHeartbeats 4000000 in
set_option maxRecDepth 100000 in
theorem c6_letAllCome (l : Launch) (E : EN) (G : GM) (fl : Nat) (X : Xm) (I : Im) (zx0 : Nat) (zt0 : okA E G 6 zx0) {rr : Im} (hf : m6_letAllCome fl G.2.2 X I zx0 = some rr) : MT l yX6_letAllCome cX6_letAllCome 2 none ({ frames := 0, cells := 0, slots := 0, locals := 0 } : Room) E G I X [.ref zx0] (QV E G rr X) 0 0 := by
  refine Met.ofW (cc := cX6_letAllCome) (maxL := 2) (ret := none) (by decide +kernel) rfl ?_
  intro p e s m args below meth c s₁ B hml hv
  obtain ⟨rfl, hw0, hSE⟩ := hv
  have C0 : CX p s m ([.ref zx0] : List Value).toArray meth c E cX6_letAllCome RX6 2 := ⟨B.exec, B.bytes, hml, findClass_of_methodNamed B.named, fun w hw => atoms_spec (ws := WS yX6_letAllCome cX6_letAllCome 2 none) B.pre w (List.mem_cons_of_mem _ hw), B.notSynchronized, hSE⟩
  have hz : s.heap.size + 0 ≤ eB E + G.1 := Nat.le_of_eq hw0.2.1
  have hw : WD E G I X s.heap s.heap [] := ⟨hw0, va_S.rf⟩
  have hr := B.returns
  have hx := C0.1; have hb := C0.2.1; have hml := C0.2.2.1; have hown := C0.2.2.2.1; have hts := C0.2.2.2.2.1
  have hl := lv_entry ([.ref zx0]) (n := 2) (Nat.le_of_ble_eq_true rfl)
  rw [lg_entry_eq]
  generalize (lg_sl ([.ref zx0]) ++ List.replicate (2 - (lg_sl ([.ref zx0])).length) Slot.unset).toArray = ls at hl ⊢
  have hl : lv_has ls 2 [(0, .ref zx0)] := hl
  unfold m6_letAllCome at hf
  refine lv_aload_n hx hb dX6_letAllCome_0 rfl (lv_at hl 0 rfl) ?_
  refine lv_iconst (v := (0 : Int32)) hx hb dX6_letAllCome_1 (by decide) ?_
  obtain ⟨zI1, ezI1⟩ : ∃ y : Im, y = pF I 98 zx0 (0 : Int32) := ⟨_, rfl⟩
  have hf := lt_at hf ezI1
  refine xp_6_2 C0 hz hw zt0 rfl rfl wd323 dX6_letAllCome_2 ezI1 (fun H locs hw => ?_)
  refine lv_iconst (v := (0 : Int32)) hx hb dX6_letAllCome_5 (by decide) ?_
  refine lv_istore_n (lv' := [(1, .int (0 : Int32)), (0, .ref zx0)]) hx hb dX6_letAllCome_6 rfl hl (by decide) rfl (fun ls hl => ?_)
  exact w6_letAllCome_7 C0 hr hz fl fl zI1 _ _ _ zx0 (0 : Int32) zt0 hw (lv_sub hl [1, 0] rfl) hf
noncomputable def m5_rewind_51 (fl : Nat) (len : Nat → Nat) (X : Xm) (I : Im) : Option (Im) :=
  some (I)
set_option maxHeartbeats 4000000 in
set_option maxRecDepth 100000 in
theorem w5_rewind_51 {p : Program} {l : Launch} {e : Env} {s : State} {m : MethodId} {args : Array Value} {below : List Frame} {meth : Method} {c : Code} {E : EN} {G : GM} {X : Xm} (C0 : CX p s m args meth c E cX5_rewind RX5 2) (hr : meth.sig.returnType = none) (hz : s.heap.size + 0 ≤ eB E + G.1) {rr : Im} (fl : Nat) : ∀ (I : Im) (H : Heap) (locs : List Loc) (ls : Array Slot) , WD E G I X s.heap H locs → lv_has ls 2 [] → m5_rewind_51 fl G.2.2 X I = some rr → W p l e ({ frames := 0, cells := 0, slots := 0, locals := 0 } : Room) s m args below meth c H locs 0 0 (MQ below (QV E G rr X) args s 0 0 (eA E)) (F0 m 51 ls []) := by
  intro I H locs ls hw hl hf
  unfold m5_rewind_51 at hf
  have hx := C0.1; have hb := C0.2.1; have hml := C0.2.2.1; have hown := C0.2.2.2.1; have hts := C0.2.2.2.2.1
  obtain rfl := Option.some.inj hf
  exact x_vret C0 hr hw dX5_rewind_51
noncomputable def m5_rewind_18b (fl : Nat) (len : Nat → Nat) (X : Xm) (zr18 : Im → Nat → Int32 → Option (Im)) (I : Im) (zx0 : Nat) (zx1 : Int32) : Option (Im) :=
  if (gF I 81 zx0) ≤ zx1 then
    m5_rewind_51 fl len X I
  else
    nn (gR X 80 zx0) fun zv2 =>
    if (nI (len zv2)) ≤ zx1 then
      m5_rewind_51 fl len X I
    else
      ck (inb zx1 (len zv2) = true) <|
      nn (gQ X zv2 (zx1).toNatClampNeg) fun zv5 =>
      lt (pF I 115 zv5 (0 : Int32)) fun zI6 =>
      lt (zx1 + 1) fun zv7 =>
      zr18 zI6 zx0 zv7
noncomputable def m5_rewind_18 (fl : Nat) (len : Nat → Nat) (X : Xm) (n : Nat) : Im → Nat → Int32 → Option (Im) :=
  Nat.rec (fun _ _ _ => none) (fun _ r => m5_rewind_18b fl len X r) n
set_option maxHeartbeats 4000000 in
set_option maxRecDepth 100000 in
theorem w5_rewind_18b {p : Program} {l : Launch} {e : Env} {s : State} {m : MethodId} {args : Array Value} {below : List Frame} {meth : Method} {c : Code} {E : EN} {G : GM} {X : Xm} (C0 : CX p s m args meth c E cX5_rewind RX5 2) (hr : meth.sig.returnType = none) (hz : s.heap.size + 0 ≤ eB E + G.1) {rr : Im} (fl : Nat) (zr18 : Im → Nat → Int32 → Option (Im)) (zhr18 : ∀ (I : Im) (H : Heap) (locs : List Loc) (ls : Array Slot) (zx0 : Nat) (zx1 : Int32) (zt0 : okA E G 5 zx0), WD E G I X s.heap H locs → lv_has ls 2 [(0, .ref zx0), (1, .int zx1)] → zr18 I zx0 zx1 = some rr → W p l e ({ frames := 0, cells := 0, slots := 0, locals := 0 } : Room) s m args below meth c H locs 0 0 (MQ below (QV E G rr X) args s 0 0 (eA E)) (F0 m 18 ls [])) : ∀ (I : Im) (H : Heap) (locs : List Loc) (ls : Array Slot) (zx0 : Nat) (zx1 : Int32) (zt0 : okA E G 5 zx0), WD E G I X s.heap H locs → lv_has ls 2 [(0, .ref zx0), (1, .int zx1)] → m5_rewind_18b fl G.2.2 X zr18 I zx0 zx1 = some rr → W p l e ({ frames := 0, cells := 0, slots := 0, locals := 0 } : Room) s m args below meth c H locs 0 0 (MQ below (QV E G rr X) args s 0 0 (eA E)) (F0 m 18 ls []) := by
  intro I H locs ls zx0 zx1 zt0 hw hl hf
  unfold m5_rewind_18b at hf
  have hx := C0.1; have hb := C0.2.1; have hml := C0.2.2.1; have hown := C0.2.2.2.1; have hts := C0.2.2.2.2.1
  refine lv_iload_n hx hb dX5_rewind_18 rfl (lv_at hl 1 rfl) ?_
  refine lv_aload_n hx hb dX5_rewind_19 rfl (lv_at hl 0 rfl) ?_
  refine xg_5_1 C0 hw zt0 wd331 dX5_rewind_20 ?_
  refine lv_icmp_ge (tgt := 51) hx hb dX5_rewind_23 (by decide) (fun zc1 => ?_) (fun zc1 => ?_)
  · have hf := ite_t hf zc1
    exact w5_rewind_51 C0 hr hz fl I _ _ _ hw (lv_sub hl [] rfl) hf
  · have hf := ite_f hf zc1
    refine lv_iload_n hx hb dX5_rewind_26 rfl (lv_at hl 1 rfl) ?_
    refine lv_aload_n hx hb dX5_rewind_27 rfl (lv_at hl 0 rfl) ?_
    obtain ⟨zv2, ezv2, hf⟩ := nn_some hf
    have tzv2 : okA E G 17 zv2 := wt_r hw ezv2
    refine xg_5_0 C0 hw zt0 wd291 ezv2 dX5_rewind_28 ?_
    refine x_alen C0 hw 17 tzv2 (by decide) rfl dX5_rewind_31 ?_
    refine lv_icmp_ge (tgt := 51) hx hb dX5_rewind_32 (by decide) (fun zc3 => ?_) (fun zc3 => ?_)
    · have hf := ite_t hf zc3
      exact w5_rewind_51 C0 hr hz fl I _ _ _ hw (lv_sub hl [] rfl) hf
    · have hf := ite_f hf zc3
      refine lv_aload_n hx hb dX5_rewind_35 rfl (lv_at hl 0 rfl) ?_
      refine xg_5_0 C0 hw zt0 wd291 ezv2 dX5_rewind_36 ?_
      refine lv_iload_n hx hb dX5_rewind_39 rfl (lv_at hl 1 rfl) ?_
      obtain ⟨zhb4, hf⟩ := ck_some hf
      obtain ⟨zv5, ezv5, hf⟩ := nn_some hf
      have tzv5 : okA E G 7 zv5 := wt_q hw tzv2 ezv5
      refine x_qald C0 hw 17 tzv2 (by decide) rfl zhb4 ezv5 dX5_rewind_40 ?_
      refine lv_iconst (v := (0 : Int32)) hx hb dX5_rewind_41 (by decide) ?_
      obtain ⟨zI6, ezI6⟩ : ∃ y : Im, y = pF I 115 zv5 (0 : Int32) := ⟨_, rfl⟩
      have hf := lt_at hf ezI6
      refine xp_7_3 C0 hz hw tzv5 rfl rfl wd364 dX5_rewind_42 ezI6 (fun H locs hw => ?_)
      obtain ⟨zv7, ezv7⟩ : ∃ y : Int32, y = zx1 + 1 := ⟨_, rfl⟩
      have hf := lt_at hf ezv7
      refine lv_iinc (v := zv7) (lv' := [(1, .int zv7), (0, .ref zx0)]) hx hb dX5_rewind_45 hl (k := 1) rfl (by rw [ezv7]; rfl) (by decide) rfl (fun ls hl => ?_)
      refine lv_goto (tgt := 18) hx hb dX5_rewind_48 (by decide) ?_
      exact zhr18 zI6 _ _ _ zx0 zv7 zt0 hw (lv_sub hl [1, 0] rfl) hf
theorem w5_rewind_18 {p : Program} {l : Launch} {e : Env} {s : State} {m : MethodId} {args : Array Value} {below : List Frame} {meth : Method} {c : Code} {E : EN} {G : GM} {X : Xm} (C0 : CX p s m args meth c E cX5_rewind RX5 2) (hr : meth.sig.returnType = none) (hz : s.heap.size + 0 ≤ eB E + G.1) {rr : Im} (fl : Nat) : ∀ (n : Nat) (I : Im) (H : Heap) (locs : List Loc) (ls : Array Slot) (zx0 : Nat) (zx1 : Int32) (zt0 : okA E G 5 zx0), WD E G I X s.heap H locs → lv_has ls 2 [(0, .ref zx0), (1, .int zx1)] → m5_rewind_18 fl G.2.2 X n I zx0 zx1 = some rr → W p l e ({ frames := 0, cells := 0, slots := 0, locals := 0 } : Room) s m args below meth c H locs 0 0 (MQ below (QV E G rr X) args s 0 0 (eA E)) (F0 m 18 ls []) := by
  intro n
  induction n with
  | zero => intro I H locs ls zx0 zx1 zt0 hw hl hf; exact absurd (show (none : Option (Im)) = some rr from hf) (by simp)
  | succ n ih => intro I H locs ls zx0 zx1 zt0 hw hl hf; exact w5_rewind_18b C0 hr hz fl _ ih I H locs ls zx0 zx1 zt0 hw hl hf
noncomputable def m5_rewind (fl : Nat) (len : Nat → Nat) (X : Xm) (I : Im) (zx0 : Nat) : Option (Im) :=
  lt (pF I 82 zx0 (0 : Int32)) fun zI1 =>
  lt (pF zI1 83 zx0 (-6 : Int32)) fun zI2 =>
  lt (pF zI2 84 zx0 (0 : Int32)) fun zI3 =>
  m5_rewind_18 fl len X fl zI3 zx0 (0 : Int32)
theorem hy5_rewind : yX5_rewind.cls = RX5 ∧ yX5_rewind.cls ≠ "java/lang/invoke/MethodHandle" ∧ yX5_rewind.cls ≠ "java/lang/invoke/VarHandle" ∧ (parseMethodDescriptor yX5_rewind.desc).map (fun d => d.parameters.length) = some 0 := ⟨rfl, by decide +kernel, by decide +kernel, by decide +kernel⟩
set_option maxHeartbeats 4000000 in
set_option maxRecDepth 100000 in
theorem c5_rewind (l : Launch) (E : EN) (G : GM) (fl : Nat) (X : Xm) (I : Im) (zx0 : Nat) (zt0 : okA E G 5 zx0) {rr : Im} (hf : m5_rewind fl G.2.2 X I zx0 = some rr) : MT l yX5_rewind cX5_rewind 2 none ({ frames := 0, cells := 0, slots := 0, locals := 0 } : Room) E G I X [.ref zx0] (QV E G rr X) 0 0 := by
  refine Met.ofW (cc := cX5_rewind) (maxL := 2) (ret := none) (by decide +kernel) rfl ?_
  intro p e s m args below meth c s₁ B hml hv
  obtain ⟨rfl, hw0, hSE⟩ := hv
  have C0 : CX p s m ([.ref zx0] : List Value).toArray meth c E cX5_rewind RX5 2 := ⟨B.exec, B.bytes, hml, findClass_of_methodNamed B.named, fun w hw => atoms_spec (ws := WS yX5_rewind cX5_rewind 2 none) B.pre w (List.mem_cons_of_mem _ hw), B.notSynchronized, hSE⟩
  have hz : s.heap.size + 0 ≤ eB E + G.1 := Nat.le_of_eq hw0.2.1
  have hw : WD E G I X s.heap s.heap [] := ⟨hw0, va_S.rf⟩
  have hr := B.returns
  have hx := C0.1; have hb := C0.2.1; have hml := C0.2.2.1; have hown := C0.2.2.2.1; have hts := C0.2.2.2.2.1
  have hl := lv_entry ([.ref zx0]) (n := 2) (Nat.le_of_ble_eq_true rfl)
  rw [lg_entry_eq]
  generalize (lg_sl ([.ref zx0]) ++ List.replicate (2 - (lg_sl ([.ref zx0])).length) Slot.unset).toArray = ls at hl ⊢
  have hl : lv_has ls 2 [(0, .ref zx0)] := hl
  unfold m5_rewind at hf
  refine lv_aload_n hx hb dX5_rewind_0 rfl (lv_at hl 0 rfl) ?_
  refine lv_iconst (v := (0 : Int32)) hx hb dX5_rewind_1 (by decide) ?_
  obtain ⟨zI1, ezI1⟩ : ∃ y : Im, y = pF I 82 zx0 (0 : Int32) := ⟨_, rfl⟩
  have hf := lt_at hf ezI1
  refine xp_5_2 C0 hz hw zt0 rfl rfl wd332 dX5_rewind_2 ezI1 (fun H locs hw => ?_)
  refine lv_aload_n hx hb dX5_rewind_5 rfl (lv_at hl 0 rfl) ?_
  refine lv_bipush (v := (-6 : Int32)) hx hb dX5_rewind_6 (by decide) ?_
  obtain ⟨zI2, ezI2⟩ : ∃ y : Im, y = pF zI1 83 zx0 (-6 : Int32) := ⟨_, rfl⟩
  have hf := lt_at hf ezI2
  refine xp_5_3 C0 hz hw zt0 rfl rfl wd292 dX5_rewind_8 ezI2 (fun H locs hw => ?_)
  refine lv_aload_n hx hb dX5_rewind_11 rfl (lv_at hl 0 rfl) ?_
  refine lv_iconst (v := (0 : Int32)) hx hb dX5_rewind_12 (by decide) ?_
  obtain ⟨zI3, ezI3⟩ : ∃ y : Im, y = pF zI2 84 zx0 (0 : Int32) := ⟨_, rfl⟩
  have hf := lt_at hf ezI3
  refine xp_5_4 C0 hz hw zt0 rfl rfl wd333 dX5_rewind_13 ezI3 (fun H locs hw => ?_)
  refine lv_iconst (v := (0 : Int32)) hx hb dX5_rewind_16 (by decide) ?_
  refine lv_istore_n (lv' := [(1, .int (0 : Int32)), (0, .ref zx0)]) hx hb dX5_rewind_17 rfl hl (by decide) rfl (fun ls hl => ?_)
  exact w5_rewind_18 C0 hr hz fl fl zI3 _ _ _ zx0 (0 : Int32) zt0 hw (lv_sub hl [1, 0] rfl) hf
noncomputable def m4_beginAnew_45b (fl : Nat) (len : Nat → Nat) (X : Xm) (zr45 : Im → Nat → Int32 → Int32 → Nat → Nat → Option (Int32 × Im)) (I : Im) (zx0 : Nat) (zx1 : Int32) (zx2 : Int32) (p_65 : Nat) (p_66 : Nat) : Option (Int32 × Im) :=
  nn (gR X 67 zx0) fun zv1 =>
  if (nI (len zv1)) ≤ zx2 then
    nn (gR X 68 zx0) fun zv3 =>
    lt (pF I 35 zv3 (0 : Int32)) fun zI4 =>
    lt (pF zI4 70 zx0 (0 : Int32)) fun zI5 =>
    some (zx1, zI5)
  else
    ck (inb zx2 (len zv1) = true) <|
    nn (gQ X zv1 (zx2).toNatClampNeg) fun zv7 =>
    lt (pF I 0 zv7 (50 : Int32)) fun zI8 =>
    nn (gQ X zv1 (zx2).toNatClampNeg) fun zv9 =>
    lt (pF zI8 1 zv9 (50 : Int32)) fun zI10 =>
    lt (zx2 + 1) fun zv11 =>
    zr45 zI10 zx0 zx1 zv11 p_65 p_66
noncomputable def m4_beginAnew_45 (fl : Nat) (len : Nat → Nat) (X : Xm) (n : Nat) : Im → Nat → Int32 → Int32 → Nat → Nat → Option (Int32 × Im) :=
  Nat.rec (fun _ _ _ _ _ _ => none) (fun _ r => m4_beginAnew_45b fl len X r) n
set_option maxHeartbeats 4000000 in
set_option maxRecDepth 100000 in
theorem w4_beginAnew_45b {p : Program} {l : Launch} {e : Env} {s : State} {m : MethodId} {args : Array Value} {below : List Frame} {meth : Method} {c : Code} {E : EN} {G : GM} {X : Xm} (C0 : CX p s m args meth c E cX4_beginAnew RX4 3) (hr : meth.sig.returnType = (some .int)) (hz : s.heap.size + 0 ≤ eB E + G.1) {rr : Int32 × Im} (fl : Nat) (zr45 : Im → Nat → Int32 → Int32 → Nat → Nat → Option (Int32 × Im)) (zhr45 : ∀ (I : Im) (H : Heap) (locs : List Loc) (ls : Array Slot) (zx0 : Nat) (zx1 : Int32) (zx2 : Int32) (p_65 : Nat) (p_66 : Nat) (zt0 : okA E G 4 zx0) (ep_65 : gR X 65 zx0 = some p_65) (tp_65 : okA E G 6 p_65) (ep_66 : gR X 66 zx0 = some p_66) (tp_66 : okA E G 16 p_66), WD E G I X s.heap H locs → lv_has ls 3 [(0, .ref zx0), (1, .int zx1), (2, .int zx2)] → zr45 I zx0 zx1 zx2 p_65 p_66 = some rr → W p l e ({ frames := 1, cells := 0, slots := 0, locals := 21 } : Room) s m args below meth c H locs 0 0 (MQ below (QI E G rr.1 rr.2 X) args s 0 0 (eA E)) (F0 m 45 ls [])) : ∀ (I : Im) (H : Heap) (locs : List Loc) (ls : Array Slot) (zx0 : Nat) (zx1 : Int32) (zx2 : Int32) (p_65 : Nat) (p_66 : Nat) (zt0 : okA E G 4 zx0) (ep_65 : gR X 65 zx0 = some p_65) (tp_65 : okA E G 6 p_65) (ep_66 : gR X 66 zx0 = some p_66) (tp_66 : okA E G 16 p_66), WD E G I X s.heap H locs → lv_has ls 3 [(0, .ref zx0), (1, .int zx1), (2, .int zx2)] → m4_beginAnew_45b fl G.2.2 X zr45 I zx0 zx1 zx2 p_65 p_66 = some rr → W p l e ({ frames := 1, cells := 0, slots := 0, locals := 21 } : Room) s m args below meth c H locs 0 0 (MQ below (QI E G rr.1 rr.2 X) args s 0 0 (eA E)) (F0 m 45 ls []) := by
  intro I H locs ls zx0 zx1 zx2 p_65 p_66 zt0 ep_65 tp_65 ep_66 tp_66 hw hl hf
  unfold m4_beginAnew_45b at hf
  have hx := C0.1; have hb := C0.2.1; have hml := C0.2.2.1; have hown := C0.2.2.2.1; have hts := C0.2.2.2.2.1
  refine lv_iload_n hx hb dX4_beginAnew_45 rfl (lv_at hl 2 rfl) ?_
  refine lv_aload_n hx hb dX4_beginAnew_46 rfl (lv_at hl 0 rfl) ?_
  obtain ⟨zv1, ezv1, hf⟩ := nn_some hf
  have tzv1 : okA E G 13 zv1 := wt_r hw ezv1
  refine xg_4_3 C0 hw zt0 wd305 ezv1 dX4_beginAnew_47 ?_
  refine x_alen C0 hw 13 tzv1 (by decide) rfl dX4_beginAnew_50 ?_
  refine lv_icmp_ge (tgt := 82) hx hb dX4_beginAnew_51 (by decide) (fun zc2 => ?_) (fun zc2 => ?_)
  · have hf := ite_t hf zc2
    refine lv_aload_n hx hb dX4_beginAnew_82 rfl (lv_at hl 0 rfl) ?_
    obtain ⟨zv3, ezv3, hf⟩ := nn_some hf
    have tzv3 : okA E G 2 zv3 := wt_r hw ezv3
    refine xg_4_4 C0 hw zt0 wd309 ezv3 dX4_beginAnew_83 ?_
    refine lv_iconst (v := (0 : Int32)) hx hb dX4_beginAnew_86 (by decide) ?_
    obtain ⟨zI4, ezI4⟩ : ∃ y : Im, y = pF I 35 zv3 (0 : Int32) := ⟨_, rfl⟩
    have hf := lt_at hf ezI4
    refine xp_2_3 C0 hz hw tzv3 rfl rfl wd403 dX4_beginAnew_87 ezI4 (fun H locs hw => ?_)
    refine lv_aload_n hx hb dX4_beginAnew_90 rfl (lv_at hl 0 rfl) ?_
    refine lv_iconst (v := (0 : Int32)) hx hb dX4_beginAnew_91 (by decide) ?_
    obtain ⟨zI5, ezI5⟩ : ∃ y : Im, y = pF zI4 70 zx0 (0 : Int32) := ⟨_, rfl⟩
    have hf := lt_at hf ezI5
    refine xp_4_6 C0 hz hw zt0 rfl rfl wd343 dX4_beginAnew_92 ezI5 (fun H locs hw => ?_)
    refine lv_iload_n hx hb dX4_beginAnew_95 rfl (lv_at hl 1 rfl) ?_
    obtain rfl := Option.some.inj hf
    exact x_iret C0 hr hw dX4_beginAnew_96
  · have hf := ite_f hf zc2
    refine lv_aload_n hx hb dX4_beginAnew_54 rfl (lv_at hl 0 rfl) ?_
    refine xg_4_3 C0 hw zt0 wd305 ezv1 dX4_beginAnew_55 ?_
    refine lv_iload_n hx hb dX4_beginAnew_58 rfl (lv_at hl 2 rfl) ?_
    obtain ⟨zhb6, hf⟩ := ck_some hf
    obtain ⟨zv7, ezv7, hf⟩ := nn_some hf
    have tzv7 : okA E G 0 zv7 := wt_q hw tzv1 ezv7
    refine x_qald C0 hw 13 tzv1 (by decide) rfl zhb6 ezv7 dX4_beginAnew_59 ?_
    refine lv_bipush (v := (50 : Int32)) hx hb dX4_beginAnew_60 (by decide) ?_
    obtain ⟨zI8, ezI8⟩ : ∃ y : Im, y = pF I 0 zv7 (50 : Int32) := ⟨_, rfl⟩
    have hf := lt_at hf ezI8
    refine xp_0_0 C0 hz hw tzv7 rfl rfl wd341 dX4_beginAnew_62 ezI8 (fun H locs hw => ?_)
    refine lv_aload_n hx hb dX4_beginAnew_65 rfl (lv_at hl 0 rfl) ?_
    refine xg_4_3 C0 hw zt0 wd305 ezv1 dX4_beginAnew_66 ?_
    refine lv_iload_n hx hb dX4_beginAnew_69 rfl (lv_at hl 2 rfl) ?_
    obtain ⟨zv9, ezv9, hf⟩ := nn_some hf
    have tzv9 : okA E G 0 zv9 := wt_q hw tzv1 ezv9
    refine x_qald C0 hw 13 tzv1 (by decide) rfl zhb6 ezv9 dX4_beginAnew_70 ?_
    refine lv_bipush (v := (50 : Int32)) hx hb dX4_beginAnew_71 (by decide) ?_
    obtain ⟨zI10, ezI10⟩ : ∃ y : Im, y = pF zI8 1 zv9 (50 : Int32) := ⟨_, rfl⟩
    have hf := lt_at hf ezI10
    refine xp_0_1 C0 hz hw tzv9 rfl rfl wd342 dX4_beginAnew_73 ezI10 (fun H locs hw => ?_)
    obtain ⟨zv11, ezv11⟩ : ∃ y : Int32, y = zx2 + 1 := ⟨_, rfl⟩
    have hf := lt_at hf ezv11
    refine lv_iinc (v := zv11) (lv' := [(2, .int zv11), (0, .ref zx0), (1, .int zx1)]) hx hb dX4_beginAnew_76 hl (k := 2) rfl (by rw [ezv11]; rfl) (by decide) rfl (fun ls hl => ?_)
    refine lv_goto (tgt := 45) hx hb dX4_beginAnew_79 (by decide) ?_
    exact zhr45 zI10 _ _ _ zx0 zx1 zv11 p_65 p_66 zt0 ep_65 tp_65 ep_66 tp_66 hw (lv_sub hl [1, 2, 0] rfl) hf
theorem w4_beginAnew_45 {p : Program} {l : Launch} {e : Env} {s : State} {m : MethodId} {args : Array Value} {below : List Frame} {meth : Method} {c : Code} {E : EN} {G : GM} {X : Xm} (C0 : CX p s m args meth c E cX4_beginAnew RX4 3) (hr : meth.sig.returnType = (some .int)) (hz : s.heap.size + 0 ≤ eB E + G.1) {rr : Int32 × Im} (fl : Nat) : ∀ (n : Nat) (I : Im) (H : Heap) (locs : List Loc) (ls : Array Slot) (zx0 : Nat) (zx1 : Int32) (zx2 : Int32) (p_65 : Nat) (p_66 : Nat) (zt0 : okA E G 4 zx0) (ep_65 : gR X 65 zx0 = some p_65) (tp_65 : okA E G 6 p_65) (ep_66 : gR X 66 zx0 = some p_66) (tp_66 : okA E G 16 p_66), WD E G I X s.heap H locs → lv_has ls 3 [(0, .ref zx0), (1, .int zx1), (2, .int zx2)] → m4_beginAnew_45 fl G.2.2 X n I zx0 zx1 zx2 p_65 p_66 = some rr → W p l e ({ frames := 1, cells := 0, slots := 0, locals := 21 } : Room) s m args below meth c H locs 0 0 (MQ below (QI E G rr.1 rr.2 X) args s 0 0 (eA E)) (F0 m 45 ls []) := by
  intro n
  induction n with
  | zero => intro I H locs ls zx0 zx1 zx2 p_65 p_66 zt0 ep_65 tp_65 ep_66 tp_66 hw hl hf; exact absurd (show (none : Option (Int32 × Im)) = some rr from hf) (by simp)
  | succ n ih => intro I H locs ls zx0 zx1 zx2 p_65 p_66 zt0 ep_65 tp_65 ep_66 tp_66 hw hl hf; exact w4_beginAnew_45b C0 hr hz fl _ ih I H locs ls zx0 zx1 zx2 p_65 p_66 zt0 ep_65 tp_65 ep_66 tp_66 hw hl hf
noncomputable def m4_beginAnew_19b (fl : Nat) (len : Nat → Nat) (X : Xm) (zr19 : Im → Nat → Int32 → Int32 → Nat → Option (Int32 × Im)) (I : Im) (zx0 : Nat) (zx1 : Int32) (zx2 : Int32) (p_65 : Nat) : Option (Int32 × Im) :=
  nn (gR X 66 zx0) fun zv1 =>
  if (nI (len zv1)) ≤ zx2 then
    m4_beginAnew_45 fl len X fl I zx0 zx1 (0 : Int32) p_65 zv1
  else
    ck (inb zx2 (len zv1) = true) <|
    nn (gQ X zv1 (zx2).toNatClampNeg) fun zv4 =>
    nn (m5_rewind fl len X I zv4) fun zI5 =>
    lt (zx2 + 1) fun zv7 =>
    zr19 zI5 zx0 zx1 zv7 p_65
noncomputable def m4_beginAnew_19 (fl : Nat) (len : Nat → Nat) (X : Xm) (n : Nat) : Im → Nat → Int32 → Int32 → Nat → Option (Int32 × Im) :=
  Nat.rec (fun _ _ _ _ _ => none) (fun _ r => m4_beginAnew_19b fl len X r) n
set_option maxHeartbeats 4000000 in
set_option maxRecDepth 100000 in
theorem w4_beginAnew_19b {p : Program} {l : Launch} {e : Env} {s : State} {m : MethodId} {args : Array Value} {below : List Frame} {meth : Method} {c : Code} {E : EN} {G : GM} {X : Xm} (C0 : CX p s m args meth c E cX4_beginAnew RX4 3) (hr : meth.sig.returnType = (some .int)) (hz : s.heap.size + 0 ≤ eB E + G.1) {rr : Int32 × Im} (fl : Nat) (zr19 : Im → Nat → Int32 → Int32 → Nat → Option (Int32 × Im)) (zhr19 : ∀ (I : Im) (H : Heap) (locs : List Loc) (ls : Array Slot) (zx0 : Nat) (zx1 : Int32) (zx2 : Int32) (p_65 : Nat) (zt0 : okA E G 4 zx0) (ep_65 : gR X 65 zx0 = some p_65) (tp_65 : okA E G 6 p_65), WD E G I X s.heap H locs → lv_has ls 3 [(0, .ref zx0), (1, .int zx1), (2, .int zx2)] → zr19 I zx0 zx1 zx2 p_65 = some rr → W p l e ({ frames := 1, cells := 0, slots := 0, locals := 21 } : Room) s m args below meth c H locs 0 0 (MQ below (QI E G rr.1 rr.2 X) args s 0 0 (eA E)) (F0 m 19 ls [])) : ∀ (I : Im) (H : Heap) (locs : List Loc) (ls : Array Slot) (zx0 : Nat) (zx1 : Int32) (zx2 : Int32) (p_65 : Nat) (zt0 : okA E G 4 zx0) (ep_65 : gR X 65 zx0 = some p_65) (tp_65 : okA E G 6 p_65), WD E G I X s.heap H locs → lv_has ls 3 [(0, .ref zx0), (1, .int zx1), (2, .int zx2)] → m4_beginAnew_19b fl G.2.2 X zr19 I zx0 zx1 zx2 p_65 = some rr → W p l e ({ frames := 1, cells := 0, slots := 0, locals := 21 } : Room) s m args below meth c H locs 0 0 (MQ below (QI E G rr.1 rr.2 X) args s 0 0 (eA E)) (F0 m 19 ls []) := by
  intro I H locs ls zx0 zx1 zx2 p_65 zt0 ep_65 tp_65 hw hl hf
  unfold m4_beginAnew_19b at hf
  have hx := C0.1; have hb := C0.2.1; have hml := C0.2.2.1; have hown := C0.2.2.2.1; have hts := C0.2.2.2.2.1
  refine lv_iload_n hx hb dX4_beginAnew_19 rfl (lv_at hl 2 rfl) ?_
  refine lv_aload_n hx hb dX4_beginAnew_20 rfl (lv_at hl 0 rfl) ?_
  obtain ⟨zv1, ezv1, hf⟩ := nn_some hf
  have tzv1 : okA E G 16 zv1 := wt_r hw ezv1
  refine xg_4_2 C0 hw zt0 wd303 ezv1 dX4_beginAnew_21 ?_
  refine x_alen C0 hw 16 tzv1 (by decide) rfl dX4_beginAnew_24 ?_
  refine lv_icmp_ge (tgt := 43) hx hb dX4_beginAnew_25 (by decide) (fun zc2 => ?_) (fun zc2 => ?_)
  · have hf := ite_t hf zc2
    refine lv_iconst (v := (0 : Int32)) hx hb dX4_beginAnew_43 (by decide) ?_
    refine lv_istore_n (lv' := [(2, .int (0 : Int32)), (0, .ref zx0), (1, .int zx1)]) hx hb dX4_beginAnew_44 rfl hl (by decide) rfl (fun ls hl => ?_)
    exact w4_beginAnew_45 C0 hr hz fl fl I _ _ _ zx0 zx1 (0 : Int32) p_65 zv1 zt0 ep_65 tp_65 ezv1 tzv1 hw (lv_sub hl [1, 2, 0] rfl) hf
  · have hf := ite_f hf zc2
    refine lv_aload_n hx hb dX4_beginAnew_28 rfl (lv_at hl 0 rfl) ?_
    refine xg_4_2 C0 hw zt0 wd303 ezv1 dX4_beginAnew_29 ?_
    refine lv_iload_n hx hb dX4_beginAnew_32 rfl (lv_at hl 2 rfl) ?_
    obtain ⟨zhb3, hf⟩ := ck_some hf
    obtain ⟨zv4, ezv4, hf⟩ := nn_some hf
    have tzv4 : okA E G 5 zv4 := wt_q hw tzv1 ezv4
    refine x_qald C0 hw 16 tzv1 (by decide) rfl zhb3 ezv4 dX4_beginAnew_33 ?_
    obtain ⟨zI5, ze6, hf⟩ := nn_some hf
    refine x_cv (I1 := zI5) (X1 := X) (x_runV (As := []) (rest := []) C0 (c5_rewind l E G fl X I zv4 tzv4 ze6) hw 5 tzv4 (by decide) rfl wd58 wd407 wd408 wd409 wd313 ⟨rfl, rfl⟩ hy5_rewind ⟨Nat.le_of_ble_eq_true rfl, Nat.le_of_ble_eq_true rfl⟩ rfl hl.1 (Nat.le_of_ble_eq_true rfl) ⟨Nat.zero_le _, Nat.zero_le _⟩ dX4_beginAnew_34) hw (fun H locs hw => ?_)
    obtain ⟨zv7, ezv7⟩ : ∃ y : Int32, y = zx2 + 1 := ⟨_, rfl⟩
    have hf := lt_at hf ezv7
    refine lv_iinc (v := zv7) (lv' := [(2, .int zv7), (0, .ref zx0), (1, .int zx1)]) hx hb dX4_beginAnew_37 hl (k := 2) rfl (by rw [ezv7]; rfl) (by decide) rfl (fun ls hl => ?_)
    refine lv_goto (tgt := 19) hx hb dX4_beginAnew_40 (by decide) ?_
    exact zhr19 zI5 _ _ _ zx0 zx1 zv7 p_65 zt0 ep_65 tp_65 hw (lv_sub hl [1, 2, 0] rfl) hf
theorem w4_beginAnew_19 {p : Program} {l : Launch} {e : Env} {s : State} {m : MethodId} {args : Array Value} {below : List Frame} {meth : Method} {c : Code} {E : EN} {G : GM} {X : Xm} (C0 : CX p s m args meth c E cX4_beginAnew RX4 3) (hr : meth.sig.returnType = (some .int)) (hz : s.heap.size + 0 ≤ eB E + G.1) {rr : Int32 × Im} (fl : Nat) : ∀ (n : Nat) (I : Im) (H : Heap) (locs : List Loc) (ls : Array Slot) (zx0 : Nat) (zx1 : Int32) (zx2 : Int32) (p_65 : Nat) (zt0 : okA E G 4 zx0) (ep_65 : gR X 65 zx0 = some p_65) (tp_65 : okA E G 6 p_65), WD E G I X s.heap H locs → lv_has ls 3 [(0, .ref zx0), (1, .int zx1), (2, .int zx2)] → m4_beginAnew_19 fl G.2.2 X n I zx0 zx1 zx2 p_65 = some rr → W p l e ({ frames := 1, cells := 0, slots := 0, locals := 21 } : Room) s m args below meth c H locs 0 0 (MQ below (QI E G rr.1 rr.2 X) args s 0 0 (eA E)) (F0 m 19 ls []) := by
  intro n
  induction n with
  | zero => intro I H locs ls zx0 zx1 zx2 p_65 zt0 ep_65 tp_65 hw hl hf; exact absurd (show (none : Option (Int32 × Im)) = some rr from hf) (by simp)
  | succ n ih => intro I H locs ls zx0 zx1 zx2 p_65 zt0 ep_65 tp_65 hw hl hf; exact w4_beginAnew_19b C0 hr hz fl _ ih I H locs ls zx0 zx1 zx2 p_65 zt0 ep_65 tp_65 hw hl hf
noncomputable def m4_beginAnew (fl : Nat) (len : Nat → Nat) (X : Xm) (I : Im) (zx0 : Nat) : Option (Int32 × Im) :=
  lt ((gF I 72 zx0)) fun zv1 =>
  lt (pF I 72 zx0 (0 : Int32)) fun zI2 =>
  nn (gR X 65 zx0) fun zv3 =>
  nn (m6_letAllCome fl len X zI2 zv3) fun zI4 =>
  m4_beginAnew_19 fl len X fl zI4 zx0 zv1 (0 : Int32) zv3
theorem hy4_beginAnew : yX4_beginAnew.cls = RX4 ∧ yX4_beginAnew.cls ≠ "java/lang/invoke/MethodHandle" ∧ yX4_beginAnew.cls ≠ "java/lang/invoke/VarHandle" ∧ (parseMethodDescriptor yX4_beginAnew.desc).map (fun d => d.parameters.length) = some 0 := ⟨rfl, by decide +kernel, by decide +kernel, by decide +kernel⟩
set_option maxHeartbeats 4000000 in
set_option maxRecDepth 100000 in
theorem c4_beginAnew (l : Launch) (E : EN) (G : GM) (fl : Nat) (X : Xm) (I : Im) (zx0 : Nat) (zt0 : okA E G 4 zx0) {rr : Int32 × Im} (hf : m4_beginAnew fl G.2.2 X I zx0 = some rr) : MT l yX4_beginAnew cX4_beginAnew 3 (some .int) ({ frames := 1, cells := 0, slots := 0, locals := 21 } : Room) E G I X [.ref zx0] (QI E G rr.1 rr.2 X) 0 0 := by
  refine Met.ofW (cc := cX4_beginAnew) (maxL := 3) (ret := (some .int)) (by decide +kernel) rfl ?_
  intro p e s m args below meth c s₁ B hml hv
  obtain ⟨rfl, hw0, hSE⟩ := hv
  have C0 : CX p s m ([.ref zx0] : List Value).toArray meth c E cX4_beginAnew RX4 3 := ⟨B.exec, B.bytes, hml, findClass_of_methodNamed B.named, fun w hw => atoms_spec (ws := WS yX4_beginAnew cX4_beginAnew 3 (some .int)) B.pre w (List.mem_cons_of_mem _ hw), B.notSynchronized, hSE⟩
  have hz : s.heap.size + 0 ≤ eB E + G.1 := Nat.le_of_eq hw0.2.1
  have hw : WD E G I X s.heap s.heap [] := ⟨hw0, va_S.rf⟩
  have hr := B.returns
  have hx := C0.1; have hb := C0.2.1; have hml := C0.2.2.1; have hown := C0.2.2.2.1; have hts := C0.2.2.2.2.1
  have hl := lv_entry ([.ref zx0]) (n := 3) (Nat.le_of_ble_eq_true rfl)
  rw [lg_entry_eq]
  generalize (lg_sl ([.ref zx0]) ++ List.replicate (3 - (lg_sl ([.ref zx0])).length) Slot.unset).toArray = ls at hl ⊢
  have hl : lv_has ls 3 [(0, .ref zx0)] := hl
  unfold m4_beginAnew at hf
  refine lv_aload_n hx hb dX4_beginAnew_0 rfl (lv_at hl 0 rfl) ?_
  refine xg_4_8 C0 hw zt0 wd337 dX4_beginAnew_1 ?_
  refine lv_topi (fun zv1 ezv1 => ?_)
  have hf := lt_at hf ezv1
  refine lv_istore_n (lv' := [(1, .int zv1), (0, .ref zx0)]) hx hb dX4_beginAnew_4 rfl hl (by decide) rfl (fun ls hl => ?_)
  refine lv_aload_n hx hb dX4_beginAnew_5 rfl (lv_at hl 1 rfl) ?_
  refine lv_iconst (v := (0 : Int32)) hx hb dX4_beginAnew_6 (by decide) ?_
  obtain ⟨zI2, ezI2⟩ : ∃ y : Im, y = pF I 72 zx0 (0 : Int32) := ⟨_, rfl⟩
  have hf := lt_at hf ezI2
  refine xp_4_8 C0 hz hw zt0 rfl rfl wd337 dX4_beginAnew_7 ezI2 (fun H locs hw => ?_)
  refine lv_aload_n hx hb dX4_beginAnew_10 rfl (lv_at hl 1 rfl) ?_
  obtain ⟨zv3, ezv3, hf⟩ := nn_some hf
  have tzv3 : okA E G 6 zv3 := wt_r hw ezv3
  refine xg_4_1 C0 hw zt0 wd301 ezv3 dX4_beginAnew_11 ?_
  obtain ⟨zI4, ze5, hf⟩ := nn_some hf
  refine x_cv (I1 := zI4) (X1 := X) (x_runV (As := []) (rest := []) C0 (c6_letAllCome l E G fl X zI2 zv3 tzv3 ze5) hw 6 tzv3 (by decide) rfl wd57 wd404 wd405 wd406 wd300 ⟨rfl, rfl⟩ hy6_letAllCome ⟨Nat.le_of_ble_eq_true rfl, Nat.le_of_ble_eq_true rfl⟩ rfl hl.1 (Nat.le_of_ble_eq_true rfl) ⟨Nat.zero_le _, Nat.zero_le _⟩ dX4_beginAnew_14) hw (fun H locs hw => ?_)
  refine lv_iconst (v := (0 : Int32)) hx hb dX4_beginAnew_17 (by decide) ?_
  refine lv_istore_n (lv' := [(2, .int (0 : Int32)), (1, .int zv1), (0, .ref zx0)]) hx hb dX4_beginAnew_18 rfl hl (by decide) rfl (fun ls hl => ?_)
  exact w4_beginAnew_19 C0 hr hz fl fl zI4 _ _ _ zx0 zv1 (0 : Int32) zv3 zt0 ezv3 tzv3 hw (lv_sub hl [2, 1, 0] rfl) hf
noncomputable def m6_countOf_43 (fl : Nat) (len : Nat → Nat) (X : Xm) (I : Im) (zx2 : Int32) : Option (Int32) :=
  some (zx2)
set_option maxHeartbeats 4000000 in
set_option maxRecDepth 100000 in
theorem w6_countOf_43 {p : Program} {l : Launch} {e : Env} {s : State} {m : MethodId} {args : Array Value} {below : List Frame} {meth : Method} {c : Code} {E : EN} {G : GM} {X : Xm} {I : Im} (C0 : CX p s m args meth c E cX6_countOf RX6 4) (hr : meth.sig.returnType = (some .int)) (hz : s.heap.size + 0 ≤ eB E + G.1) {rr : Int32} (fl : Nat) : ∀ (H : Heap) (locs : List Loc) (ls : Array Slot) (zx2 : Int32) , WD E G I X s.heap H locs → lv_has ls 4 [(2, .int zx2)] → m6_countOf_43 fl G.2.2 X I zx2 = some rr → W p l e ({ frames := 0, cells := 0, slots := 0, locals := 0 } : Room) s m args below meth c H locs 0 0 (MQ below (QI E G rr I X) args s 0 0 (eA E)) (F0 m 43 ls []) := by
  intro H locs ls zx2 hw hl hf
  unfold m6_countOf_43 at hf
  have hx := C0.1; have hb := C0.2.1; have hml := C0.2.2.1; have hown := C0.2.2.2.1; have hts := C0.2.2.2.2.1
  refine lv_iload_n hx hb dX6_countOf_43 rfl (lv_at hl 0 rfl) ?_
  obtain rfl := Option.some.inj hf
  exact x_iret C0 hr hw dX6_countOf_44
noncomputable def m6_countOf_37 (fl : Nat) (len : Nat → Nat) (X : Xm) (I : Im) (zr4 : Nat → Int32 → Int32 → Int32 → Option (Int32)) (zx0 : Nat) (zx1 : Int32) (zx2 : Int32) (zx3 : Int32) (p_96 : Nat) : Option (Int32) :=
  lt (zx3 + 1) fun zv1 =>
  zr4 zx0 zx1 zx2 zv1
set_option maxHeartbeats 4000000 in
set_option maxRecDepth 100000 in
theorem w6_countOf_37 {p : Program} {l : Launch} {e : Env} {s : State} {m : MethodId} {args : Array Value} {below : List Frame} {meth : Method} {c : Code} {E : EN} {G : GM} {X : Xm} {I : Im} (C0 : CX p s m args meth c E cX6_countOf RX6 4) (hr : meth.sig.returnType = (some .int)) (hz : s.heap.size + 0 ≤ eB E + G.1) {rr : Int32} (fl : Nat) (zr4 : Nat → Int32 → Int32 → Int32 → Option (Int32)) (zhr4 : ∀ (H : Heap) (locs : List Loc) (ls : Array Slot) (zx0 : Nat) (zx1 : Int32) (zx2 : Int32) (zx3 : Int32) (zt0 : okA E G 6 zx0), WD E G I X s.heap H locs → lv_has ls 4 [(0, .ref zx0), (1, .int zx1), (2, .int zx2), (3, .int zx3)] → zr4 zx0 zx1 zx2 zx3 = some rr → W p l e ({ frames := 0, cells := 0, slots := 0, locals := 0 } : Room) s m args below meth c H locs 0 0 (MQ below (QI E G rr I X) args s 0 0 (eA E)) (F0 m 4 ls [])) : ∀ (H : Heap) (locs : List Loc) (ls : Array Slot) (zx0 : Nat) (zx1 : Int32) (zx2 : Int32) (zx3 : Int32) (p_96 : Nat) (zt0 : okA E G 6 zx0) (ep_96 : gR X 96 zx0 = some p_96) (tp_96 : okA E G 14 p_96), WD E G I X s.heap H locs → lv_has ls 4 [(0, .ref zx0), (1, .int zx1), (2, .int zx2), (3, .int zx3)] → m6_countOf_37 fl G.2.2 X I zr4 zx0 zx1 zx2 zx3 p_96 = some rr → W p l e ({ frames := 0, cells := 0, slots := 0, locals := 0 } : Room) s m args below meth c H locs 0 0 (MQ below (QI E G rr I X) args s 0 0 (eA E)) (F0 m 37 ls []) := by
  intro H locs ls zx0 zx1 zx2 zx3 p_96 zt0 ep_96 tp_96 hw hl hf
  unfold m6_countOf_37 at hf
  have hx := C0.1; have hb := C0.2.1; have hml := C0.2.2.1; have hown := C0.2.2.2.1; have hts := C0.2.2.2.2.1
  obtain ⟨zv1, ezv1⟩ : ∃ y : Int32, y = zx3 + 1 := ⟨_, rfl⟩
  have hf := lt_at hf ezv1
  refine lv_iinc (v := zv1) (lv' := [(3, .int zv1), (0, .ref zx0), (1, .int zx1), (2, .int zx2)]) hx hb dX6_countOf_37 hl (k := 3) rfl (by rw [ezv1]; rfl) (by decide) rfl (fun ls hl => ?_)
  refine lv_goto (tgt := 4) hx hb dX6_countOf_40 (by decide) ?_
  exact zhr4 _ _ _ zx0 zx1 zx2 zv1 zt0 hw (lv_sub hl [1, 2, 3, 0] rfl) hf
noncomputable def m6_countOf_4b (fl : Nat) (len : Nat → Nat) (X : Xm) (I : Im) (zr4 : Nat → Int32 → Int32 → Int32 → Option (Int32)) (zx0 : Nat) (zx1 : Int32) (zx2 : Int32) (zx3 : Int32) : Option (Int32) :=
  if (gF I 97 zx0) ≤ zx3 then
    m6_countOf_43 fl len X I zx2
  else
    nn (gR X 96 zx0) fun zv2 =>
    if (nI (len zv2)) ≤ zx3 then
      m6_countOf_43 fl len X I zx2
    else
      ck (inb zx3 (len zv2) = true) <|
      nn (gQ X zv2 (zx3).toNatClampNeg) fun zv5 =>
      if (gF I 20 zv5) = zx1 then
        lt (zx2 + 1) fun zv7 =>
        m6_countOf_37 fl len X I zr4 zx0 zx1 zv7 zx3 zv2
      else
        m6_countOf_37 fl len X I zr4 zx0 zx1 zx2 zx3 zv2
noncomputable def m6_countOf_4 (fl : Nat) (len : Nat → Nat) (X : Xm) (I : Im) (n : Nat) : Nat → Int32 → Int32 → Int32 → Option (Int32) :=
  Nat.rec (fun _ _ _ _ => none) (fun _ r => m6_countOf_4b fl len X I r) n
set_option maxHeartbeats 4000000 in
set_option maxRecDepth 100000 in
theorem w6_countOf_4b {p : Program} {l : Launch} {e : Env} {s : State} {m : MethodId} {args : Array Value} {below : List Frame} {meth : Method} {c : Code} {E : EN} {G : GM} {X : Xm} {I : Im} (C0 : CX p s m args meth c E cX6_countOf RX6 4) (hr : meth.sig.returnType = (some .int)) (hz : s.heap.size + 0 ≤ eB E + G.1) {rr : Int32} (fl : Nat) (zr4 : Nat → Int32 → Int32 → Int32 → Option (Int32)) (zhr4 : ∀ (H : Heap) (locs : List Loc) (ls : Array Slot) (zx0 : Nat) (zx1 : Int32) (zx2 : Int32) (zx3 : Int32) (zt0 : okA E G 6 zx0), WD E G I X s.heap H locs → lv_has ls 4 [(0, .ref zx0), (1, .int zx1), (2, .int zx2), (3, .int zx3)] → zr4 zx0 zx1 zx2 zx3 = some rr → W p l e ({ frames := 0, cells := 0, slots := 0, locals := 0 } : Room) s m args below meth c H locs 0 0 (MQ below (QI E G rr I X) args s 0 0 (eA E)) (F0 m 4 ls [])) : ∀ (H : Heap) (locs : List Loc) (ls : Array Slot) (zx0 : Nat) (zx1 : Int32) (zx2 : Int32) (zx3 : Int32) (zt0 : okA E G 6 zx0), WD E G I X s.heap H locs → lv_has ls 4 [(0, .ref zx0), (1, .int zx1), (2, .int zx2), (3, .int zx3)] → m6_countOf_4b fl G.2.2 X I zr4 zx0 zx1 zx2 zx3 = some rr → W p l e ({ frames := 0, cells := 0, slots := 0, locals := 0 } : Room) s m args below meth c H locs 0 0 (MQ below (QI E G rr I X) args s 0 0 (eA E)) (F0 m 4 ls []) := by
  intro H locs ls zx0 zx1 zx2 zx3 zt0 hw hl hf
  unfold m6_countOf_4b at hf
  have hx := C0.1; have hb := C0.2.1; have hml := C0.2.2.1; have hown := C0.2.2.2.1; have hts := C0.2.2.2.2.1
  refine lv_iload_n hx hb dX6_countOf_4 rfl (lv_at hl 3 rfl) ?_
  refine lv_aload_n hx hb dX6_countOf_5 rfl (lv_at hl 0 rfl) ?_
  refine xg_6_1 C0 hw zt0 wd322 dX6_countOf_6 ?_
  refine lv_icmp_ge (tgt := 43) hx hb dX6_countOf_9 (by decide) (fun zc1 => ?_) (fun zc1 => ?_)
  · have hf := ite_t hf zc1
    exact w6_countOf_43 C0 hr hz fl _ _ _ zx2 hw (lv_sub hl [2] rfl) hf
  · have hf := ite_f hf zc1
    refine lv_iload_n hx hb dX6_countOf_12 rfl (lv_at hl 3 rfl) ?_
    refine lv_aload_n hx hb dX6_countOf_13 rfl (lv_at hl 0 rfl) ?_
    obtain ⟨zv2, ezv2, hf⟩ := nn_some hf
    have tzv2 : okA E G 14 zv2 := wt_r hw ezv2
    refine xg_6_0 C0 hw zt0 wd284 ezv2 dX6_countOf_14 ?_
    refine x_alen C0 hw 14 tzv2 (by decide) rfl dX6_countOf_17 ?_
    refine lv_icmp_ge (tgt := 43) hx hb dX6_countOf_18 (by decide) (fun zc3 => ?_) (fun zc3 => ?_)
    · have hf := ite_t hf zc3
      exact w6_countOf_43 C0 hr hz fl _ _ _ zx2 hw (lv_sub hl [2] rfl) hf
    · have hf := ite_f hf zc3
      refine lv_aload_n hx hb dX6_countOf_21 rfl (lv_at hl 0 rfl) ?_
      refine xg_6_0 C0 hw zt0 wd284 ezv2 dX6_countOf_22 ?_
      refine lv_iload_n hx hb dX6_countOf_25 rfl (lv_at hl 3 rfl) ?_
      obtain ⟨zhb4, hf⟩ := ck_some hf
      obtain ⟨zv5, ezv5, hf⟩ := nn_some hf
      have tzv5 : okA E G 1 zv5 := wt_q hw tzv2 ezv5
      refine x_qald C0 hw 14 tzv2 (by decide) rfl zhb4 ezv5 dX6_countOf_26 ?_
      refine xg_1_4 C0 hw tzv5 wd382 dX6_countOf_27 ?_
      refine lv_iload_n hx hb dX6_countOf_30 rfl (lv_at hl 1 rfl) ?_
      refine lv_icmp_ne (tgt := 37) hx hb dX6_countOf_31 (by decide) (fun zc6 => ?_) (fun zc6 => ?_)
      · have hf := ite_f hf zc6
        exact w6_countOf_37 C0 hr hz fl zr4 zhr4 _ _ _ zx0 zx1 zx2 zx3 zv2 zt0 ezv2 tzv2 hw (lv_sub hl [0, 1, 2, 3] rfl) hf
      · have hf := ite_t hf zc6
        obtain ⟨zv7, ezv7⟩ : ∃ y : Int32, y = zx2 + 1 := ⟨_, rfl⟩
        have hf := lt_at hf ezv7
        refine lv_iinc (v := zv7) (lv' := [(2, .int zv7), (0, .ref zx0), (1, .int zx1), (3, .int zx3)]) hx hb dX6_countOf_34 hl (k := 2) rfl (by rw [ezv7]; rfl) (by decide) rfl (fun ls hl => ?_)
        exact w6_countOf_37 C0 hr hz fl zr4 zhr4 _ _ _ zx0 zx1 zv7 zx3 zv2 zt0 ezv2 tzv2 hw (lv_sub hl [1, 2, 0, 3] rfl) hf
theorem w6_countOf_4 {p : Program} {l : Launch} {e : Env} {s : State} {m : MethodId} {args : Array Value} {below : List Frame} {meth : Method} {c : Code} {E : EN} {G : GM} {X : Xm} {I : Im} (C0 : CX p s m args meth c E cX6_countOf RX6 4) (hr : meth.sig.returnType = (some .int)) (hz : s.heap.size + 0 ≤ eB E + G.1) {rr : Int32} (fl : Nat) : ∀ (n : Nat) (H : Heap) (locs : List Loc) (ls : Array Slot) (zx0 : Nat) (zx1 : Int32) (zx2 : Int32) (zx3 : Int32) (zt0 : okA E G 6 zx0), WD E G I X s.heap H locs → lv_has ls 4 [(0, .ref zx0), (1, .int zx1), (2, .int zx2), (3, .int zx3)] → m6_countOf_4 fl G.2.2 X I n zx0 zx1 zx2 zx3 = some rr → W p l e ({ frames := 0, cells := 0, slots := 0, locals := 0 } : Room) s m args below meth c H locs 0 0 (MQ below (QI E G rr I X) args s 0 0 (eA E)) (F0 m 4 ls []) := by
  intro n
  induction n with
  | zero => intro H locs ls zx0 zx1 zx2 zx3 zt0 hw hl hf; exact absurd (show (none : Option (Int32)) = some rr from hf) (by simp)
  | succ n ih => intro H locs ls zx0 zx1 zx2 zx3 zt0 hw hl hf; exact w6_countOf_4b C0 hr hz fl _ ih H locs ls zx0 zx1 zx2 zx3 zt0 hw hl hf
noncomputable def m6_countOf (fl : Nat) (len : Nat → Nat) (X : Xm) (I : Im) (zx0 : Nat) (zx1 : Int32) : Option (Int32) :=
  m6_countOf_4 fl len X I fl zx0 zx1 (0 : Int32) (0 : Int32)
theorem hy6_countOf : yX6_countOf.cls = RX6 ∧ yX6_countOf.cls ≠ "java/lang/invoke/MethodHandle" ∧ yX6_countOf.cls ≠ "java/lang/invoke/VarHandle" ∧ (parseMethodDescriptor yX6_countOf.desc).map (fun d => d.parameters.length) = some 1 := ⟨rfl, by decide +kernel, by decide +kernel, by decide +kernel⟩
set_option maxHeartbeats 4000000 in
set_option maxRecDepth 100000 in
theorem c6_countOf (l : Launch) (E : EN) (G : GM) (fl : Nat) (X : Xm) (I : Im) (zx0 : Nat) (zx1 : Int32) (zt0 : okA E G 6 zx0) {rr : Int32} (hf : m6_countOf fl G.2.2 X I zx0 zx1 = some rr) : MT l yX6_countOf cX6_countOf 4 (some .int) ({ frames := 0, cells := 0, slots := 0, locals := 0 } : Room) E G I X [.ref zx0, .int zx1] (QI E G rr I X) 0 0 := by
  refine Met.ofW (cc := cX6_countOf) (maxL := 4) (ret := (some .int)) (by decide +kernel) rfl ?_
  intro p e s m args below meth c s₁ B hml hv
  obtain ⟨rfl, hw0, hSE⟩ := hv
  have C0 : CX p s m ([.ref zx0, .int zx1] : List Value).toArray meth c E cX6_countOf RX6 4 := ⟨B.exec, B.bytes, hml, findClass_of_methodNamed B.named, fun w hw => atoms_spec (ws := WS yX6_countOf cX6_countOf 4 (some .int)) B.pre w (List.mem_cons_of_mem _ hw), B.notSynchronized, hSE⟩
  have hz : s.heap.size + 0 ≤ eB E + G.1 := Nat.le_of_eq hw0.2.1
  have hw : WD E G I X s.heap s.heap [] := ⟨hw0, va_S.rf⟩
  have hr := B.returns
  have hx := C0.1; have hb := C0.2.1; have hml := C0.2.2.1; have hown := C0.2.2.2.1; have hts := C0.2.2.2.2.1
  have hl := lv_entry ([.ref zx0, .int zx1]) (n := 4) (Nat.le_of_ble_eq_true rfl)
  rw [lg_entry_eq]
  generalize (lg_sl ([.ref zx0, .int zx1]) ++ List.replicate (4 - (lg_sl ([.ref zx0, .int zx1])).length) Slot.unset).toArray = ls at hl ⊢
  have hl : lv_has ls 4 [(0, .ref zx0), (1, .int zx1)] := hl
  unfold m6_countOf at hf
  refine lv_iconst (v := (0 : Int32)) hx hb dX6_countOf_0 (by decide) ?_
  refine lv_istore_n (lv' := [(2, .int (0 : Int32)), (0, .ref zx0), (1, .int zx1)]) hx hb dX6_countOf_1 rfl hl (by decide) rfl (fun ls hl => ?_)
  refine lv_iconst (v := (0 : Int32)) hx hb dX6_countOf_2 (by decide) ?_
  refine lv_istore_n (lv' := [(3, .int (0 : Int32)), (2, .int (0 : Int32)), (0, .ref zx0), (1, .int zx1)]) hx hb dX6_countOf_3 rfl hl (by decide) rfl (fun ls hl => ?_)
  exact w6_countOf_4 C0 hr hz fl fl _ _ _ zx0 zx1 (0 : Int32) (0 : Int32) zt0 hw (lv_sub hl [2, 3, 1, 0] rfl) hf
noncomputable def m6_missedCues (fl : Nat) (len : Nat → Nat) (X : Xm) (I : Im) (zx0 : Nat) : Option (Int32) :=
  nn (m6_countOf fl len X I zx0 (2 : Int32)) fun zv1 =>
  nn (m6_countOf fl len X I zx0 (3 : Int32)) fun zv3 =>
  some ((zv1 + zv3))
theorem hy6_missedCues : yX6_missedCues.cls = RX6 ∧ yX6_missedCues.cls ≠ "java/lang/invoke/MethodHandle" ∧ yX6_missedCues.cls ≠ "java/lang/invoke/VarHandle" ∧ (parseMethodDescriptor yX6_missedCues.desc).map (fun d => d.parameters.length) = some 0 := ⟨rfl, by decide +kernel, by decide +kernel, by decide +kernel⟩
set_option maxHeartbeats 4000000 in
set_option maxRecDepth 100000 in
theorem c6_missedCues (l : Launch) (E : EN) (G : GM) (fl : Nat) (X : Xm) (I : Im) (zx0 : Nat) (zt0 : okA E G 6 zx0) {rr : Int32} (hf : m6_missedCues fl G.2.2 X I zx0 = some rr) : MT l yX6_missedCues cX6_missedCues 1 (some .int) ({ frames := 1, cells := 0, slots := 0, locals := 23 } : Room) E G I X [.ref zx0] (QI E G rr I X) 0 0 := by
  refine Met.ofW (cc := cX6_missedCues) (maxL := 1) (ret := (some .int)) (by decide +kernel) rfl ?_
  intro p e s m args below meth c s₁ B hml hv
  obtain ⟨rfl, hw0, hSE⟩ := hv
  have C0 : CX p s m ([.ref zx0] : List Value).toArray meth c E cX6_missedCues RX6 1 := ⟨B.exec, B.bytes, hml, findClass_of_methodNamed B.named, fun w hw => atoms_spec (ws := WS yX6_missedCues cX6_missedCues 1 (some .int)) B.pre w (List.mem_cons_of_mem _ hw), B.notSynchronized, hSE⟩
  have hz : s.heap.size + 0 ≤ eB E + G.1 := Nat.le_of_eq hw0.2.1
  have hw : WD E G I X s.heap s.heap [] := ⟨hw0, va_S.rf⟩
  have hr := B.returns
  have hx := C0.1; have hb := C0.2.1; have hml := C0.2.2.1; have hown := C0.2.2.2.1; have hts := C0.2.2.2.2.1
  have hl := lv_entry ([.ref zx0]) (n := 1) (Nat.le_of_ble_eq_true rfl)
  rw [lg_entry_eq]
  generalize (lg_sl ([.ref zx0]) ++ List.replicate (1 - (lg_sl ([.ref zx0])).length) Slot.unset).toArray = ls at hl ⊢
  have hl : lv_has ls 1 [(0, .ref zx0)] := hl
  unfold m6_missedCues at hf
  refine lv_aload_n hx hb dX6_missedCues_0 rfl (lv_at hl 0 rfl) ?_
  refine lv_iconst (v := (2 : Int32)) hx hb dX6_missedCues_1 (by decide) ?_
  obtain ⟨zv1, ze2, hf⟩ := nn_some hf
  refine x_ci (r := zv1) (I1 := I) (X1 := X) (x_runV (As := [.int (2 : Int32)]) (rest := []) C0 (c6_countOf l E G fl X I zx0 (2 : Int32) zt0 ze2) hw 6 zt0 (by decide) rfl wd60 wd410 wd411 wd412 wd300 ⟨rfl, rfl⟩ hy6_countOf ⟨Nat.le_of_ble_eq_true rfl, Nat.le_of_ble_eq_true rfl⟩ rfl hl.1 (Nat.le_of_ble_eq_true rfl) ⟨Nat.zero_le _, Nat.zero_le _⟩ dX6_missedCues_2) hw (fun H locs hw => ?_)
  refine lv_aload_n hx hb dX6_missedCues_5 rfl (lv_at hl 0 rfl) ?_
  refine lv_iconst (v := (3 : Int32)) hx hb dX6_missedCues_6 (by decide) ?_
  obtain ⟨zv3, ze4, hf⟩ := nn_some hf
  refine x_ci (r := zv3) (I1 := I) (X1 := X) (x_runV (As := [.int (3 : Int32)]) (rest := [.int zv1]) C0 (c6_countOf l E G fl X I zx0 (3 : Int32) zt0 ze4) hw 6 zt0 (by decide) rfl wd60 wd410 wd411 wd412 wd300 ⟨rfl, rfl⟩ hy6_countOf ⟨Nat.le_of_ble_eq_true rfl, Nat.le_of_ble_eq_true rfl⟩ rfl hl.1 (Nat.le_of_ble_eq_true rfl) ⟨Nat.zero_le _, Nat.zero_le _⟩ dX6_missedCues_7) hw (fun H locs hw => ?_)
  refine lv_iadd hx hb dX6_missedCues_10 ?_
  obtain rfl := Option.some.inj hf
  exact x_iret C0 hr hw dX6_missedCues_11
