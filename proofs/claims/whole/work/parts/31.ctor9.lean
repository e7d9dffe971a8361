/-! ===== the constructor of the reference ===== -/
def moK (a : Nat) (I : Im) : Nat → Im
  | 0 => I
  | i + 1 => pA (moK a I i) a (216 + i) (50 : Int32)
theorem moK_moL (a : Nat) (I : Im) : ∀ i, moK a (moI0 a I) i = moL a I i
  | 0 => rfl
  | i + 1 => by show pA _ _ _ _ = pA _ _ _ _; rw [moK_moL a I i]
set_option maxHeartbeats 4000000 in
set_option maxRecDepth 100000 in
theorem w9_init_96 {p : Program} {l : Launch} {e : Env} {s : State} {m : MethodId} {args : Array Value} {below : List Frame} {meth : Method} {c : Code} {E : EN} {n : Nat} {K len : Nat → Nat} {I : Im} {X : Xm} {Q : State → Prop} {a : Nat} (C0 : CX p s m args meth c E cX9_init RX9 2) (hs : s.heap.size = eB E + n) (ha : a + 1 = eB E + n) (ha0 : eB E ≤ a) (hKa : K a = 9) (hLY : LY K len a layModel) (hg144 : gR X 144 a = some (a + 1))
    (kx : ∀ (H : Heap) (locs : List Loc) (ls : Array Slot), WD E (n + 7, K, len) (moK (a + 1) I 8) X s.heap H locs → W p l e ({ frames := 1, cells := 7, slots := 16402, locals := 20 } : Room) s m args below meth c H locs 7 16402 Q (F0 m 120 ls [])) :
    ∀ (j i : Nat), i + j = 8 → ∀ (H : Heap) (locs : List Loc) (ls : Array Slot), WD E (n + 7, K, len) (moK (a + 1) I i) X s.heap H locs → lv_has ls 2 [(1, .int (nI i)), (0, .ref a)] → W p l e ({ frames := 1, cells := 7, slots := 16402, locals := 20 } : Room) s m args below meth c H locs 7 16402 Q (F0 m 96 ls []) := by
  have hx := C0.1; have hb := C0.2.1; have hml := C0.2.2.1; have hown := C0.2.2.2.1; have hts := C0.2.2.2.2.1
  intro j
  induction j with
  | zero =>
    intro i hij H locs ls hw hl
    obtain rfl : i = 8 := by omega
    refine lv_iload_n hx hb dX9_init_96 rfl (lv_at hl 0 rfl) ?_
    refine lv_bipush (v := (8 : Int32)) hx hb dX9_init_97 (by decide) ?_
    refine lv_icmp_ge (tgt := 120) hx hb dX9_init_99 (by decide) (fun _ => ?_) (fun q => absurd (show (8 : Int32) ≤ nI 8 by decide) q)
    exact kx H locs ls hw
  | succ j ih =>
    intro i hij H locs ls hw hl
    have hi : i < 8 := by omega
    refine lv_iload_n hx hb dX9_init_96 rfl (lv_at hl 0 rfl) ?_
    refine lv_bipush (v := (8 : Int32)) hx hb dX9_init_97 (by decide) ?_
    refine lv_icmp_ge (tgt := 120) hx hb dX9_init_99 (by decide) (fun q => absurd q (by rw [show (8 : Int32) = nI 8 by decide, nI_leI (by omega) (by omega)]; omega)) (fun _ => ?_)
    refine lv_aload_n hx hb dX9_init_102 rfl (lv_at hl 1 rfl) ?_
    refine xg_9_0 C0 hw (okq (by omega) (by omega) hKa) wd601 hg144 dX9_init_103 ?_
    refine lv_sipush (v := (216 : Int32)) hx hb dX9_init_106 (by decide) ?_
    refine lv_iload_n hx hb dX9_init_109 rfl (lv_at hl 0 rfl) ?_
    refine lv_iadd hx hb dX9_init_110 ?_
    rw [show (216 : Int32) = nI 216 by decide, nI_add]
    refine lv_bipush (v := (50 : Int32)) hx hb dX9_init_111 (by decide) ?_
    obtain ⟨I2, eI2⟩ : ∃ y : Im, y = pA (moK (a + 1) I i) (a + 1) (nI (216 + i)).toNatClampNeg (50 : Int32) := ⟨_, rfl⟩
    refine x_iast C0 (G := (n + 7, K, len)) (show s.heap.size + 7 ≤ eB E + (n + 7) by omega) hw (okq (by omega) (by omega) (show K (a + 1) = 11 from (hLY 1 (by decide)).1)) (by show inb (nI (216 + i)) (len (a + 1)) = true; rw [show len (a + 1) = 1620 from (hLY 1 (by decide)).2]; exact decide_eq_true (by rw [nI_toInt (by omega)]; omega)) dX9_init_113 eI2 (fun H locs hw => ?_)
    rw [nI_clamp (by omega)] at eI2
    refine lv_iinc (v := nI (i + 1)) (lv' := [(1, .int (nI (i + 1))), (0, .ref a)]) hx hb dX9_init_114 hl (k := 0) rfl (by rw [← nI_add]; rfl) (by decide) rfl (fun ls hl => ?_)
    refine lv_goto (tgt := 96) hx hb dX9_init_117 (by decide) ?_
    rw [eI2] at hw
    exact ih (i + 1) (by omega) H locs ls hw hl
set_option maxHeartbeats 4000000 in
set_option maxRecDepth 100000 in
theorem c9_init (l : Launch) (E : EN) (n : Nat) (K len : Nat → Nat) (I : Im) (X : Xm) (a : Nat) (ta : okA E (n, K, len) 9 a) (ha : a + 1 = eB E + n) (hZI : ZI (a + 1) I) (hZX : ZX (a + 1) X) (hLY : LY K len a layModel) : MT l yX9_init cX9_init 2 none ({ frames := 1, cells := 7, slots := 16402, locals := 20 } : Room) E (n, K, len) I X [.ref a] (QV E (n + 7, K, len) (moI (a) I) (moX (a) X)) 7 16402 := by
  refine Met.ofW (cc := cX9_init) (maxL := 2) (ret := none) (by decide +kernel) rfl ?_
  intro p e s m args below meth c s₁ B hml hv
  obtain ⟨rfl, hw0, hSE⟩ := hv
  have C0 : CX p s m ([.ref a] : List Value).toArray meth c E cX9_init RX9 2 := ⟨B.exec, B.bytes, hml, findClass_of_methodNamed B.named, fun w hw => atoms_spec (ws := WS yX9_init cX9_init 2 none) B.pre w (List.mem_cons_of_mem _ hw), B.notSynchronized, hSE⟩
  have hs : s.heap.size = eB E + n := hw0.2.1
  have hB : eB E ≤ s.heap.size := by omega
  have hw : WD E (n, K, len) I X s.heap s.heap [] := ⟨hw0, va_S.rf⟩
  have hr := B.returns
  have hin2 : meth.name = "<init>" := (name_of_methodNamed B.named B.method).1
  have ha0 : eB E ≤ a := ta.1
  have hKa : K a = 9 := ta.2.2
  have hx := C0.1; have hb := C0.2.1; have hml := C0.2.2.1; have hown := C0.2.2.2.1; have hts := C0.2.2.2.2.1
  have hl := lv_entry ([.ref a]) (n := 2) (Nat.le_of_ble_eq_true rfl)
  rw [lg_entry_eq]
  generalize (lg_sl ([.ref a]) ++ List.replicate (2 - (lg_sl ([.ref a])).length) Slot.unset).toArray = ls at hl ⊢
  have hl : lv_has ls 2 [(0, .ref a)] := hl
  refine lv_aload_n hx hb dX9_init_0 rfl (lv_at hl 0 rfl) ?_
  refine x_obj C0 hl.1 wd600 (Nat.le_of_ble_eq_true rfl) (Nat.le_of_ble_eq_true rfl) dX9_init_1 ?_
  refine lv_aload_n hx hb dX9_init_4 rfl (lv_at hl 0 rfl) ?_
  refine lv_sipush (v := (1620 : Int32)) hx hb dX9_init_5 (by decide) ?_
  refine x_newI C0 (atype := .int) (n := n + 0) (q := a + 1) (show s.heap.size + 0 = eB E + (n + 0) by omega) hB hw (by omega) hZI 11 (by decide) (by decide) (ty := .int) rfl (fun _ => rfl) rfl rfl wd205 (N := 1620) (by decide) (by decide) (by decide) (show K (a + 1) = 11 from (hLY 1 (by decide)).1) (show len (a + 1) = 1620 from (hLY 1 (by decide)).2) (Nat.le_of_ble_eq_true rfl) (Nat.le_of_ble_eq_true rfl) dX9_init_8 (fun H locs hw => ?_)
  have hZI := hZI.mono (Nat.le_succ _); have hZX := hZX.mono (Nat.le_succ _)
  obtain ⟨yX1, eyX1⟩ : ∃ y : Xm, y = pR X 144 a (some (a + 1)) := ⟨_, rfl⟩
  refine xp_9_0 C0 (show s.heap.size + 1 ≤ eB E + (n + 1) by omega) hw hin2 rfl (okq (by omega) (by omega) hKa) (okq (by omega) (by omega) (show K (a + 1) = 11 from (hLY 1 (by decide)).1)) wd601 dX9_init_10 eyX1 (fun H locs hw => ?_)
  have hZX : ZX (a + 2) yX1 := by rw [eyX1]; exact hZX.pR (by omega)
  refine lv_aload_n hx hb dX9_init_13 rfl (lv_at hl 0 rfl) ?_
  refine lv_sipush (v := (9720 : Int32)) hx hb dX9_init_14 (by decide) ?_
  refine x_newI C0 (atype := .int) (n := n + 1) (q := a + 2) (show s.heap.size + 1 = eB E + (n + 1) by omega) hB hw (by omega) hZI 11 (by decide) (by decide) (ty := .int) rfl (fun _ => rfl) rfl rfl wd205 (N := 9720) (by decide) (by decide) (by decide) (show K (a + 2) = 11 from (hLY 2 (by decide)).1) (show len (a + 2) = 9720 from (hLY 2 (by decide)).2) (Nat.le_of_ble_eq_true rfl) (Nat.le_of_ble_eq_true rfl) dX9_init_17 (fun H locs hw => ?_)
  have hZI := hZI.mono (Nat.le_succ _); have hZX := hZX.mono (Nat.le_succ _)
  obtain ⟨yX2, eyX2⟩ : ∃ y : Xm, y = pR yX1 145 a (some (a + 2)) := ⟨_, rfl⟩
  refine xp_9_1 C0 (show s.heap.size + 2 ≤ eB E + (n + 2) by omega) hw hin2 rfl (okq (by omega) (by omega) hKa) (okq (by omega) (by omega) (show K (a + 2) = 11 from (hLY 2 (by decide)).1)) wd602 dX9_init_19 eyX2 (fun H locs hw => ?_)
  have hZX : ZX (a + 3) yX2 := by rw [eyX2]; exact hZX.pR (by omega)
  refine lv_aload_n hx hb dX9_init_22 rfl (lv_at hl 0 rfl) ?_
  refine lv_sipush (v := (3240 : Int32)) hx hb dX9_init_23 (by decide) ?_
  refine x_newI C0 (atype := .int) (n := n + 2) (q := a + 3) (show s.heap.size + 2 = eB E + (n + 2) by omega) hB hw (by omega) hZI 11 (by decide) (by decide) (ty := .int) rfl (fun _ => rfl) rfl rfl wd205 (N := 3240) (by decide) (by decide) (by decide) (show K (a + 3) = 11 from (hLY 3 (by decide)).1) (show len (a + 3) = 3240 from (hLY 3 (by decide)).2) (Nat.le_of_ble_eq_true rfl) (Nat.le_of_ble_eq_true rfl) dX9_init_26 (fun H locs hw => ?_)
  have hZI := hZI.mono (Nat.le_succ _); have hZX := hZX.mono (Nat.le_succ _)
  obtain ⟨yX3, eyX3⟩ : ∃ y : Xm, y = pR yX2 146 a (some (a + 3)) := ⟨_, rfl⟩
  refine xp_9_2 C0 (show s.heap.size + 3 ≤ eB E + (n + 3) by omega) hw hin2 rfl (okq (by omega) (by omega) hKa) (okq (by omega) (by omega) (show K (a + 3) = 11 from (hLY 3 (by decide)).1)) wd603 dX9_init_28 eyX3 (fun H locs hw => ?_)
  have hZX : ZX (a + 4) yX3 := by rw [eyX3]; exact hZX.pR (by omega)
  refine lv_aload_n hx hb dX9_init_31 rfl (lv_at hl 0 rfl) ?_
  refine lv_iconst (v := (2 : Int32)) hx hb dX9_init_32 (by decide) ?_
  refine x_newI C0 (atype := .boolean) (n := n + 3) (q := a + 4) (show s.heap.size + 3 = eB E + (n + 3) by omega) hB hw (by omega) hZI 12 (by decide) (by decide) (ty := .boolean) rfl (fun _ => rfl) rfl rfl wd483 (N := 2) (by decide) (by decide) (by decide) (show K (a + 4) = 12 from (hLY 4 (by decide)).1) (show len (a + 4) = 2 from (hLY 4 (by decide)).2) (Nat.le_of_ble_eq_true rfl) (Nat.le_of_ble_eq_true rfl) dX9_init_33 (fun H locs hw => ?_)
  have hZI := hZI.mono (Nat.le_succ _); have hZX := hZX.mono (Nat.le_succ _)
  obtain ⟨yX4, eyX4⟩ : ∃ y : Xm, y = pR yX3 147 a (some (a + 4)) := ⟨_, rfl⟩
  refine xp_9_3 C0 (show s.heap.size + 4 ≤ eB E + (n + 4) by omega) hw hin2 rfl (okq (by omega) (by omega) hKa) (okq (by omega) (by omega) (show K (a + 4) = 12 from (hLY 4 (by decide)).1)) wd604 dX9_init_35 eyX4 (fun H locs hw => ?_)
  have hZX : ZX (a + 5) yX4 := by rw [eyX4]; exact hZX.pR (by omega)
  refine lv_aload_n hx hb dX9_init_38 rfl (lv_at hl 0 rfl) ?_
  refine lv_sipush (v := (1620 : Int32)) hx hb dX9_init_39 (by decide) ?_
  refine x_newI C0 (atype := .int) (n := n + 4) (q := a + 5) (show s.heap.size + 4 = eB E + (n + 4) by omega) hB hw (by omega) hZI 11 (by decide) (by decide) (ty := .int) rfl (fun _ => rfl) rfl rfl wd205 (N := 1620) (by decide) (by decide) (by decide) (show K (a + 5) = 11 from (hLY 5 (by decide)).1) (show len (a + 5) = 1620 from (hLY 5 (by decide)).2) (Nat.le_of_ble_eq_true rfl) (Nat.le_of_ble_eq_true rfl) dX9_init_42 (fun H locs hw => ?_)
  have hZI := hZI.mono (Nat.le_succ _); have hZX := hZX.mono (Nat.le_succ _)
  obtain ⟨yX5, eyX5⟩ : ∃ y : Xm, y = pR yX4 148 a (some (a + 5)) := ⟨_, rfl⟩
  refine xp_9_4 C0 (show s.heap.size + 5 ≤ eB E + (n + 5) by omega) hw hin2 rfl (okq (by omega) (by omega) hKa) (okq (by omega) (by omega) (show K (a + 5) = 11 from (hLY 5 (by decide)).1)) wd605 dX9_init_44 eyX5 (fun H locs hw => ?_)
  have hZX : ZX (a + 6) yX5 := by rw [eyX5]; exact hZX.pR (by omega)
  refine lv_aload_n hx hb dX9_init_47 rfl (lv_at hl 0 rfl) ?_
  refine lv_bipush (v := (80 : Int32)) hx hb dX9_init_48 (by decide) ?_
  refine x_newI C0 (atype := .int) (n := n + 5) (q := a + 6) (show s.heap.size + 5 = eB E + (n + 5) by omega) hB hw (by omega) hZI 11 (by decide) (by decide) (ty := .int) rfl (fun _ => rfl) rfl rfl wd205 (N := 80) (by decide) (by decide) (by decide) (show K (a + 6) = 11 from (hLY 6 (by decide)).1) (show len (a + 6) = 80 from (hLY 6 (by decide)).2) (Nat.le_of_ble_eq_true rfl) (Nat.le_of_ble_eq_true rfl) dX9_init_50 (fun H locs hw => ?_)
  have hZI := hZI.mono (Nat.le_succ _); have hZX := hZX.mono (Nat.le_succ _)
  obtain ⟨yX6, eyX6⟩ : ∃ y : Xm, y = pR yX5 151 a (some (a + 6)) := ⟨_, rfl⟩
  refine xp_9_7 C0 (show s.heap.size + 6 ≤ eB E + (n + 6) by omega) hw hin2 rfl (okq (by omega) (by omega) hKa) (okq (by omega) (by omega) (show K (a + 6) = 11 from (hLY 6 (by decide)).1)) wd606 dX9_init_52 eyX6 (fun H locs hw => ?_)
  have hZX : ZX (a + 7) yX6 := by rw [eyX6]; exact hZX.pR (by omega)
  refine lv_aload_n hx hb dX9_init_55 rfl (lv_at hl 0 rfl) ?_
  refine lv_bipush (v := (120 : Int32)) hx hb dX9_init_56 (by decide) ?_
  refine x_newI C0 (atype := .int) (n := n + 6) (q := a + 7) (show s.heap.size + 6 = eB E + (n + 6) by omega) hB hw (by omega) hZI 11 (by decide) (by decide) (ty := .int) rfl (fun _ => rfl) rfl rfl wd205 (N := 120) (by decide) (by decide) (by decide) (show K (a + 7) = 11 from (hLY 7 (by decide)).1) (show len (a + 7) = 120 from (hLY 7 (by decide)).2) (Nat.le_of_ble_eq_true rfl) (Nat.le_of_ble_eq_true rfl) dX9_init_58 (fun H locs hw => ?_)
  have hZI := hZI.mono (Nat.le_succ _); have hZX := hZX.mono (Nat.le_succ _)
  obtain ⟨yX7, eyX7⟩ : ∃ y : Xm, y = pR yX6 155 a (some (a + 7)) := ⟨_, rfl⟩
  refine xp_9_11 C0 (show s.heap.size + 7 ≤ eB E + (n + 7) by omega) hw hin2 rfl (okq (by omega) (by omega) hKa) (okq (by omega) (by omega) (show K (a + 7) = 11 from (hLY 7 (by decide)).1)) wd607 dX9_init_60 eyX7 (fun H locs hw => ?_)
  have hZX : ZX (a + 8) yX7 := by rw [eyX7]; exact hZX.pR (by omega)
  refine lv_aload_n hx hb dX9_init_63 rfl (lv_at hl 0 rfl) ?_
  have hg144 : gR yX7 144 a = some (a + 1) := by
    rw [eyX7, gR_pR, if_neg (by omega)]; rw [eyX6, gR_pR, if_neg (by omega)]; rw [eyX5, gR_pR, if_neg (by omega)]; rw [eyX4, gR_pR, if_neg (by omega)]; rw [eyX3, gR_pR, if_neg (by omega)]; rw [eyX2, gR_pR, if_neg (by omega)]; rw [eyX1, gR_pR, if_pos ⟨rfl, rfl⟩]
  refine xg_9_0 C0 hw (okq (by omega) (by omega) hKa) wd601 hg144 dX9_init_64 ?_
  refine lv_iconst (v := (0 : Int32)) hx hb dX9_init_67 (by decide) ?_
  refine lv_iconst (v := (4 : Int32)) hx hb dX9_init_68 (by decide) ?_
  obtain ⟨yI8, eyI8⟩ : ∃ y : Im, y = pA I (a + 1) 0 (4 : Int32) := ⟨_, rfl⟩
  refine x_iast C0 (show s.heap.size + 7 ≤ eB E + (n + 7) by omega) hw (okq (by omega) (by omega) (show K (a + 1) = 11 from (hLY 1 (by decide)).1)) (by show inb (0 : Int32) (len (a + 1)) = true; rw [show len (a + 1) = _ from (hLY 1 (by decide)).2]; decide) dX9_init_69 eyI8 (fun H locs hw => ?_)
  have hZI : ZI (a + 8) yI8 := by rw [eyI8]; exact hZI.pA (by omega)
  refine lv_aload_n hx hb dX9_init_70 rfl (lv_at hl 0 rfl) ?_
  refine xg_9_0 C0 hw (okq (by omega) (by omega) hKa) wd601 hg144 dX9_init_71 ?_
  refine lv_iconst (v := (1 : Int32)) hx hb dX9_init_74 (by decide) ?_
  refine lv_iconst (v := (2 : Int32)) hx hb dX9_init_75 (by decide) ?_
  obtain ⟨yI9, eyI9⟩ : ∃ y : Im, y = pA yI8 (a + 1) 1 (2 : Int32) := ⟨_, rfl⟩
  refine x_iast C0 (show s.heap.size + 7 ≤ eB E + (n + 7) by omega) hw (okq (by omega) (by omega) (show K (a + 1) = 11 from (hLY 1 (by decide)).1)) (by show inb (1 : Int32) (len (a + 1)) = true; rw [show len (a + 1) = _ from (hLY 1 (by decide)).2]; decide) dX9_init_76 eyI9 (fun H locs hw => ?_)
  have hZI : ZI (a + 8) yI9 := by rw [eyI9]; exact hZI.pA (by omega)
  refine lv_aload_n hx hb dX9_init_77 rfl (lv_at hl 0 rfl) ?_
  refine xg_9_0 C0 hw (okq (by omega) (by omega) hKa) wd601 hg144 dX9_init_78 ?_
  refine lv_iconst (v := (2 : Int32)) hx hb dX9_init_81 (by decide) ?_
  refine lv_bipush (v := (10 : Int32)) hx hb dX9_init_82 (by decide) ?_
  obtain ⟨yI10, eyI10⟩ : ∃ y : Im, y = pA yI9 (a + 1) 2 (10 : Int32) := ⟨_, rfl⟩
  refine x_iast C0 (show s.heap.size + 7 ≤ eB E + (n + 7) by omega) hw (okq (by omega) (by omega) (show K (a + 1) = 11 from (hLY 1 (by decide)).1)) (by show inb (2 : Int32) (len (a + 1)) = true; rw [show len (a + 1) = _ from (hLY 1 (by decide)).2]; decide) dX9_init_84 eyI10 (fun H locs hw => ?_)
  have hZI : ZI (a + 8) yI10 := by rw [eyI10]; exact hZI.pA (by omega)
  refine lv_aload_n hx hb dX9_init_85 rfl (lv_at hl 0 rfl) ?_
  refine xg_9_0 C0 hw (okq (by omega) (by omega) hKa) wd601 hg144 dX9_init_86 ?_
  refine lv_iconst (v := (3 : Int32)) hx hb dX9_init_89 (by decide) ?_
  refine lv_sipush (v := (150 : Int32)) hx hb dX9_init_90 (by decide) ?_
  obtain ⟨yI11, eyI11⟩ : ∃ y : Im, y = pA yI10 (a + 1) 3 (150 : Int32) := ⟨_, rfl⟩
  refine x_iast C0 (show s.heap.size + 7 ≤ eB E + (n + 7) by omega) hw (okq (by omega) (by omega) (show K (a + 1) = 11 from (hLY 1 (by decide)).1)) (by show inb (3 : Int32) (len (a + 1)) = true; rw [show len (a + 1) = _ from (hLY 1 (by decide)).2]; decide) dX9_init_93 eyI11 (fun H locs hw => ?_)
  have hZI : ZI (a + 8) yI11 := by rw [eyI11]; exact hZI.pA (by omega)
  refine lv_iconst (v := (0 : Int32)) hx hb dX9_init_94 (by decide) ?_
  refine lv_istore_n (lv' := [(1, .int (0 : Int32)), (0, .ref a)]) hx hb dX9_init_95 rfl hl (by decide) rfl (fun ls hl => ?_)
  refine w9_init_96 C0 (I := yI11) (X := yX7) hs ha ha0 hKa hLY hg144 (fun H locs ls hw => ?_) 8 0 (by decide) H locs ls hw hl
  generalize eyI12 : moK (a + 1) yI11 8 = yI12 at hw ⊢
  have eF : yI12 = (moI (a) I) ∧ yX7 = (moX (a) X) := by
    subst eyI12
    subst eyI11
    subst eyI10
    subst eyI9
    subst eyI8
    subst eyX7
    subst eyX6
    subst eyX5
    subst eyX4
    subst eyX3
    subst eyX2
    subst eyX1
    exact ⟨moK_moL _ _ _, rfl⟩
  rw [← eF.1, ← eF.2]
  exact x_vret C0 hr hw dX9_init_120
