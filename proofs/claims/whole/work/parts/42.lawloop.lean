/-! ===== the law's loop and its entry ===== -/
theorem law_end {L i : Nat} (hL : L ≤ 2560) (hi : i ≤ L) : (Int32.ofNat L - 5 < nI i) ↔ L < i + 5 := by
  have h1 : (Int32.ofNat L - 5).toInt = (L : Int) - 5 := by
    rw [Int32.toInt_sub, show (Int32.ofNat L) = nI L from rfl, nI_toInt (by omega), show (5 : Int32).toInt = 5 from rfl]
    rw [Int.bmod_def]; omega
  rw [Int32.lt_iff_toInt_lt, h1, nI_toInt (by omega)]; omega
set_option maxHeartbeats 4000000 in
set_option maxRecDepth 100000 in
theorem law_loop {p : Program} {l : Launch} {e : Env} {s : State} {m : MethodId} {below : List Frame} {meth : Method} {c : Code} {E : EN} {n : Nat} {K len : Nat → Nat} {a b q L : Nat} {xs : Nat → Int32} {Q : State → Prop} {Rel : Im → Xm → Prop} (fl : Nat) (hst : Steps fl len b q Rel) (C0 : CX p s m #[Value.ref a] meth c E cL_law RL 4) (hX : va_X a L xs s s.heap) (hbl : a < s.heap.size) (hBe : eB E = s.heap.size) (hL : L ≤ 2560) (tb : okA E (n, K, len) 8 b) (tq : okA E (n, K, len) 9 q) (kx : ∀ (I : Im) (X : Xm) (H : Heap) (locs : List Loc) (ls : Array Slot), WD E (n, K, len) I X s.heap H locs → W p l e room_1 s m #[Value.ref a] below meth c H locs 600000 7302250 Q (F0 m 913 ls [])) :
    ∀ (j i : Nat), i ≤ L → L + 1 ≤ i + j → ∀ (I : Im) (X : Xm) (H : Heap) (locs : List Loc) (ls : Array Slot), WD E (n, K, len) I X s.heap H locs → Rel I X → lv_has ls 4 [(0, .ref a), (1, .ref b), (2, .ref q), (3, .int (nI i))] → W p l e room_1 s m #[Value.ref a] below meth c H locs 600000 7302250 Q (F0 m 18 ls []) := by
  have hx := C0.1; have hb := C0.2.1; have hml := C0.2.2.1; have hown := C0.2.2.2.1; have hts := C0.2.2.2.2.1
  have hbA : ¬ eA E a := by show ¬ eB E ≤ a; omega
  intro j
  induction j with
  | zero => intro i hi hj; omega
  | succ j ih =>
    intro i hi hj I X H locs ls hw hrel hl
    refine lv_iload_n hx hb dL_law_18 rfl (lv_at hl 3 rfl) ?_
    refine lv_aload_n hx hb dL_law_19 rfl (lv_at hl 0 rfl) ?_
    refine va_slen hx hb hX hbl hbA hw.2 dL_law_20 ?_
    refine lv_iconst (v := (5 : Int32)) hx hb dL_law_21 (by decide) ?_
    refine lv_isub hx hb dL_law_22 ?_
    refine lv_icmp_gt (tgt := 913) hx hb dL_law_23 (by decide) (fun _ => kx I X H locs ls hw) (fun hc => ?_)
    have hi5 : i + 5 ≤ L := by rw [law_end hL hi] at hc; omega
    refine lv_aload_n hx hb dL_law_26 rfl (lv_at hl 0 rfl) ?_
    refine lv_iload_n hx hb dL_law_27 rfl (lv_at hl 3 rfl) ?_
    refine va_sld hx hb hX hbl hbA hw.2 (vp_in_nI (by omega) (by omega)) dL_law_28 ?_
    refine lv_bipush (v := (31 : Int32)) hx hb dL_law_29 (by decide) ?_
    refine lv_iand hx hb dL_law_31 ?_
    generalize xs (nI i).toNatClampNeg &&& (31 : Int32) = z
    have kk : ∀ (I : Im) (X : Xm) (H : Heap) (locs : List Loc), WD E (n, K, len) I X s.heap H locs → Rel I X → W p l e room_1 s m #[Value.ref a] below meth c H locs 600000 7302250 Q (F0 m 907 ls []) := by
      intro I X H locs hw hrel
      refine lv_iinc (v := nI (i + 5)) (lv' := [(3, .int (nI (i + 5))), (0, .ref a), (1, .ref b), (2, .ref q)]) hx hb dL_law_907 hl (k := 3) rfl (by rw [← nI_add]; rfl) (by decide) rfl (fun ls hl => ?_)
      refine lv_goto (tgt := 18) hx hb dL_law_910 (by decide) ?_
      exact ih (i + 5) hi5 (by omega) I X H locs ls hw hrel (lv_sub hl [1, 2, 3, 0] rfl)
    obtain ⟨h0, h1, h2, h3, h4, h5, h6, h7, h8, h9, h10, h11, h12, h13, h14, h15, h16, h17, h18, h19, h20, h21, h22, h23, h24, h25, h26⟩ := hst
    by_cases c0 : z = (0 : Int32)
    · refine lv_tableIn (off := 124) (tgt := 156) hx hb dL_law_32 (by rw [c0]; decide) (by rw [c0]; decide) (by rw [c0]; rfl) (by decide) ?_
      exact wl_set fl h0 C0 hX hbl hBe hi5 hL tb tq hw hrel hl kk
    by_cases c1 : z = (1 : Int32)
    · refine lv_tableIn (off := 157) (tgt := 189) hx hb dL_law_32 (by rw [c1]; decide) (by rw [c1]; decide) (by rw [c1]; rfl) (by decide) ?_
      exact wl_sound fl h1 C0 hX hbl hBe hi5 hL tb tq hw hrel hl kk
    by_cases c2 : z = (2 : Int32)
    · refine lv_tableIn (off := 200) (tgt := 232) hx hb dL_law_32 (by rw [c2]; decide) (by rw [c2]; decide) (by rw [c2]; rfl) (by decide) ?_
      exact wl_cue fl h2 C0 hX hbl hBe hi5 hL tb tq hw hrel hl kk
    by_cases c3 : z = (3 : Int32)
    · refine lv_tableIn (off := 253) (tgt := 285) hx hb dL_law_32 (by rw [c3]; decide) (by rw [c3]; decide) (by rw [c3]; rfl) (by decide) ?_
      exact wl_takeOut fl h3 C0 hX hbl hBe hi5 hL tb tq hw hrel hl kk
    by_cases c4 : z = (4 : Int32)
    · refine lv_tableIn (off := 276) (tgt := 308) hx hb dL_law_32 (by rw [c4]; decide) (by rw [c4]; decide) (by rw [c4]; rfl) (by decide) ?_
      exact wl_move fl h4 C0 hX hbl hBe hi5 hL tb tq hw hrel hl kk
    by_cases c5 : z = (5 : Int32)
    · refine lv_tableIn (off := 309) (tgt := 341) hx hb dL_law_32 (by rw [c5]; decide) (by rw [c5]; decide) (by rw [c5]; rfl) (by decide) ?_
      exact wl_goal fl h5 C0 hX hbl hBe hi5 hL tb tq hw hrel hl kk
    by_cases c6 : z = (6 : Int32)
    · refine lv_tableIn (off := 342) (tgt := 374) hx hb dL_law_32 (by rw [c6]; decide) (by rw [c6]; decide) (by rw [c6]; rfl) (by decide) ?_
      exact wl_begin fl h6 C0 hX hbl hBe hi5 hL tb tq hw hrel hl kk
    by_cases c7 : z = (7 : Int32)
    · refine lv_tableIn (off := 355) (tgt := 387) hx hb dL_law_32 (by rw [c7]; decide) (by rw [c7]; decide) (by rw [c7]; rfl) (by decide) ?_
      exact wl_pass fl h7 C0 hX hbl hBe hi5 hL tb tq hw hrel hl kk
    by_cases c8 : z = (8 : Int32)
    · refine lv_tableIn (off := 378) (tgt := 410) hx hb dL_law_32 (by rw [c8]; decide) (by rw [c8]; decide) (by rw [c8]; rfl) (by decide) ?_
      exact wl_ofCue fl h8 C0 hX hbl hBe hi5 hL tb tq hw hrel hl kk
    by_cases c9 : z = (9 : Int32)
    · refine lv_tableIn (off := 411) (tgt := 443) hx hb dL_law_32 (by rw [c9]; decide) (by rw [c9]; decide) (by rw [c9]; rfl) (by decide) ?_
      exact wl_ofReel fl h9 C0 hX hbl hBe hi5 hL tb tq hw hrel hl kk
    by_cases c10 : z = (10 : Int32)
    · refine lv_tableIn (off := 444) (tgt := 476) hx hb dL_law_32 (by rw [c10]; decide) (by rw [c10]; decide) (by rw [c10]; rfl) (by decide) ?_
      exact wl_ofSound fl h10 C0 hX hbl hBe hi5 hL tb tq hw hrel hl kk
    by_cases c11 : z = (11 : Int32)
    · refine lv_tableIn (off := 487) (tgt := 519) hx hb dL_law_32 (by rw [c11]; decide) (by rw [c11]; decide) (by rw [c11]; rfl) (by decide) ?_
      exact wl_played fl h11 C0 hX hbl hBe hi5 hL tb tq hw hrel hl kk
    by_cases c12 : z = (12 : Int32)
    · refine lv_tableIn (off := 520) (tgt := 552) hx hb dL_law_32 (by rw [c12]; decide) (by rw [c12]; decide) (by rw [c12]; rfl) (by decide) ?_
      exact wl_ofChannel fl h12 C0 hX hbl hBe hi5 hL tb tq hw hrel hl kk
    by_cases c13 : z = (13 : Int32)
    · refine lv_tableIn (off := 553) (tgt := 585) hx hb dL_law_32 (by rw [c13]; decide) (by rw [c13]; decide) (by rw [c13]; rfl) (by decide) ?_
      exact wl_loud fl h13 C0 hX hbl hBe hi5 hL tb tq hw hrel hl kk
    by_cases c14 : z = (14 : Int32)
    · refine lv_tableIn (off := 576) (tgt := 608) hx hb dL_law_32 (by rw [c14]; decide) (by rw [c14]; decide) (by rw [c14]; rfl) (by decide) ?_
      exact wl_count fl h14 C0 hX hbl hBe hi5 hL tb tq hw hrel hl kk
    by_cases c15 : z = (15 : Int32)
    · refine lv_tableIn (off := 599) (tgt := 631) hx hb dL_law_32 (by rw [c15]; decide) (by rw [c15]; decide) (by rw [c15]; rfl) (by decide) ?_
      exact wl_rest fl h15 C0 hX hbl hBe hi5 hL tb tq hw hrel hl kk
    by_cases c16 : z = (16 : Int32)
    · refine lv_tableIn (off := 622) (tgt := 654) hx hb dL_law_32 (by rw [c16]; decide) (by rw [c16]; decide) (by rw [c16]; rfl) (by decide) ?_
      exact wl_becomes fl h16 C0 hX hbl hBe hi5 hL tb tq hw hrel hl kk
    by_cases c17 : z = (17 : Int32)
    · refine lv_tableIn (off := 645) (tgt := 677) hx hb dL_law_32 (by rw [c17]; decide) (by rw [c17]; decide) (by rw [c17]; rfl) (by decide) ?_
      exact wl_leastWind fl h17 C0 hX hbl hBe hi5 hL tb tq hw hrel hl kk
    by_cases c18 : z = (18 : Int32)
    · refine lv_tableIn (off := 658) (tgt := 690) hx hb dL_law_32 (by rw [c18]; decide) (by rw [c18]; decide) (by rw [c18]; rfl) (by decide) ?_
      exact wl_ifMoved fl h18 C0 hX hbl hBe hi5 hL tb tq hw hrel hl kk
    by_cases c19 : z = (19 : Int32)
    · refine lv_tableIn (off := 691) (tgt := 723) hx hb dL_law_32 (by rw [c19]; decide) (by rw [c19]; decide) (by rw [c19]; rfl) (by decide) ?_
      exact wl_readyIn fl h19 C0 hX hbl hBe hi5 hL tb tq hw hrel hl kk
    by_cases c20 : z = (20 : Int32)
    · refine lv_tableIn (off := 724) (tgt := 756) hx hb dL_law_32 (by rw [c20]; decide) (by rw [c20]; decide) (by rw [c20]; rfl) (by decide) ?_
      exact wl_put fl h20 C0 hX hbl hBe hi5 hL tb tq hw hrel hl kk
    by_cases c21 : z = (21 : Int32)
    · refine lv_tableIn (off := 777) (tgt := 809) hx hb dL_law_32 (by rw [c21]; decide) (by rw [c21]; decide) (by rw [c21]; rfl) (by decide) ?_
      exact wl_wipe fl h21 C0 hX hbl hBe hi5 hL tb tq hw hrel hl kk
    by_cases c22 : z = (22 : Int32)
    · refine lv_tableIn (off := 790) (tgt := 822) hx hb dL_law_32 (by rw [c22]; decide) (by rw [c22]; decide) (by rw [c22]; rfl) (by decide) ?_
      exact wl_fault fl h22 C0 hX hbl hBe hi5 hL tb tq hw hrel hl kk
    by_cases c23 : z = (23 : Int32)
    · refine lv_tableIn (off := 803) (tgt := 835) hx hb dL_law_32 (by rw [c23]; decide) (by rw [c23]; decide) (by rw [c23]; rfl) (by decide) ?_
      exact wl_carryOut fl h23 C0 hX hbl hBe hi5 hL tb tq hw hrel hl kk
    by_cases c24 : z = (24 : Int32)
    · refine lv_tableIn (off := 816) (tgt := 848) hx hb dL_law_32 (by rw [c24]; decide) (by rw [c24]; decide) (by rw [c24]; rfl) (by decide) ?_
      exact wl_undo fl h24 C0 hX hbl hBe hi5 hL tb tq hw hrel hl kk
    by_cases c25 : z = (25 : Int32)
    · refine lv_tableIn (off := 829) (tgt := 861) hx hb dL_law_32 (by rw [c25]; decide) (by rw [c25]; decide) (by rw [c25]; rfl) (by decide) ?_
      exact wl_save fl h25 C0 hX hbl hBe hi5 hL tb tq hw hrel hl kk
    by_cases c26 : z = (26 : Int32)
    · refine lv_tableIn (off := 852) (tgt := 884) hx hb dL_law_32 (by rw [c26]; decide) (by rw [c26]; decide) (by rw [c26]; rfl) (by decide) ?_
      exact wl_restore fl h26 C0 hX hbl hBe hi5 hL tb tq hw hrel hl kk
    have z0 := tsw_ne _ c0 (show (0 : Int32).toInt = 0 by decide)
    have z1 := tsw_ne _ c1 (show (1 : Int32).toInt = 1 by decide)
    have z2 := tsw_ne _ c2 (show (2 : Int32).toInt = 2 by decide)
    have z3 := tsw_ne _ c3 (show (3 : Int32).toInt = 3 by decide)
    have z4 := tsw_ne _ c4 (show (4 : Int32).toInt = 4 by decide)
    have z5 := tsw_ne _ c5 (show (5 : Int32).toInt = 5 by decide)
    have z6 := tsw_ne _ c6 (show (6 : Int32).toInt = 6 by decide)
    have z7 := tsw_ne _ c7 (show (7 : Int32).toInt = 7 by decide)
    have z8 := tsw_ne _ c8 (show (8 : Int32).toInt = 8 by decide)
    have z9 := tsw_ne _ c9 (show (9 : Int32).toInt = 9 by decide)
    have z10 := tsw_ne _ c10 (show (10 : Int32).toInt = 10 by decide)
    have z11 := tsw_ne _ c11 (show (11 : Int32).toInt = 11 by decide)
    have z12 := tsw_ne _ c12 (show (12 : Int32).toInt = 12 by decide)
    have z13 := tsw_ne _ c13 (show (13 : Int32).toInt = 13 by decide)
    have z14 := tsw_ne _ c14 (show (14 : Int32).toInt = 14 by decide)
    have z15 := tsw_ne _ c15 (show (15 : Int32).toInt = 15 by decide)
    have z16 := tsw_ne _ c16 (show (16 : Int32).toInt = 16 by decide)
    have z17 := tsw_ne _ c17 (show (17 : Int32).toInt = 17 by decide)
    have z18 := tsw_ne _ c18 (show (18 : Int32).toInt = 18 by decide)
    have z19 := tsw_ne _ c19 (show (19 : Int32).toInt = 19 by decide)
    have z20 := tsw_ne _ c20 (show (20 : Int32).toInt = 20 by decide)
    have z21 := tsw_ne _ c21 (show (21 : Int32).toInt = 21 by decide)
    have z22 := tsw_ne _ c22 (show (22 : Int32).toInt = 22 by decide)
    have z23 := tsw_ne _ c23 (show (23 : Int32).toInt = 23 by decide)
    have z24 := tsw_ne _ c24 (show (24 : Int32).toInt = 24 by decide)
    have z25 := tsw_ne _ c25 (show (25 : Int32).toInt = 25 by decide)
    have z26 := tsw_ne _ c26 (show (26 : Int32).toInt = 26 by decide)
    refine lv_tableOut (tgt := 907) hx hb dL_law_32 (by omega) (by decide) ?_
    exact kk I X H locs hw hrel
def layFull : List (Nat × Nat) := layAll ++ layModel
theorem LY.left {K len : Nat → Nat} {a : Nat} {L1 L2 : List (Nat × Nat)} (h : LY K len a (L1 ++ L2)) : LY K len a L1 := by
  intro i hi
  have := h i (by rw [List.length_append]; omega)
  rwa [List.getD_eq_getElem?_getD, List.getElem?_append_left hi, ← List.getD_eq_getElem?_getD] at this
theorem LY.right {K len : Nat → Nat} {a n : Nat} {L1 L2 : List (Nat × Nat)} (h : LY K len a (L1 ++ L2)) (hn : L1.length = n) : LY K len (a + n) L2 := by
  intro i hi
  have := h (n + i) (by rw [List.length_append]; omega)
  rwa [List.getD_eq_getElem?_getD, List.getElem?_append_right (by omega), ← List.getD_eq_getElem?_getD, hn, Nat.add_sub_cancel_left, ← Nat.add_assoc] at this
theorem layPlay_len : layPlay.length = 72 := rfl
theorem layAll_len : layAll.length = 799 := by
  unfold layAll
  simp only [List.length_append, layPlay_len]
  rfl
def im0 : Im := (fun _ _ => 0, fun _ _ => 0)
def xm0 : Xm := (fun _ _ => none, fun _ _ => none)
def lawI (b : Nat) : Im := moI (b + 799) (rcI b im0)
def lawX (b : Nat) : Xm := moX (b + 799) (rcX b xm0)
theorem LY_self (L : List (Nat × Nat)) (a : Nat) : LY (fun x => (L.getD (x - a) (99, 0)).1) (fun x => (L.getD (x - a) (99, 0)).2) a L := by
  intro i hi
  constructor <;> simp only [Nat.add_sub_cancel_left]
theorem ZI_rcI {b t : Nat} {I : Im} (h : ZI t I) (ht : b + 799 ≤ t) : ZI t (rcI b I) :=
  ZI_lpI (fun _ _ hc h => ZI_playI h (by omega)) (ZI_lpI (fun _ _ hc h => ZI_playI h (by omega)) (ZI_playI (ZI_playI h (by omega)) (by omega)) 7 (by omega)) 2 (by omega)
theorem ZX_rcX {b t : Nat} {X : Xm} (h : ZX t X) (ht : b + 799 ≤ t) : ZX t (rcX b X) := by
  have h0 : ZX t (rcX0 b X) := by
    have hb : b < t := by omega
    exact (ZX_padX ((((((ZX_playX ((ZX_playX h (by omega)).pR hb) (by omega)).pR hb).pR hb).pR hb).pR hb)) (by omega)).pR hb
  exact ZX_lpX (fun _ _ hc h => ZX_playX h hc) (ZX_lpX (fun _ _ hc h => ZX_playX h hc) h0 (by omega) 7 (by omega)) (by omega) 2 (by omega)
set_option maxHeartbeats 4000000 in
set_option maxRecDepth 100000 in
theorem law_walk {p : Program} {e : Env} {s : State} {m : MethodId} {below : List Frame} {meth : Method} {c : Code} (l : Launch) {a L : Nat} {xs : Nat → Int32} (hL : L ≤ 2560) (At : lw_At p s m meth c a L xs) (fl : Nat) {Rel : Im → Xm → Prop}
    (hst : ∀ K len : Nat → Nat, LY K len s.heap.size layFull → Steps fl len s.heap.size (s.heap.size + 799) Rel) (h0 : Rel (lawI s.heap.size) (lawX s.heap.size)) : W p l e room_1 s m #[Value.ref a] below meth c s.heap [] 0 0 (lw_Z below #[Value.ref a] s) (entryFrame m ([Value.ref a] : List Value).toArray 4) := by
  obtain ⟨hx, hb, hr, hml, hown, hts, hX, hbl, hlocks, hgv⟩ := id At
  obtain ⟨E, hBe, hSE⟩ := start_SE hts hgv
  have C0 : CX p s m #[Value.ref a] meth c E cL_law RL 4 := ⟨hx, hb, hml, hown, fun w hw => hts w (gt_tbl hw), hlocks, hSE⟩
  have hts := C0.2.2.2.2.1
  obtain ⟨bb, ebb⟩ : ∃ y : Nat, y = s.heap.size := ⟨_, rfl⟩
  obtain ⟨K, eK⟩ : ∃ y : Nat → Nat, y = fun x => (layFull.getD (x - bb) (99, 0)).1 := ⟨_, rfl⟩
  obtain ⟨len, eL⟩ : ∃ y : Nat → Nat, y = fun x => (layFull.getD (x - bb) (99, 0)).2 := ⟨_, rfl⟩
  have hLY : LY K len bb layFull := by rw [eK, eL]; exact LY_self _ _
  have hLYa : LY K len bb layAll := LY.left hLY
  have hLYm : LY K len (bb + 799) layModel := LY.right hLY layAll_len
  have hst := hst K len (by rw [← ebb]; exact hLY)
  rw [← ebb] at hst h0
  have hs : s.heap.size = eB E + 0 := by omega
  have hB : eB E ≤ s.heap.size := by omega
  have hw : WD E (0, K, len) im0 xm0 s.heap s.heap [] := by
    refine ⟨⟨?_, hs, ?_, ?_⟩, va_S.rf⟩
    · intro k q hk
      exact absurd (List.getElem?_eq_some_iff.mp hk).1 (by rw [wpl_len]; exact Nat.not_lt_zero k)
    · intro f x y h; exact absurd h (by simp [gR, xm0])
    · intro f x y h; exact absurd h (by simp [gQ, xm0])
  have hZI : ZI bb im0 := fun _ _ => ⟨fun _ => rfl, fun _ => rfl⟩
  have hZX : ZX bb xm0 := fun _ _ => ⟨fun _ => rfl, fun _ => rfl⟩
  have hK8 : K bb = 8 := (hLYa 0 (by rw [layAll_len]; omega)).1
  have hK9 : K (bb + 799) = 9 := (hLYm 0 (by decide)).1
  have hl := lv_entry ([.ref a]) (n := 4) (Nat.le_of_ble_eq_true rfl)
  rw [lg_entry_eq]
  generalize (lg_sl ([.ref a]) ++ List.replicate (4 - (lg_sl ([.ref a])).length) Slot.unset).toArray = ls at hl ⊢
  have hl : lv_has ls 4 [(0, .ref a)] := hl
  refine x_new C0 (n := 0) (q := bb) hs hB hw (by omega) hZI hZX 8 (by decide) rfl inG8 tyX8 tyX8_ok (by decide) hK8 wd744 wd745 (wd197) (Nat.le_of_ble_eq_true rfl) (Nat.le_of_ble_eq_true rfl) dL_law_0 (fun H locs hw => ?_)
  refine lv_dup hx hb dL_law_3 rfl ?_
  refine x_cv (I1 := rcI bb im0) (X1 := rcX bb xm0) (x_runI (As := []) (rest := [.ref bb]) C0 (c8_init l E (0 + 1) K len im0 xm0 bb (okq (by omega) (by omega) hK8) (by omega) (hZI.mono (by omega)) (hZX.mono (by omega)) hLYa) hw wd78 wd749 wd750 (wd197) rfl ⟨rfl, rfl⟩ hyc8 ⟨Nat.le_of_ble_eq_true rfl, Nat.le_of_ble_eq_true rfl⟩ rfl hl.1 (Nat.le_of_ble_eq_true rfl) ⟨Nat.le_of_ble_eq_true rfl, Nat.le_of_ble_eq_true rfl⟩ dL_law_4) hw (fun H locs hw => ?_)
  refine lv_astore_n (lv' := [(1, .ref bb), (0, .ref a)]) hx hb dL_law_7 rfl hl (by decide) rfl (fun ls hl => ?_)
  have hZI1 : ZI (bb + 799) (rcI bb im0) := ZI_rcI (hZI.mono (by omega)) (by omega)
  have hZX1 : ZX (bb + 799) (rcX bb xm0) := ZX_rcX (hZX.mono (by omega)) (by omega)
  refine x_new C0 (n := 0 + 1 + 798) (q := bb + 799) (show s.heap.size + 799 = eB E + (0 + 1 + 798) by omega) hB hw (by omega) hZI1 hZX1 9 (by decide) rfl inG9 tyX9 tyX9_ok (by decide) hK9 wd746 wd747 (wd612) (Nat.le_of_ble_eq_true rfl) (Nat.le_of_ble_eq_true rfl) dL_law_8 (fun H locs hw => ?_)
  refine lv_dup hx hb dL_law_11 rfl ?_
  refine x_cv (I1 := lawI bb) (X1 := lawX bb) (x_runI (As := []) (rest := [.ref (bb + 799)]) C0 (c9_init l E (0 + 1 + 798 + 1) K len (rcI bb im0) (rcX bb xm0) (bb + 799) (okq (by omega) (by omega) hK9) (by omega) (hZI1.mono (by omega)) (hZX1.mono (by omega)) hLYm) hw wd112 wd751 wd752 (wd612) rfl ⟨rfl, rfl⟩ hyc9 ⟨Nat.le_of_ble_eq_true rfl, Nat.le_of_ble_eq_true rfl⟩ rfl hl.1 (Nat.le_of_ble_eq_true rfl) ⟨Nat.le_of_ble_eq_true rfl, Nat.le_of_ble_eq_true rfl⟩ dL_law_12) hw (fun H locs hw => ?_)
  refine lv_astore_n (lv' := [(2, .ref (bb + 799)), (1, .ref bb), (0, .ref a)]) hx hb dL_law_15 rfl hl (by decide) rfl (fun ls hl => ?_)
  refine lv_iconst (v := (0 : Int32)) hx hb dL_law_16 (by decide) ?_
  refine lv_istore_n (lv' := [(3, .int (0 : Int32)), (2, .ref (bb + 799)), (1, .ref bb), (0, .ref a)]) hx hb dL_law_17 rfl hl (by decide) rfl (fun ls hl => ?_)
  refine W.widen (k := 600000) (n := 7302250) (Nat.le_of_ble_eq_true rfl) (Nat.le_of_ble_eq_true rfl) ?_
  refine law_loop fl hst C0 hX hbl hBe hL (okq (by omega) (by omega) hK8) (okq (by omega) (by omega) hK9) (fun I X H locs ls hw => ?_) (L + 1) 0 (Nat.zero_le L) (by omega) (lawI bb) (lawX bb) H locs ls hw h0 (lv_sub hl [3, 2, 1, 0] rfl)
  refine lv_iconst (v := (1 : Int32)) hx hb dL_law_913 (by decide) ?_
  refine va_forget (fun q hq => by have := hw.2.2.2 q hq; have h9 : eB E ≤ q.base := this; omega) ?_
  exact lw_ret hx hb hr hlocks dL_law_914
