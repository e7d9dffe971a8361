/-! ===== the law: its walk from the entry ===== -/
def ltI (b : Nat) : Im := pA (pA (pA (pA (lawI b) (b + 799) 0 4) (b + 799) 1 2) (b + 799) 2 10) (b + 799) 3 150
set_option maxHeartbeats 4000000 in
set_option maxRecDepth 100000 in
theorem law_walk {p : Program} {e : Env} {s : State} {m : MethodId} {below : List Frame} {meth : Method} {c : Code} (l : Launch) {a L : Nat} {xs : Nat → Int32} (hL : L ≤ 260) (At : lw_At p s m meth c a L xs) (fl : Nat)
    (hm : ∀ (b : Nat) (sc : Int32 → Int32) (K len : Nat → Nat), LY K len b layFull → ∃ (I' : Im) (X' : Xm), m9_law_82 fl len sc (b + 808) fl (ltI b) (lawX b) 808 (b + 808) b (b + 799) (b + 800) (b + 801) (b + 802) (b + 803) (b + 804) (b + 805) (b + 806) (b + 807) 0 = some (1, I', X')) : W p l e room_1 s m #[Value.ref a] below meth c s.heap [] 0 0 (lw_Z below #[Value.ref a] s) (entryFrame m ([Value.ref a] : List Value).toArray 19) := by
  obtain ⟨hx, hb, hr, hml, hown, hts, hX, hbl, hlocks, hgv⟩ := id At
  obtain ⟨E, hBe, hES, hEX, hSE⟩ := start_SE hts hgv hX
  have ea : (eS E).1 = a := by rw [hES]
  have C0 : CX p s m #[Value.ref a] meth c E cL_law RL 19 := ⟨hx, hb, hml, hown, fun w hw => hts w (gt_tbl hw), hlocks, hSE⟩
  have hts := C0.2.2.2.2.1
  obtain ⟨bb, ebb⟩ : ∃ y : Nat, y = s.heap.size := ⟨_, rfl⟩
  obtain ⟨K, eK⟩ : ∃ y : Nat → Nat, y = fun x => (layFull.getD (x - bb) (99, 0)).1 := ⟨_, rfl⟩
  obtain ⟨len, eL⟩ : ∃ y : Nat → Nat, y = fun x => (layFull.getD (x - bb) (99, 0)).2 := ⟨_, rfl⟩
  have hLY : LY K len bb layFull := by rw [eK, eL]; exact LY_self _ _
  have hLYa : LY K len bb layAll := LY.left hLY
  have hKr := layLawK hLY
  have hLr := LL.of hLY
  obtain ⟨l0, l1, l2, l3, l4, l5, l6, l7, l8⟩ := id hLr
  have hs : s.heap.size = eB E + 0 := by omega
  have hB : eB E ≤ s.heap.size := by omega
  have hw : WD E (0, K, len) im0 xm0 s.heap s.heap [] := by
    refine ⟨⟨?_, hs, ?_, ?_⟩, va_S.rf⟩
    · intro k q hk
      exact absurd (List.getElem?_eq_some_iff.mp hk).1 (by rw [wpl_len]; exact Nat.not_lt_zero k)
    · intro f x y h; exact absurd h (by simp [gR, xm0])
    · intro f x y h; exact absurd h (by simp [gQ, xm0])
  have hZI : ZI bb im0 := fun _ _ => ⟨fun _ => rfl, fun _ => rfl⟩
  have hZX : ZX bb xm0 := fun _ _ => ⟨fun _ => rfl, fun _ => rfl⟩
  have hK8 : K bb = 8 := (hLYa 0 (by rw [layAll_len]; omega)).1
  have hl := lv_entry ([.ref a]) (n := 19) (Nat.le_of_ble_eq_true rfl)
  rw [lg_entry_eq]
  generalize (lg_sl ([.ref a]) ++ List.replicate (19 - (lg_sl ([.ref a])).length) Slot.unset).toArray = ls at hl ⊢
  have hl : lv_has ls 19 [(0, .ref a)] := hl
  refine x_new C0 (n := 0) (q := bb) hs hB hw (by omega) hZI hZX 8 (by decide) rfl inG8 tyX8 tyX8_ok (by decide) hK8 wd477 wd478 (wd107) (Nat.le_of_ble_eq_true rfl) (Nat.le_of_ble_eq_true rfl) dL_law_0 (fun H locs hw => ?_)
  refine lv_dup hx hb dL_law_3 rfl ?_
  refine x_cv (I1 := lawI bb) (X1 := lawX bb) (x_runI (As := []) (rest := [.ref bb]) C0 (c8_init l E (0 + 1) K len im0 xm0 bb (okq (by omega) (by omega) hK8) (by omega) (hZI.mono (by omega)) (hZX.mono (by omega)) hLYa) hw wd56 wd480 wd481 (wd107) rfl ⟨rfl, rfl⟩ hyc8 ⟨Nat.le_of_ble_eq_true rfl, Nat.le_of_ble_eq_true rfl⟩ rfl hl.1 (Nat.le_of_ble_eq_true rfl) ⟨Nat.le_of_ble_eq_true rfl, Nat.le_of_ble_eq_true rfl⟩ dL_law_4) hw (fun H locs hw => ?_)
  refine lv_astore_n (lv' := [(1, .ref bb), (0, .ref a)]) hx hb dL_law_7 rfl hl (by decide) rfl (fun ls hl => ?_)
  have hZ : ∀ i, ZI (bb + 799 + i) (lawI bb) := fun i => ZI_rcI (hZI.mono (by omega)) (by omega)
  refine lv_bipush (v := (8 : Int32)) hx hb dL_law_8 (by decide) ?_
  refine x_newI C0 (n := 0 + 1 + 798) (q := bb + 799) (show s.heap.size + 799 = eB E + (0 + 1 + 798) by omega) hB hw (by omega) (hZ 0) 11 (by decide) (by decide) (ty := .int) (atype := .int) rfl (fun cA => rfl) rfl rfl (wd115) (N := 8) (by decide) (by decide) (by decide) (hKr 0 (by decide)) l0 (Nat.le_of_ble_eq_true rfl) (Nat.le_of_ble_eq_true rfl) dL_law_10 (fun H locs hw => ?_)
  refine lv_astore_n (lv' := [(2, .ref (bb + 799)), (1, .ref bb), (0, .ref a)]) hx hb dL_law_12 rfl hl (by decide) rfl (fun ls hl => ?_)
  refine lv_bipush (v := (25 : Int32)) hx hb dL_law_13 (by decide) ?_
  refine x_newI C0 (n := 0 + 1 + 798 + 1) (q := bb + 799 + 1) (show s.heap.size + 800 = eB E + (0 + 1 + 798 + 1) by omega) hB hw (by omega) (hZ 1) 11 (by decide) (by decide) (ty := .int) (atype := .int) rfl (fun cA => rfl) rfl rfl (wd115) (N := 25) (by decide) (by decide) (by decide) (hKr 1 (by decide)) l1 (Nat.le_of_ble_eq_true rfl) (Nat.le_of_ble_eq_true rfl) dL_law_15 (fun H locs hw => ?_)
  refine lv_astore_n (lv' := [(3, .ref (bb + 799 + 1)), (2, .ref (bb + 799)), (1, .ref bb), (0, .ref a)]) hx hb dL_law_17 rfl hl (by decide) rfl (fun ls hl => ?_)
  refine lv_bipush (v := (25 : Int32)) hx hb dL_law_18 (by decide) ?_
  refine x_newI C0 (n := 0 + 1 + 798 + 1 + 1) (q := bb + 799 + 2) (show s.heap.size + 801 = eB E + (0 + 1 + 798 + 1 + 1) by omega) hB hw (by omega) (hZ 2) 11 (by decide) (by decide) (ty := .int) (atype := .int) rfl (fun cA => rfl) rfl rfl (wd115) (N := 25) (by decide) (by decide) (by decide) (hKr 2 (by decide)) l2 (Nat.le_of_ble_eq_true rfl) (Nat.le_of_ble_eq_true rfl) dL_law_20 (fun H locs hw => ?_)
  refine lv_astore (lv' := [(4, .ref (bb + 799 + 2)), (3, .ref (bb + 799 + 1)), (2, .ref (bb + 799)), (1, .ref bb), (0, .ref a)]) hx hb dL_law_22 hl (by decide) rfl (fun ls hl => ?_)
  refine lv_bipush (v := (16 : Int32)) hx hb dL_law_24 (by decide) ?_
  refine x_newI C0 (n := 0 + 1 + 798 + 1 + 1 + 1) (q := bb + 799 + 3) (show s.heap.size + 802 = eB E + (0 + 1 + 798 + 1 + 1 + 1) by omega) hB hw (by omega) (hZ 3) 11 (by decide) (by decide) (ty := .int) (atype := .int) rfl (fun cA => rfl) rfl rfl (wd115) (N := 16) (by decide) (by decide) (by decide) (hKr 3 (by decide)) l3 (Nat.le_of_ble_eq_true rfl) (Nat.le_of_ble_eq_true rfl) dL_law_26 (fun H locs hw => ?_)
  refine lv_astore (lv' := [(5, .ref (bb + 799 + 3)), (4, .ref (bb + 799 + 2)), (3, .ref (bb + 799 + 1)), (2, .ref (bb + 799)), (1, .ref bb), (0, .ref a)]) hx hb dL_law_28 hl (by decide) rfl (fun ls hl => ?_)
  refine lv_bipush (v := (24 : Int32)) hx hb dL_law_30 (by decide) ?_
  refine x_newI C0 (n := 0 + 1 + 798 + 1 + 1 + 1 + 1) (q := bb + 799 + 4) (show s.heap.size + 803 = eB E + (0 + 1 + 798 + 1 + 1 + 1 + 1) by omega) hB hw (by omega) (hZ 4) 11 (by decide) (by decide) (ty := .int) (atype := .int) rfl (fun cA => rfl) rfl rfl (wd115) (N := 24) (by decide) (by decide) (by decide) (hKr 4 (by decide)) l4 (Nat.le_of_ble_eq_true rfl) (Nat.le_of_ble_eq_true rfl) dL_law_32 (fun H locs hw => ?_)
  refine lv_astore (lv' := [(6, .ref (bb + 799 + 4)), (5, .ref (bb + 799 + 3)), (4, .ref (bb + 799 + 2)), (3, .ref (bb + 799 + 1)), (2, .ref (bb + 799)), (1, .ref bb), (0, .ref a)]) hx hb dL_law_34 hl (by decide) rfl (fun ls hl => ?_)
  refine lv_bipush (v := (8 : Int32)) hx hb dL_law_36 (by decide) ?_
  refine x_newI C0 (n := 0 + 1 + 798 + 1 + 1 + 1 + 1 + 1) (q := bb + 799 + 5) (show s.heap.size + 804 = eB E + (0 + 1 + 798 + 1 + 1 + 1 + 1 + 1) by omega) hB hw (by omega) (hZ 5) 11 (by decide) (by decide) (ty := .int) (atype := .int) rfl (fun cA => rfl) rfl rfl (wd115) (N := 8) (by decide) (by decide) (by decide) (hKr 5 (by decide)) l5 (Nat.le_of_ble_eq_true rfl) (Nat.le_of_ble_eq_true rfl) dL_law_38 (fun H locs hw => ?_)
  refine lv_astore (lv' := [(7, .ref (bb + 799 + 5)), (6, .ref (bb + 799 + 4)), (5, .ref (bb + 799 + 3)), (4, .ref (bb + 799 + 2)), (3, .ref (bb + 799 + 1)), (2, .ref (bb + 799)), (1, .ref bb), (0, .ref a)]) hx hb dL_law_40 hl (by decide) rfl (fun ls hl => ?_)
  refine lv_bipush (v := (25 : Int32)) hx hb dL_law_42 (by decide) ?_
  refine x_newI C0 (n := 0 + 1 + 798 + 1 + 1 + 1 + 1 + 1 + 1) (q := bb + 799 + 6) (show s.heap.size + 805 = eB E + (0 + 1 + 798 + 1 + 1 + 1 + 1 + 1 + 1) by omega) hB hw (by omega) (hZ 6) 11 (by decide) (by decide) (ty := .int) (atype := .int) rfl (fun cA => rfl) rfl rfl (wd115) (N := 25) (by decide) (by decide) (by decide) (hKr 6 (by decide)) l6 (Nat.le_of_ble_eq_true rfl) (Nat.le_of_ble_eq_true rfl) dL_law_44 (fun H locs hw => ?_)
  refine lv_astore (lv' := [(8, .ref (bb + 799 + 6)), (7, .ref (bb + 799 + 5)), (6, .ref (bb + 799 + 4)), (5, .ref (bb + 799 + 3)), (4, .ref (bb + 799 + 2)), (3, .ref (bb + 799 + 1)), (2, .ref (bb + 799)), (1, .ref bb), (0, .ref a)]) hx hb dL_law_46 hl (by decide) rfl (fun ls hl => ?_)
  refine lv_bipush (v := (25 : Int32)) hx hb dL_law_48 (by decide) ?_
  refine x_newI C0 (n := 0 + 1 + 798 + 1 + 1 + 1 + 1 + 1 + 1 + 1) (q := bb + 799 + 7) (show s.heap.size + 806 = eB E + (0 + 1 + 798 + 1 + 1 + 1 + 1 + 1 + 1 + 1) by omega) hB hw (by omega) (hZ 7) 11 (by decide) (by decide) (ty := .int) (atype := .int) rfl (fun cA => rfl) rfl rfl (wd115) (N := 25) (by decide) (by decide) (by decide) (hKr 7 (by decide)) l7 (Nat.le_of_ble_eq_true rfl) (Nat.le_of_ble_eq_true rfl) dL_law_50 (fun H locs hw => ?_)
  refine lv_astore (lv' := [(9, .ref (bb + 799 + 7)), (8, .ref (bb + 799 + 6)), (7, .ref (bb + 799 + 5)), (6, .ref (bb + 799 + 4)), (5, .ref (bb + 799 + 3)), (4, .ref (bb + 799 + 2)), (3, .ref (bb + 799 + 1)), (2, .ref (bb + 799)), (1, .ref bb), (0, .ref a)]) hx hb dL_law_52 hl (by decide) rfl (fun ls hl => ?_)
  refine lv_bipush (v := (64 : Int32)) hx hb dL_law_54 (by decide) ?_
  refine x_newI C0 (n := 0 + 1 + 798 + 1 + 1 + 1 + 1 + 1 + 1 + 1 + 1) (q := bb + 799 + 8) (show s.heap.size + 807 = eB E + (0 + 1 + 798 + 1 + 1 + 1 + 1 + 1 + 1 + 1 + 1) by omega) hB hw (by omega) (hZ 8) 11 (by decide) (by decide) (ty := .int) (atype := .int) rfl (fun cA => rfl) rfl rfl (wd115) (N := 64) (by decide) (by decide) (by decide) (hKr 8 (by decide)) l8 (Nat.le_of_ble_eq_true rfl) (Nat.le_of_ble_eq_true rfl) dL_law_56 (fun H locs hw => ?_)
  refine lv_astore (lv' := [(10, .ref (bb + 799 + 8)), (9, .ref (bb + 799 + 7)), (8, .ref (bb + 799 + 6)), (7, .ref (bb + 799 + 5)), (6, .ref (bb + 799 + 4)), (5, .ref (bb + 799 + 3)), (4, .ref (bb + 799 + 2)), (3, .ref (bb + 799 + 1)), (2, .ref (bb + 799)), (1, .ref bb), (0, .ref a)]) hx hb dL_law_58 hl (by decide) rfl (fun ls hl => ?_)
  have t2 : okA E (0 + 1 + 798 + 1 + 1 + 1 + 1 + 1 + 1 + 1 + 1 + 1, K, len) 11 (bb + 799) := okq (by omega) (by omega) (hKr 0 (by decide))
  refine lv_aload_n hx hb dL_law_60 rfl (lv_at hl 8 rfl) ?_
  refine lv_iconst (v := (0 : Int32)) hx hb dL_law_61 (by decide) ?_
  refine lv_iconst (v := (4 : Int32)) hx hb dL_law_62 (by decide) ?_
  refine x_iast (I1 := (pA (lawI bb) (bb + 799) 0 4)) C0 (show s.heap.size + 808 ≤ eB E + 808 by omega) hw t2 (by show inb _ (len (bb + 799)) = true; rw [l0]; decide) dL_law_63 rfl (fun H locs hw => ?_)
  refine lv_aload_n hx hb dL_law_64 rfl (lv_at hl 8 rfl) ?_
  refine lv_iconst (v := (1 : Int32)) hx hb dL_law_65 (by decide) ?_
  refine lv_iconst (v := (2 : Int32)) hx hb dL_law_66 (by decide) ?_
  refine x_iast (I1 := (pA (pA (lawI bb) (bb + 799) 0 4) (bb + 799) 1 2)) C0 (show s.heap.size + 808 ≤ eB E + 808 by omega) hw t2 (by show inb _ (len (bb + 799)) = true; rw [l0]; decide) dL_law_67 rfl (fun H locs hw => ?_)
  refine lv_aload_n hx hb dL_law_68 rfl (lv_at hl 8 rfl) ?_
  refine lv_iconst (v := (2 : Int32)) hx hb dL_law_69 (by decide) ?_
  refine lv_bipush (v := (10 : Int32)) hx hb dL_law_70 (by decide) ?_
  refine x_iast (I1 := (pA (pA (pA (lawI bb) (bb + 799) 0 4) (bb + 799) 1 2) (bb + 799) 2 10)) C0 (show s.heap.size + 808 ≤ eB E + 808 by omega) hw t2 (by show inb _ (len (bb + 799)) = true; rw [l0]; decide) dL_law_72 rfl (fun H locs hw => ?_)
  refine lv_aload_n hx hb dL_law_73 rfl (lv_at hl 8 rfl) ?_
  refine lv_iconst (v := (3 : Int32)) hx hb dL_law_74 (by decide) ?_
  refine lv_sipush (v := (150 : Int32)) hx hb dL_law_75 (by decide) ?_
  refine x_iast (I1 := (pA (pA (pA (pA (lawI bb) (bb + 799) 0 4) (bb + 799) 1 2) (bb + 799) 2 10) (bb + 799) 3 150)) C0 (show s.heap.size + 808 ≤ eB E + 808 by omega) hw t2 (by show inb _ (len (bb + 799)) = true; rw [l0]; decide) dL_law_78 rfl (fun H locs hw => ?_)
  refine lv_iconst (v := (0 : Int32)) hx hb dL_law_79 (by decide) ?_
  refine lv_istore (lv' := [(11, .int (0 : Int32)), (10, .ref (bb + 799 + 8)), (9, .ref (bb + 799 + 7)), (8, .ref (bb + 799 + 6)), (7, .ref (bb + 799 + 5)), (6, .ref (bb + 799 + 4)), (5, .ref (bb + 799 + 3)), (4, .ref (bb + 799 + 2)), (3, .ref (bb + 799 + 1)), (2, .ref (bb + 799)), (1, .ref bb), (0, .ref a)]) hx hb dL_law_80 hl (by decide) rfl (fun ls hl => ?_)
  refine W.widen (k := 808) (n := 20000 + 4 * 808) (Nat.le_of_ble_eq_true rfl) (Nat.le_of_ble_eq_true rfl) ?_
  obtain ⟨I', X', hm⟩ := hm bb (cellF (eS E).2 (eXs E)) K len hLY
  have hK : ∀ i, i < 9 → okA E (808, K, len) 11 (bb + 799 + i) := fun i hi => okq (by omega) (by omega) (hKr i hi)
  refine w9_law_82 C0 hr (by omega) rfl (by rw [hES]; exact hL) (show bb + 808 = eB E + 808 by omega) (layMany hLY) (rr := (1, I', X')) rfl (fun zn I X H locs ls hzb hw => ?_) fl fl (ltI bb) (lawX bb) 808 (bb + 808) H locs ls bb (bb + 799) (bb + 800) (bb + 801) (bb + 802) (bb + 803) (bb + 804) (bb + 805) (bb + 806) (bb + 807) 0 (okq (by omega) (by omega) hK8) (hK 0 (by decide)) (hK 1 (by decide)) (hK 2 (by decide)) (hK 3 (by decide)) (hK 4 (by decide)) (hK 5 (by decide)) (hK 6 (by decide)) (hK 7 (by decide)) (hK 8 (by decide)) (by omega) (by omega) hw (by rw [ea]; exact lv_sub hl [11, 10, 9, 8, 7, 6, 5, 4, 3, 2, 1, 0] rfl) hm
  refine va_forget (fun q hq => by have := hw.2.2.2 q hq; have h9 : eB E ≤ q.base := this; omega) ?_
  refine W.widen (k := 600000) (n := 7302250) (by omega) (by omega) ?_
  exact lw_ret hx hb hr hlocks dL_law_460
