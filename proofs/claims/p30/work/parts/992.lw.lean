/-! ===== the law: its walk behind the making ===== -/
noncomputable def m9_law_458 (fl : Nat) (len : Nat → Nat) (sc : Int32 → Int32) (qlo : Nat) (I : Im) (X : Xm) (zn : Nat) (zq : Nat) (zx11 : Int32) : Option (Int32 × Im × Xm) :=
  some (zx11, I, X)
set_option maxHeartbeats 4000000 in
set_option maxRecDepth 100000 in
theorem w9_law_458 {p : Program} {l : Launch} {e : Env} {s : State} {m : MethodId} {args : Array Value} {below : List Frame} {meth : Method} {c : Code} {E : EN} {K len : Nat → Nat} {sc : Int32 → Int32} {qlo : Nat} {Q : State → Prop} {rr : Int32 × Im × Xm} (C0 : CX p s m args meth c E cL_law RL 19) (hr : meth.sig.returnType = ret) (hs : s.heap.size = eB E) (hsc : sc = cellF (eS E).2 (eXs E)) (hLe : (eS E).2 ≤ 260) (hql : qlo = eB E + 808) (hqK : ∀ x, qlo ≤ x → x < qlo + 60 → K x = 11 ∧ len x = 4) (hrr : rr.1 = 1) (hend : ∀ (zn : Nat) (I : Im) (X : Xm) (H : Heap) (locs : List Loc) (ls : Array Slot), zn ≤ 2000 → WD E (zn, K, len) I X s.heap H locs → W p l e room_1 s m args below meth c H locs zn (20000 + 4 * zn) Q (F0 m 460 ls [.int 1])) (fl : Nat) : ∀ (I : Im) (X : Xm) (zn : Nat) (zq : Nat) (H : Heap) (locs : List Loc) (ls : Array Slot) (zx11 : Int32) , zq = eB E + zn → zn ≤ 2000 → WD E (zn, K, len) I X s.heap H locs → lv_has ls 19 [(11, .int zx11)] → m9_law_458 fl len sc qlo I X zn zq zx11 = some rr → W p l e room_1 s m args below meth c H locs zn (20000 + 4 * zn) Q (F0 m 458 ls []) := by
  intro I X zn zq H locs ls zx11 ezq hzb hw hl hf
  have hz : s.heap.size + zn ≤ eB E + zn := by omega
  unfold m9_law_458 at hf
  have hx := C0.1; have hb := C0.2.1; have hml := C0.2.2.1; have hown := C0.2.2.2.1; have hts := C0.2.2.2.2.1
  refine lv_iload hx hb dL_law_458 (lv_at hl 0 rfl) ?_
  obtain rfl := Option.some.inj hf
  have hv1 : zx11 = 1 := hrr
  rw [hv1]
  exact hend _ _ _ H locs ls hzb hw
noncomputable def m9_law_450 (fl : Nat) (len : Nat → Nat) (sc : Int32 → Int32) (qlo : Nat) (zr162 : Im → Xm → Nat → Nat → Nat → Nat → Nat → Nat → Nat → Nat → Nat → Nat → Nat → Nat → Int32 → Int32 → Option (Int32 × Im × Xm)) (I : Im) (X : Xm) (zn : Nat) (zq : Nat) (zx1 : Nat) (zx2 : Nat) (zx3 : Nat) (zx4 : Nat) (zx5 : Nat) (zx6 : Nat) (zx7 : Nat) (zx8 : Nat) (zx9 : Nat) (zx10 : Nat) (zx12 : Int32) (zs0 : Int32) : Option (Int32 × Im × Xm) :=
  lt (zx12 + 1) fun zv1 =>
  zr162 I X zn zq zx1 zx2 zx3 zx4 zx5 zx6 zx7 zx8 zx9 zx10 zs0 zv1
set_option maxHeartbeats 4000000 in
set_option maxRecDepth 100000 in
theorem w9_law_450 {p : Program} {l : Launch} {e : Env} {s : State} {m : MethodId} {args : Array Value} {below : List Frame} {meth : Method} {c : Code} {E : EN} {K len : Nat → Nat} {sc : Int32 → Int32} {qlo : Nat} {Q : State → Prop} {rr : Int32 × Im × Xm} (C0 : CX p s m args meth c E cL_law RL 19) (hr : meth.sig.returnType = ret) (hs : s.heap.size = eB E) (hsc : sc = cellF (eS E).2 (eXs E)) (hLe : (eS E).2 ≤ 260) (hql : qlo = eB E + 808) (hqK : ∀ x, qlo ≤ x → x < qlo + 60 → K x = 11 ∧ len x = 4) (hrr : rr.1 = 1) (hend : ∀ (zn : Nat) (I : Im) (X : Xm) (H : Heap) (locs : List Loc) (ls : Array Slot), zn ≤ 2000 → WD E (zn, K, len) I X s.heap H locs → W p l e room_1 s m args below meth c H locs zn (20000 + 4 * zn) Q (F0 m 460 ls [.int 1])) (fl : Nat) (zr162 : Im → Xm → Nat → Nat → Nat → Nat → Nat → Nat → Nat → Nat → Nat → Nat → Nat → Nat → Int32 → Int32 → Option (Int32 × Im × Xm)) (zhr162 : ∀ (I : Im) (X : Xm) (zn : Nat) (zq : Nat) (H : Heap) (locs : List Loc) (ls : Array Slot) (zx1 : Nat) (zx2 : Nat) (zx3 : Nat) (zx4 : Nat) (zx5 : Nat) (zx6 : Nat) (zx7 : Nat) (zx8 : Nat) (zx9 : Nat) (zx10 : Nat) (zx11 : Int32) (zx12 : Int32) (zt1 : okA E (zn, K, len) 8 zx1) (zt2 : okA E (zn, K, len) 11 zx2) (zt3 : okA E (zn, K, len) 11 zx3) (zt4 : okA E (zn, K, len) 11 zx4) (zt5 : okA E (zn, K, len) 11 zx5) (zt6 : okA E (zn, K, len) 11 zx6) (zt7 : okA E (zn, K, len) 11 zx7) (zt8 : okA E (zn, K, len) 11 zx8) (zt9 : okA E (zn, K, len) 11 zx9) (zt10 : okA E (zn, K, len) 11 zx10), zq = eB E + zn → zn ≤ 2000 → WD E (zn, K, len) I X s.heap H locs → lv_has ls 19 [(0, .ref (eS E).1), (1, .ref zx1), (2, .ref zx2), (3, .ref zx3), (4, .ref zx4), (5, .ref zx5), (6, .ref zx6), (7, .ref zx7), (8, .ref zx8), (9, .ref zx9), (10, .ref zx10), (11, .int zx11), (12, .int zx12)] → zr162 I X zn zq zx1 zx2 zx3 zx4 zx5 zx6 zx7 zx8 zx9 zx10 zx11 zx12 = some rr → W p l e room_1 s m args below meth c H locs zn (20000 + 4 * zn) Q (F0 m 162 ls [])) : ∀ (I : Im) (X : Xm) (zn : Nat) (zq : Nat) (H : Heap) (locs : List Loc) (ls : Array Slot) (zx1 : Nat) (zx2 : Nat) (zx3 : Nat) (zx4 : Nat) (zx5 : Nat) (zx6 : Nat) (zx7 : Nat) (zx8 : Nat) (zx9 : Nat) (zx10 : Nat) (zx12 : Int32) (zs0 : Int32) (zt1 : okA E (zn, K, len) 8 zx1) (zt2 : okA E (zn, K, len) 11 zx2) (zt3 : okA E (zn, K, len) 11 zx3) (zt4 : okA E (zn, K, len) 11 zx4) (zt5 : okA E (zn, K, len) 11 zx5) (zt6 : okA E (zn, K, len) 11 zx6) (zt7 : okA E (zn, K, len) 11 zx7) (zt8 : okA E (zn, K, len) 11 zx8) (zt9 : okA E (zn, K, len) 11 zx9) (zt10 : okA E (zn, K, len) 11 zx10), zq = eB E + zn → zn ≤ 2000 → WD E (zn, K, len) I X s.heap H locs → lv_has ls 19 [(0, .ref (eS E).1), (1, .ref zx1), (2, .ref zx2), (3, .ref zx3), (4, .ref zx4), (5, .ref zx5), (6, .ref zx6), (7, .ref zx7), (8, .ref zx8), (9, .ref zx9), (10, .ref zx10), (12, .int zx12)] → m9_law_450 fl len sc qlo zr162 I X zn zq zx1 zx2 zx3 zx4 zx5 zx6 zx7 zx8 zx9 zx10 zx12 zs0 = some rr → W p l e room_1 s m args below meth c H locs zn (20000 + 4 * zn) Q (F0 m 450 ls [.int zs0]) := by
  intro I X zn zq H locs ls zx1 zx2 zx3 zx4 zx5 zx6 zx7 zx8 zx9 zx10 zx12 zs0 zt1 zt2 zt3 zt4 zt5 zt6 zt7 zt8 zt9 zt10 ezq hzb hw hl hf
  have hz : s.heap.size + zn ≤ eB E + zn := by omega
  unfold m9_law_450 at hf
  have hx := C0.1; have hb := C0.2.1; have hml := C0.2.2.1; have hown := C0.2.2.2.1; have hts := C0.2.2.2.2.1
  refine lv_istore (lv' := [(11, .int zs0), (0, .ref (eS E).1), (1, .ref zx1), (2, .ref zx2), (3, .ref zx3), (4, .ref zx4), (5, .ref zx5), (6, .ref zx6), (7, .ref zx7), (8, .ref zx8), (9, .ref zx9), (10, .ref zx10), (12, .int zx12)]) hx hb dL_law_450 hl (by decide) rfl (fun ls hl => ?_)
  obtain ⟨zv1, ezv1⟩ : ∃ y : Int32, y = zx12 + 1 := ⟨_, rfl⟩
  have hf := lt_at hf ezv1
  refine lv_iinc (v := zv1) (lv' := [(12, .int zv1), (11, .int zs0), (0, .ref (eS E).1), (1, .ref zx1), (2, .ref zx2), (3, .ref zx3), (4, .ref zx4), (5, .ref zx5), (6, .ref zx6), (7, .ref zx7), (8, .ref zx8), (9, .ref zx9), (10, .ref zx10)]) hx hb dL_law_452 hl (k := 12) rfl (by rw [ezv1]; rfl) (by decide) rfl (fun ls hl => ?_)
  refine lv_goto (tgt := 162) hx hb dL_law_455 (by decide) ?_
  exact zhr162 I X zn zq _ _ _ zx1 zx2 zx3 zx4 zx5 zx6 zx7 zx8 zx9 zx10 zs0 zv1 zt1 zt2 zt3 zt4 zt5 zt6 zt7 zt8 zt9 zt10 ezq hzb hw (lv_sub hl [2, 3, 4, 5, 6, 7, 8, 9, 10, 11, 12, 1, 0] rfl) hf
noncomputable def m9_law_449 (fl : Nat) (len : Nat → Nat) (sc : Int32 → Int32) (qlo : Nat) (zr162 : Im → Xm → Nat → Nat → Nat → Nat → Nat → Nat → Nat → Nat → Nat → Nat → Nat → Nat → Int32 → Int32 → Option (Int32 × Im × Xm)) (I : Im) (X : Xm) (zn : Nat) (zq : Nat) (zx1 : Nat) (zx2 : Nat) (zx3 : Nat) (zx4 : Nat) (zx5 : Nat) (zx6 : Nat) (zx7 : Nat) (zx8 : Nat) (zx9 : Nat) (zx10 : Nat) (zx12 : Int32) : Option (Int32 × Im × Xm) :=
  m9_law_450 fl len sc qlo zr162 I X zn zq zx1 zx2 zx3 zx4 zx5 zx6 zx7 zx8 zx9 zx10 zx12 (0 : Int32)
set_option maxHeartbeats 4000000 in
set_option maxRecDepth 100000 in
theorem w9_law_449 {p : Program} {l : Launch} {e : Env} {s : State} {m : MethodId} {args : Array Value} {below : List Frame} {meth : Method} {c : Code} {E : EN} {K len : Nat → Nat} {sc : Int32 → Int32} {qlo : Nat} {Q : State → Prop} {rr : Int32 × Im × Xm} (C0 : CX p s m args meth c E cL_law RL 19) (hr : meth.sig.returnType = ret) (hs : s.heap.size = eB E) (hsc : sc = cellF (eS E).2 (eXs E)) (hLe : (eS E).2 ≤ 260) (hql : qlo = eB E + 808) (hqK : ∀ x, qlo ≤ x → x < qlo + 60 → K x = 11 ∧ len x = 4) (hrr : rr.1 = 1) (hend : ∀ (zn : Nat) (I : Im) (X : Xm) (H : Heap) (locs : List Loc) (ls : Array Slot), zn ≤ 2000 → WD E (zn, K, len) I X s.heap H locs → W p l e room_1 s m args below meth c H locs zn (20000 + 4 * zn) Q (F0 m 460 ls [.int 1])) (fl : Nat) (zr162 : Im → Xm → Nat → Nat → Nat → Nat → Nat → Nat → Nat → Nat → Nat → Nat → Nat → Nat → Int32 → Int32 → Option (Int32 × Im × Xm)) (zhr162 : ∀ (I : Im) (X : Xm) (zn : Nat) (zq : Nat) (H : Heap) (locs : List Loc) (ls : Array Slot) (zx1 : Nat) (zx2 : Nat) (zx3 : Nat) (zx4 : Nat) (zx5 : Nat) (zx6 : Nat) (zx7 : Nat) (zx8 : Nat) (zx9 : Nat) (zx10 : Nat) (zx11 : Int32) (zx12 : Int32) (zt1 : okA E (zn, K, len) 8 zx1) (zt2 : okA E (zn, K, len) 11 zx2) (zt3 : okA E (zn, K, len) 11 zx3) (zt4 : okA E (zn, K, len) 11 zx4) (zt5 : okA E (zn, K, len) 11 zx5) (zt6 : okA E (zn, K, len) 11 zx6) (zt7 : okA E (zn, K, len) 11 zx7) (zt8 : okA E (zn, K, len) 11 zx8) (zt9 : okA E (zn, K, len) 11 zx9) (zt10 : okA E (zn, K, len) 11 zx10), zq = eB E + zn → zn ≤ 2000 → WD E (zn, K, len) I X s.heap H locs → lv_has ls 19 [(0, .ref (eS E).1), (1, .ref zx1), (2, .ref zx2), (3, .ref zx3), (4, .ref zx4), (5, .ref zx5), (6, .ref zx6), (7, .ref zx7), (8, .ref zx8), (9, .ref zx9), (10, .ref zx10), (11, .int zx11), (12, .int zx12)] → zr162 I X zn zq zx1 zx2 zx3 zx4 zx5 zx6 zx7 zx8 zx9 zx10 zx11 zx12 = some rr → W p l e room_1 s m args below meth c H locs zn (20000 + 4 * zn) Q (F0 m 162 ls [])) : ∀ (I : Im) (X : Xm) (zn : Nat) (zq : Nat) (H : Heap) (locs : List Loc) (ls : Array Slot) (zx1 : Nat) (zx2 : Nat) (zx3 : Nat) (zx4 : Nat) (zx5 : Nat) (zx6 : Nat) (zx7 : Nat) (zx8 : Nat) (zx9 : Nat) (zx10 : Nat) (zx12 : Int32) (zt1 : okA E (zn, K, len) 8 zx1) (zt2 : okA E (zn, K, len) 11 zx2) (zt3 : okA E (zn, K, len) 11 zx3) (zt4 : okA E (zn, K, len) 11 zx4) (zt5 : okA E (zn, K, len) 11 zx5) (zt6 : okA E (zn, K, len) 11 zx6) (zt7 : okA E (zn, K, len) 11 zx7) (zt8 : okA E (zn, K, len) 11 zx8) (zt9 : okA E (zn, K, len) 11 zx9) (zt10 : okA E (zn, K, len) 11 zx10), zq = eB E + zn → zn ≤ 2000 → WD E (zn, K, len) I X s.heap H locs → lv_has ls 19 [(0, .ref (eS E).1), (1, .ref zx1), (2, .ref zx2), (3, .ref zx3), (4, .ref zx4), (5, .ref zx5), (6, .ref zx6), (7, .ref zx7), (8, .ref zx8), (9, .ref zx9), (10, .ref zx10), (12, .int zx12)] → m9_law_449 fl len sc qlo zr162 I X zn zq zx1 zx2 zx3 zx4 zx5 zx6 zx7 zx8 zx9 zx10 zx12 = some rr → W p l e room_1 s m args below meth c H locs zn (20000 + 4 * zn) Q (F0 m 449 ls []) := by
  intro I X zn zq H locs ls zx1 zx2 zx3 zx4 zx5 zx6 zx7 zx8 zx9 zx10 zx12 zt1 zt2 zt3 zt4 zt5 zt6 zt7 zt8 zt9 zt10 ezq hzb hw hl hf
  have hz : s.heap.size + zn ≤ eB E + zn := by omega
  unfold m9_law_449 at hf
  have hx := C0.1; have hb := C0.2.1; have hml := C0.2.2.1; have hown := C0.2.2.2.1; have hts := C0.2.2.2.2.1
  refine lv_iconst (v := (0 : Int32)) hx hb dL_law_449 (by decide) ?_
  exact w9_law_450 C0 hr hs hsc hLe hql hqK hrr hend fl zr162 zhr162 I X zn zq _ _ _ zx1 zx2 zx3 zx4 zx5 zx6 zx7 zx8 zx9 zx10 zx12 (0 : Int32) zt1 zt2 zt3 zt4 zt5 zt6 zt7 zt8 zt9 zt10 ezq hzb hw (lv_sub hl [0, 1, 2, 3, 4, 5, 6, 7, 8, 9, 10, 11] rfl) hf
noncomputable def m9_law_399 (fl : Nat) (len : Nat → Nat) (sc : Int32 → Int32) (qlo : Nat) (zr162 : Im → Xm → Nat → Nat → Nat → Nat → Nat → Nat → Nat → Nat → Nat → Nat → Nat → Nat → Int32 → Int32 → Option (Int32 × Im × Xm)) (I : Im) (X : Xm) (zn : Nat) (zq : Nat) (zx1 : Nat) (zx2 : Nat) (zx3 : Nat) (zx4 : Nat) (zx5 : Nat) (zx6 : Nat) (zx7 : Nat) (zx8 : Nat) (zx9 : Nat) (zx10 : Nat) (zx11 : Int32) (zx12 : Int32) : Option (Int32 × Im × Xm) :=
  if zx11 = 0 then
    m9_law_449 fl len sc qlo zr162 I X zn zq zx1 zx2 zx3 zx4 zx5 zx6 zx7 zx8 zx9 zx10 zx12
  else
    ck (qlo ≤ zq ∧ zq < qlo + 60) <|
    ckp (ZI zq I) <|
    nn (m9_areCues fl len X I zx1 zx2 zx3 zx4 zq) fun ⟨zv4, zI5⟩ =>
    if zv4 = 0 then
      m9_law_449 fl len sc qlo zr162 zI5 X (zn + 1) (zq + 1) zx1 zx2 zx3 zx4 zx5 zx6 zx7 zx8 zx9 zx10 zx12
    else
      nn (m9_areReels fl len X zI5 zx1 zx2 zx4 zx5 zx6 zx7 zx8 zx9) fun zv8 =>
      if zv8 = 0 then
        m9_law_449 fl len sc qlo zr162 zI5 X (zn + 1) (zq + 1) zx1 zx2 zx3 zx4 zx5 zx6 zx7 zx8 zx9 zx10 zx12
      else
        nn (m9_isHeard fl len X zI5 zx1 zx2 zx10) fun zv11 =>
        if zv11 = 0 then
          m9_law_449 fl len sc qlo zr162 zI5 X (zn + 1) (zq + 1) zx1 zx2 zx3 zx4 zx5 zx6 zx7 zx8 zx9 zx10 zx12
        else
          m9_law_450 fl len sc qlo zr162 zI5 X (zn + 1) (zq + 1) zx1 zx2 zx3 zx4 zx5 zx6 zx7 zx8 zx9 zx10 zx12 (1 : Int32)
set_option maxHeartbeats 4000000 in
set_option maxRecDepth 100000 in
theorem w9_law_399 {p : Program} {l : Launch} {e : Env} {s : State} {m : MethodId} {args : Array Value} {below : List Frame} {meth : Method} {c : Code} {E : EN} {K len : Nat → Nat} {sc : Int32 → Int32} {qlo : Nat} {Q : State → Prop} {rr : Int32 × Im × Xm} (C0 : CX p s m args meth c E cL_law RL 19) (hr : meth.sig.returnType = ret) (hs : s.heap.size = eB E) (hsc : sc = cellF (eS E).2 (eXs E)) (hLe : (eS E).2 ≤ 260) (hql : qlo = eB E + 808) (hqK : ∀ x, qlo ≤ x → x < qlo + 60 → K x = 11 ∧ len x = 4) (hrr : rr.1 = 1) (hend : ∀ (zn : Nat) (I : Im) (X : Xm) (H : Heap) (locs : List Loc) (ls : Array Slot), zn ≤ 2000 → WD E (zn, K, len) I X s.heap H locs → W p l e room_1 s m args below meth c H locs zn (20000 + 4 * zn) Q (F0 m 460 ls [.int 1])) (fl : Nat) (zr162 : Im → Xm → Nat → Nat → Nat → Nat → Nat → Nat → Nat → Nat → Nat → Nat → Nat → Nat → Int32 → Int32 → Option (Int32 × Im × Xm)) (zhr162 : ∀ (I : Im) (X : Xm) (zn : Nat) (zq : Nat) (H : Heap) (locs : List Loc) (ls : Array Slot) (zx1 : Nat) (zx2 : Nat) (zx3 : Nat) (zx4 : Nat) (zx5 : Nat) (zx6 : Nat) (zx7 : Nat) (zx8 : Nat) (zx9 : Nat) (zx10 : Nat) (zx11 : Int32) (zx12 : Int32) (zt1 : okA E (zn, K, len) 8 zx1) (zt2 : okA E (zn, K, len) 11 zx2) (zt3 : okA E (zn, K, len) 11 zx3) (zt4 : okA E (zn, K, len) 11 zx4) (zt5 : okA E (zn, K, len) 11 zx5) (zt6 : okA E (zn, K, len) 11 zx6) (zt7 : okA E (zn, K, len) 11 zx7) (zt8 : okA E (zn, K, len) 11 zx8) (zt9 : okA E (zn, K, len) 11 zx9) (zt10 : okA E (zn, K, len) 11 zx10), zq = eB E + zn → zn ≤ 2000 → WD E (zn, K, len) I X s.heap H locs → lv_has ls 19 [(0, .ref (eS E).1), (1, .ref zx1), (2, .ref zx2), (3, .ref zx3), (4, .ref zx4), (5, .ref zx5), (6, .ref zx6), (7, .ref zx7), (8, .ref zx8), (9, .ref zx9), (10, .ref zx10), (11, .int zx11), (12, .int zx12)] → zr162 I X zn zq zx1 zx2 zx3 zx4 zx5 zx6 zx7 zx8 zx9 zx10 zx11 zx12 = some rr → W p l e room_1 s m args below meth c H locs zn (20000 + 4 * zn) Q (F0 m 162 ls [])) : ∀ (I : Im) (X : Xm) (zn : Nat) (zq : Nat) (H : Heap) (locs : List Loc) (ls : Array Slot) (zx1 : Nat) (zx2 : Nat) (zx3 : Nat) (zx4 : Nat) (zx5 : Nat) (zx6 : Nat) (zx7 : Nat) (zx8 : Nat) (zx9 : Nat) (zx10 : Nat) (zx11 : Int32) (zx12 : Int32) (zt1 : okA E (zn, K, len) 8 zx1) (zt2 : okA E (zn, K, len) 11 zx2) (zt3 : okA E (zn, K, len) 11 zx3) (zt4 : okA E (zn, K, len) 11 zx4) (zt5 : okA E (zn, K, len) 11 zx5) (zt6 : okA E (zn, K, len) 11 zx6) (zt7 : okA E (zn, K, len) 11 zx7) (zt8 : okA E (zn, K, len) 11 zx8) (zt9 : okA E (zn, K, len) 11 zx9) (zt10 : okA E (zn, K, len) 11 zx10), zq = eB E + zn → zn ≤ 2000 → WD E (zn, K, len) I X s.heap H locs → lv_has ls 19 [(0, .ref (eS E).1), (1, .ref zx1), (2, .ref zx2), (3, .ref zx3), (4, .ref zx4), (5, .ref zx5), (6, .ref zx6), (7, .ref zx7), (8, .ref zx8), (9, .ref zx9), (10, .ref zx10), (11, .int zx11), (12, .int zx12)] → m9_law_399 fl len sc qlo zr162 I X zn zq zx1 zx2 zx3 zx4 zx5 zx6 zx7 zx8 zx9 zx10 zx11 zx12 = some rr → W p l e room_1 s m args below meth c H locs zn (20000 + 4 * zn) Q (F0 m 399 ls []) := by
  intro I X zn zq H locs ls zx1 zx2 zx3 zx4 zx5 zx6 zx7 zx8 zx9 zx10 zx11 zx12 zt1 zt2 zt3 zt4 zt5 zt6 zt7 zt8 zt9 zt10 ezq hzb hw hl hf
  have hz : s.heap.size + zn ≤ eB E + zn := by omega
  unfold m9_law_399 at hf
  have hx := C0.1; have hb := C0.2.1; have hml := C0.2.2.1; have hown := C0.2.2.2.1; have hts := C0.2.2.2.2.1
  refine lv_iload hx hb dL_law_399 (lv_at hl 11 rfl) ?_
  refine lv_if_eq (tgt := 449) hx hb dL_law_401 (by decide) (fun zc1 => ?_) (fun zc1 => ?_)
  · have hf := ite_t hf zc1
    exact w9_law_449 C0 hr hs hsc hLe hql hqK hrr hend fl zr162 zhr162 I X zn zq _ _ _ zx1 zx2 zx3 zx4 zx5 zx6 zx7 zx8 zx9 zx10 zx12 zt1 zt2 zt3 zt4 zt5 zt6 zt7 zt8 zt9 zt10 ezq hzb hw (lv_sub hl [0, 1, 2, 3, 4, 5, 6, 7, 8, 9, 10, 12] rfl) hf
  · have hf := ite_f hf zc1
    refine lv_aload_n hx hb dL_law_404 rfl (lv_at hl 1 rfl) ?_
    refine lv_aload_n hx hb dL_law_405 rfl (lv_at hl 2 rfl) ?_
    refine lv_aload_n hx hb dL_law_406 rfl (lv_at hl 3 rfl) ?_
    refine lv_aload hx hb dL_law_407 (lv_at hl 4 rfl) ?_
    obtain ⟨zhk2, hf⟩ := ck_some hf
    obtain ⟨zhz3, hf⟩ := ckp_some hf
    obtain ⟨⟨zv4, zI5⟩, ze6, hf⟩ := nn_some hf
    refine x_ci (G1 := (zn + 1, K, len)) (r := zv4) (I1 := zI5) (X1 := X) (x_runS (As := [.ref zx1, .ref zx2, .ref zx3, .ref zx4]) (rest := []) C0 (c9_areCues l E zn K len fl X I zx1 zx2 zx3 zx4 zq ezq (hqK _ zhk2.1 zhk2.2).1 (hqK _ zhk2.1 zhk2.2).2 zhz3 zt1 zt2 zt3 zt4 ze6) hw wd88 wd498 wd499 wd422 ⟨rfl, rfl⟩ hy9_areCues ⟨Nat.le_of_ble_eq_true rfl, Nat.le_of_ble_eq_true rfl⟩ rfl hl.1 (Nat.le_of_ble_eq_true rfl) ⟨by show zn + 1 ≤ 600000; omega, by show 20000 + 4 * zn + 4 ≤ 7302250; omega⟩ dL_law_409) hw (fun H locs hw => ?_)
    refine W_sl (slots2 := 20000 + 4 * (zn + 1)) (by omega) ?_
    have ezq : zq + 1 = eB E + (zn + 1) := by omega
    have hzb : zn + 1 ≤ 2000 := by omega
    have hz : s.heap.size + (zn + 1) ≤ eB E + (zn + 1) := by omega
    have zt1 := zt1.up (n' := zn + 1) (Nat.le_succ _)
    have zt2 := zt2.up (n' := zn + 1) (Nat.le_succ _)
    have zt3 := zt3.up (n' := zn + 1) (Nat.le_succ _)
    have zt4 := zt4.up (n' := zn + 1) (Nat.le_succ _)
    have zt5 := zt5.up (n' := zn + 1) (Nat.le_succ _)
    have zt6 := zt6.up (n' := zn + 1) (Nat.le_succ _)
    have zt7 := zt7.up (n' := zn + 1) (Nat.le_succ _)
    have zt8 := zt8.up (n' := zn + 1) (Nat.le_succ _)
    have zt9 := zt9.up (n' := zn + 1) (Nat.le_succ _)
    have zt10 := zt10.up (n' := zn + 1) (Nat.le_succ _)
    refine lv_if_eq (tgt := 449) hx hb dL_law_412 (by decide) (fun zc7 => ?_) (fun zc7 => ?_)
    · have hf := ite_t hf zc7
      exact w9_law_449 C0 hr hs hsc hLe hql hqK hrr hend fl zr162 zhr162 zI5 X (zn + 1) (zq + 1) _ _ _ zx1 zx2 zx3 zx4 zx5 zx6 zx7 zx8 zx9 zx10 zx12 zt1 zt2 zt3 zt4 zt5 zt6 zt7 zt8 zt9 zt10 ezq hzb hw (lv_sub hl [0, 1, 2, 3, 4, 5, 6, 7, 8, 9, 10, 12] rfl) hf
    · have hf := ite_f hf zc7
      refine lv_aload_n hx hb dL_law_415 rfl (lv_at hl 1 rfl) ?_
      refine lv_aload_n hx hb dL_law_416 rfl (lv_at hl 2 rfl) ?_
      refine lv_aload hx hb dL_law_417 (lv_at hl 4 rfl) ?_
      refine lv_aload hx hb dL_law_419 (lv_at hl 5 rfl) ?_
      refine lv_aload hx hb dL_law_421 (lv_at hl 6 rfl) ?_
      refine lv_aload hx hb dL_law_423 (lv_at hl 7 rfl) ?_
      refine lv_aload hx hb dL_law_425 (lv_at hl 8 rfl) ?_
      refine lv_aload hx hb dL_law_427 (lv_at hl 9 rfl) ?_
      obtain ⟨zv8, ze9, hf⟩ := nn_some hf
      refine x_ci (r := zv8) (I1 := zI5) (X1 := X) (x_runS (As := [.ref zx1, .ref zx2, .ref zx4, .ref zx5, .ref zx6, .ref zx7, .ref zx8, .ref zx9]) (rest := []) C0 (c9_areReels l E ((zn + 1), K, len) fl X zI5 zx1 zx2 zx4 zx5 zx6 zx7 zx8 zx9 zt1 zt2 zt4 zt5 zt6 zt7 zt8 zt9 ze9) hw wd89 wd500 wd501 wd422 ⟨rfl, rfl⟩ hy9_areReels ⟨Nat.le_of_ble_eq_true rfl, Nat.le_of_ble_eq_true rfl⟩ rfl hl.1 (Nat.le_of_ble_eq_true rfl) ⟨by show (zn + 1) + 0 ≤ 600000; omega, by show 20000 + 4 * (zn + 1) + 0 ≤ 7302250; omega⟩ dL_law_429) hw (fun H locs hw => ?_)
      refine lv_if_eq (tgt := 449) hx hb dL_law_432 (by decide) (fun zc10 => ?_) (fun zc10 => ?_)
      · have hf := ite_t hf zc10
        exact w9_law_449 C0 hr hs hsc hLe hql hqK hrr hend fl zr162 zhr162 zI5 X (zn + 1) (zq + 1) _ _ _ zx1 zx2 zx3 zx4 zx5 zx6 zx7 zx8 zx9 zx10 zx12 zt1 zt2 zt3 zt4 zt5 zt6 zt7 zt8 zt9 zt10 ezq hzb hw (lv_sub hl [0, 1, 2, 3, 4, 5, 6, 7, 8, 9, 10, 12] rfl) hf
      · have hf := ite_f hf zc10
        refine lv_aload_n hx hb dL_law_435 rfl (lv_at hl 1 rfl) ?_
        refine lv_aload_n hx hb dL_law_436 rfl (lv_at hl 2 rfl) ?_
        refine lv_aload hx hb dL_law_437 (lv_at hl 10 rfl) ?_
        obtain ⟨zv11, ze12, hf⟩ := nn_some hf
        refine x_ci (r := zv11) (I1 := zI5) (X1 := X) (x_runS (As := [.ref zx1, .ref zx2, .ref zx10]) (rest := []) C0 (c9_isHeard l E ((zn + 1), K, len) fl X zI5 zx1 zx2 zx10 zt1 zt2 zt10 ze12) hw wd90 wd502 wd503 wd422 ⟨rfl, rfl⟩ hy9_isHeard ⟨Nat.le_of_ble_eq_true rfl, Nat.le_of_ble_eq_true rfl⟩ rfl hl.1 (Nat.le_of_ble_eq_true rfl) ⟨by show (zn + 1) + 0 ≤ 600000; omega, by show 20000 + 4 * (zn + 1) + 0 ≤ 7302250; omega⟩ dL_law_439) hw (fun H locs hw => ?_)
        refine lv_if_eq (tgt := 449) hx hb dL_law_442 (by decide) (fun zc13 => ?_) (fun zc13 => ?_)
        · have hf := ite_t hf zc13
          exact w9_law_449 C0 hr hs hsc hLe hql hqK hrr hend fl zr162 zhr162 zI5 X (zn + 1) (zq + 1) _ _ _ zx1 zx2 zx3 zx4 zx5 zx6 zx7 zx8 zx9 zx10 zx12 zt1 zt2 zt3 zt4 zt5 zt6 zt7 zt8 zt9 zt10 ezq hzb hw (lv_sub hl [0, 1, 2, 3, 4, 5, 6, 7, 8, 9, 10, 12] rfl) hf
        · have hf := ite_f hf zc13
          refine lv_iconst (v := (1 : Int32)) hx hb dL_law_445 (by decide) ?_
          refine lv_goto (tgt := 450) hx hb dL_law_446 (by decide) ?_
          exact w9_law_450 C0 hr hs hsc hLe hql hqK hrr hend fl zr162 zhr162 zI5 X (zn + 1) (zq + 1) _ _ _ zx1 zx2 zx3 zx4 zx5 zx6 zx7 zx8 zx9 zx10 zx12 (1 : Int32) zt1 zt2 zt3 zt4 zt5 zt6 zt7 zt8 zt9 zt10 ezq hzb hw (lv_sub hl [0, 1, 2, 3, 4, 5, 6, 7, 8, 9, 10, 12] rfl) hf
noncomputable def m9_law_397 (fl : Nat) (len : Nat → Nat) (sc : Int32 → Int32) (qlo : Nat) (zr162 : Im → Xm → Nat → Nat → Nat → Nat → Nat → Nat → Nat → Nat → Nat → Nat → Nat → Nat → Int32 → Int32 → Option (Int32 × Im × Xm)) (I : Im) (X : Xm) (zn : Nat) (zq : Nat) (zx1 : Nat) (zx2 : Nat) (zx3 : Nat) (zx4 : Nat) (zx5 : Nat) (zx6 : Nat) (zx7 : Nat) (zx8 : Nat) (zx9 : Nat) (zx10 : Nat) (zx12 : Int32) (zs0 : Int32) : Option (Int32 × Im × Xm) :=
  m9_law_399 fl len sc qlo zr162 I X zn zq zx1 zx2 zx3 zx4 zx5 zx6 zx7 zx8 zx9 zx10 zs0 zx12
set_option maxHeartbeats 4000000 in
set_option maxRecDepth 100000 in
theorem w9_law_397 {p : Program} {l : Launch} {e : Env} {s : State} {m : MethodId} {args : Array Value} {below : List Frame} {meth : Method} {c : Code} {E : EN} {K len : Nat → Nat} {sc : Int32 → Int32} {qlo : Nat} {Q : State → Prop} {rr : Int32 × Im × Xm} (C0 : CX p s m args meth c E cL_law RL 19) (hr : meth.sig.returnType = ret) (hs : s.heap.size = eB E) (hsc : sc = cellF (eS E).2 (eXs E)) (hLe : (eS E).2 ≤ 260) (hql : qlo = eB E + 808) (hqK : ∀ x, qlo ≤ x → x < qlo + 60 → K x = 11 ∧ len x = 4) (hrr : rr.1 = 1) (hend : ∀ (zn : Nat) (I : Im) (X : Xm) (H : Heap) (locs : List Loc) (ls : Array Slot), zn ≤ 2000 → WD E (zn, K, len) I X s.heap H locs → W p l e room_1 s m args below meth c H locs zn (20000 + 4 * zn) Q (F0 m 460 ls [.int 1])) (fl : Nat) (zr162 : Im → Xm → Nat → Nat → Nat → Nat → Nat → Nat → Nat → Nat → Nat → Nat → Nat → Nat → Int32 → Int32 → Option (Int32 × Im × Xm)) (zhr162 : ∀ (I : Im) (X : Xm) (zn : Nat) (zq : Nat) (H : Heap) (locs : List Loc) (ls : Array Slot) (zx1 : Nat) (zx2 : Nat) (zx3 : Nat) (zx4 : Nat) (zx5 : Nat) (zx6 : Nat) (zx7 : Nat) (zx8 : Nat) (zx9 : Nat) (zx10 : Nat) (zx11 : Int32) (zx12 : Int32) (zt1 : okA E (zn, K, len) 8 zx1) (zt2 : okA E (zn, K, len) 11 zx2) (zt3 : okA E (zn, K, len) 11 zx3) (zt4 : okA E (zn, K, len) 11 zx4) (zt5 : okA E (zn, K, len) 11 zx5) (zt6 : okA E (zn, K, len) 11 zx6) (zt7 : okA E (zn, K, len) 11 zx7) (zt8 : okA E (zn, K, len) 11 zx8) (zt9 : okA E (zn, K, len) 11 zx9) (zt10 : okA E (zn, K, len) 11 zx10), zq = eB E + zn → zn ≤ 2000 → WD E (zn, K, len) I X s.heap H locs → lv_has ls 19 [(0, .ref (eS E).1), (1, .ref zx1), (2, .ref zx2), (3, .ref zx3), (4, .ref zx4), (5, .ref zx5), (6, .ref zx6), (7, .ref zx7), (8, .ref zx8), (9, .ref zx9), (10, .ref zx10), (11, .int zx11), (12, .int zx12)] → zr162 I X zn zq zx1 zx2 zx3 zx4 zx5 zx6 zx7 zx8 zx9 zx10 zx11 zx12 = some rr → W p l e room_1 s m args below meth c H locs zn (20000 + 4 * zn) Q (F0 m 162 ls [])) : ∀ (I : Im) (X : Xm) (zn : Nat) (zq : Nat) (H : Heap) (locs : List Loc) (ls : Array Slot) (zx1 : Nat) (zx2 : Nat) (zx3 : Nat) (zx4 : Nat) (zx5 : Nat) (zx6 : Nat) (zx7 : Nat) (zx8 : Nat) (zx9 : Nat) (zx10 : Nat) (zx12 : Int32) (zs0 : Int32) (zt1 : okA E (zn, K, len) 8 zx1) (zt2 : okA E (zn, K, len) 11 zx2) (zt3 : okA E (zn, K, len) 11 zx3) (zt4 : okA E (zn, K, len) 11 zx4) (zt5 : okA E (zn, K, len) 11 zx5) (zt6 : okA E (zn, K, len) 11 zx6) (zt7 : okA E (zn, K, len) 11 zx7) (zt8 : okA E (zn, K, len) 11 zx8) (zt9 : okA E (zn, K, len) 11 zx9) (zt10 : okA E (zn, K, len) 11 zx10), zq = eB E + zn → zn ≤ 2000 → WD E (zn, K, len) I X s.heap H locs → lv_has ls 19 [(0, .ref (eS E).1), (1, .ref zx1), (2, .ref zx2), (3, .ref zx3), (4, .ref zx4), (5, .ref zx5), (6, .ref zx6), (7, .ref zx7), (8, .ref zx8), (9, .ref zx9), (10, .ref zx10), (12, .int zx12)] → m9_law_397 fl len sc qlo zr162 I X zn zq zx1 zx2 zx3 zx4 zx5 zx6 zx7 zx8 zx9 zx10 zx12 zs0 = some rr → W p l e room_1 s m args below meth c H locs zn (20000 + 4 * zn) Q (F0 m 397 ls [.int zs0]) := by
  intro I X zn zq H locs ls zx1 zx2 zx3 zx4 zx5 zx6 zx7 zx8 zx9 zx10 zx12 zs0 zt1 zt2 zt3 zt4 zt5 zt6 zt7 zt8 zt9 zt10 ezq hzb hw hl hf
  have hz : s.heap.size + zn ≤ eB E + zn := by omega
  unfold m9_law_397 at hf
  have hx := C0.1; have hb := C0.2.1; have hml := C0.2.2.1; have hown := C0.2.2.2.1; have hts := C0.2.2.2.2.1
  refine lv_istore (lv' := [(11, .int zs0), (0, .ref (eS E).1), (1, .ref zx1), (2, .ref zx2), (3, .ref zx3), (4, .ref zx4), (5, .ref zx5), (6, .ref zx6), (7, .ref zx7), (8, .ref zx8), (9, .ref zx9), (10, .ref zx10), (12, .int zx12)]) hx hb dL_law_397 hl (by decide) rfl (fun ls hl => ?_)
  exact w9_law_399 C0 hr hs hsc hLe hql hqK hrr hend fl zr162 zhr162 I X zn zq _ _ _ zx1 zx2 zx3 zx4 zx5 zx6 zx7 zx8 zx9 zx10 zs0 zx12 zt1 zt2 zt3 zt4 zt5 zt6 zt7 zt8 zt9 zt10 ezq hzb hw (lv_sub hl [1, 2, 3, 4, 5, 6, 7, 8, 9, 10, 11, 0, 12] rfl) hf
noncomputable def m9_law_344b (fl : Nat) (len : Nat → Nat) (sc : Int32 → Int32) (qlo : Nat) (zr162 : Im → Xm → Nat → Nat → Nat → Nat → Nat → Nat → Nat → Nat → Nat → Nat → Nat → Nat → Int32 → Int32 → Option (Int32 × Im × Xm)) (zr344 : Im → Xm → Nat → Nat → Nat → Nat → Nat → Nat → Nat → Nat → Nat → Nat → Nat → Nat → Int32 → Int32 → Int32 → Int32 → Option (Int32 × Im × Xm)) (I : Im) (X : Xm) (zn : Nat) (zq : Nat) (zx1 : Nat) (zx2 : Nat) (zx3 : Nat) (zx4 : Nat) (zx5 : Nat) (zx6 : Nat) (zx7 : Nat) (zx8 : Nat) (zx9 : Nat) (zx10 : Nat) (zx12 : Int32) (zx16 : Int32) (zx17 : Int32) (zx18 : Int32) : Option (Int32 × Im × Xm) :=
  if zx16 ≤ zx18 then
    nn (m8_pass fl len X I zx1 zx16) fun ⟨zv2, zI3, zX4⟩ =>
    if zv2 = zx17 then
      m9_law_397 fl len sc qlo zr162 zI3 zX4 zn zq zx1 zx2 zx3 zx4 zx5 zx6 zx7 zx8 zx9 zx10 zx12 (1 : Int32)
    else
      m9_law_397 fl len sc qlo zr162 zI3 zX4 zn zq zx1 zx2 zx3 zx4 zx5 zx6 zx7 zx8 zx9 zx10 zx12 (0 : Int32)
  else
    nn (m9_goes fl len X I zx2 zx3 zx4 zx5 zx6 zx7 zx8 zx9 zx10) fun ⟨zv7, zI8⟩ =>
    lt ((zx17 + zv7)) fun zv10 =>
    lt (zx18 + 1) fun zv11 =>
    zr344 zI8 X zn zq zx1 zx2 zx3 zx4 zx5 zx6 zx7 zx8 zx9 zx10 zx12 zx16 zv10 zv11
noncomputable def m9_law_344 (fl : Nat) (len : Nat → Nat) (sc : Int32 → Int32) (qlo : Nat) (zr162 : Im → Xm → Nat → Nat → Nat → Nat → Nat → Nat → Nat → Nat → Nat → Nat → Nat → Nat → Int32 → Int32 → Option (Int32 × Im × Xm)) (n : Nat) : Im → Xm → Nat → Nat → Nat → Nat → Nat → Nat → Nat → Nat → Nat → Nat → Nat → Nat → Int32 → Int32 → Int32 → Int32 → Option (Int32 × Im × Xm) :=
  Nat.rec (fun _ _ _ _ _ _ _ _ _ _ _ _ _ _ _ _ _ _ => none) (fun _ r => m9_law_344b fl len sc qlo zr162 r) n
set_option maxHeartbeats 4000000 in
set_option maxRecDepth 100000 in
theorem w9_law_344b {p : Program} {l : Launch} {e : Env} {s : State} {m : MethodId} {args : Array Value} {below : List Frame} {meth : Method} {c : Code} {E : EN} {K len : Nat → Nat} {sc : Int32 → Int32} {qlo : Nat} {Q : State → Prop} {rr : Int32 × Im × Xm} (C0 : CX p s m args meth c E cL_law RL 19) (hr : meth.sig.returnType = ret) (hs : s.heap.size = eB E) (hsc : sc = cellF (eS E).2 (eXs E)) (hLe : (eS E).2 ≤ 260) (hql : qlo = eB E + 808) (hqK : ∀ x, qlo ≤ x → x < qlo + 60 → K x = 11 ∧ len x = 4) (hrr : rr.1 = 1) (hend : ∀ (zn : Nat) (I : Im) (X : Xm) (H : Heap) (locs : List Loc) (ls : Array Slot), zn ≤ 2000 → WD E (zn, K, len) I X s.heap H locs → W p l e room_1 s m args below meth c H locs zn (20000 + 4 * zn) Q (F0 m 460 ls [.int 1])) (fl : Nat) (zr162 : Im → Xm → Nat → Nat → Nat → Nat → Nat → Nat → Nat → Nat → Nat → Nat → Nat → Nat → Int32 → Int32 → Option (Int32 × Im × Xm)) (zhr162 : ∀ (I : Im) (X : Xm) (zn : Nat) (zq : Nat) (H : Heap) (locs : List Loc) (ls : Array Slot) (zx1 : Nat) (zx2 : Nat) (zx3 : Nat) (zx4 : Nat) (zx5 : Nat) (zx6 : Nat) (zx7 : Nat) (zx8 : Nat) (zx9 : Nat) (zx10 : Nat) (zx11 : Int32) (zx12 : Int32) (zt1 : okA E (zn, K, len) 8 zx1) (zt2 : okA E (zn, K, len) 11 zx2) (zt3 : okA E (zn, K, len) 11 zx3) (zt4 : okA E (zn, K, len) 11 zx4) (zt5 : okA E (zn, K, len) 11 zx5) (zt6 : okA E (zn, K, len) 11 zx6) (zt7 : okA E (zn, K, len) 11 zx7) (zt8 : okA E (zn, K, len) 11 zx8) (zt9 : okA E (zn, K, len) 11 zx9) (zt10 : okA E (zn, K, len) 11 zx10), zq = eB E + zn → zn ≤ 2000 → WD E (zn, K, len) I X s.heap H locs → lv_has ls 19 [(0, .ref (eS E).1), (1, .ref zx1), (2, .ref zx2), (3, .ref zx3), (4, .ref zx4), (5, .ref zx5), (6, .ref zx6), (7, .ref zx7), (8, .ref zx8), (9, .ref zx9), (10, .ref zx10), (11, .int zx11), (12, .int zx12)] → zr162 I X zn zq zx1 zx2 zx3 zx4 zx5 zx6 zx7 zx8 zx9 zx10 zx11 zx12 = some rr → W p l e room_1 s m args below meth c H locs zn (20000 + 4 * zn) Q (F0 m 162 ls [])) (zr344 : Im → Xm → Nat → Nat → Nat → Nat → Nat → Nat → Nat → Nat → Nat → Nat → Nat → Nat → Int32 → Int32 → Int32 → Int32 → Option (Int32 × Im × Xm)) (zhr344 : ∀ (I : Im) (X : Xm) (zn : Nat) (zq : Nat) (H : Heap) (locs : List Loc) (ls : Array Slot) (zx1 : Nat) (zx2 : Nat) (zx3 : Nat) (zx4 : Nat) (zx5 : Nat) (zx6 : Nat) (zx7 : Nat) (zx8 : Nat) (zx9 : Nat) (zx10 : Nat) (zx12 : Int32) (zx16 : Int32) (zx17 : Int32) (zx18 : Int32) (zt1 : okA E (zn, K, len) 8 zx1) (zt2 : okA E (zn, K, len) 11 zx2) (zt3 : okA E (zn, K, len) 11 zx3) (zt4 : okA E (zn, K, len) 11 zx4) (zt5 : okA E (zn, K, len) 11 zx5) (zt6 : okA E (zn, K, len) 11 zx6) (zt7 : okA E (zn, K, len) 11 zx7) (zt8 : okA E (zn, K, len) 11 zx8) (zt9 : okA E (zn, K, len) 11 zx9) (zt10 : okA E (zn, K, len) 11 zx10), zq = eB E + zn → zn ≤ 2000 → WD E (zn, K, len) I X s.heap H locs → lv_has ls 19 [(0, .ref (eS E).1), (1, .ref zx1), (2, .ref zx2), (3, .ref zx3), (4, .ref zx4), (5, .ref zx5), (6, .ref zx6), (7, .ref zx7), (8, .ref zx8), (9, .ref zx9), (10, .ref zx10), (12, .int zx12), (16, .int zx16), (17, .int zx17), (18, .int zx18)] → zr344 I X zn zq zx1 zx2 zx3 zx4 zx5 zx6 zx7 zx8 zx9 zx10 zx12 zx16 zx17 zx18 = some rr → W p l e room_1 s m args below meth c H locs zn (20000 + 4 * zn) Q (F0 m 344 ls [])) : ∀ (I : Im) (X : Xm) (zn : Nat) (zq : Nat) (H : Heap) (locs : List Loc) (ls : Array Slot) (zx1 : Nat) (zx2 : Nat) (zx3 : Nat) (zx4 : Nat) (zx5 : Nat) (zx6 : Nat) (zx7 : Nat) (zx8 : Nat) (zx9 : Nat) (zx10 : Nat) (zx12 : Int32) (zx16 : Int32) (zx17 : Int32) (zx18 : Int32) (zt1 : okA E (zn, K, len) 8 zx1) (zt2 : okA E (zn, K, len) 11 zx2) (zt3 : okA E (zn, K, len) 11 zx3) (zt4 : okA E (zn, K, len) 11 zx4) (zt5 : okA E (zn, K, len) 11 zx5) (zt6 : okA E (zn, K, len) 11 zx6) (zt7 : okA E (zn, K, len) 11 zx7) (zt8 : okA E (zn, K, len) 11 zx8) (zt9 : okA E (zn, K, len) 11 zx9) (zt10 : okA E (zn, K, len) 11 zx10), zq = eB E + zn → zn ≤ 2000 → WD E (zn, K, len) I X s.heap H locs → lv_has ls 19 [(0, .ref (eS E).1), (1, .ref zx1), (2, .ref zx2), (3, .ref zx3), (4, .ref zx4), (5, .ref zx5), (6, .ref zx6), (7, .ref zx7), (8, .ref zx8), (9, .ref zx9), (10, .ref zx10), (12, .int zx12), (16, .int zx16), (17, .int zx17), (18, .int zx18)] → m9_law_344b fl len sc qlo zr162 zr344 I X zn zq zx1 zx2 zx3 zx4 zx5 zx6 zx7 zx8 zx9 zx10 zx12 zx16 zx17 zx18 = some rr → W p l e room_1 s m args below meth c H locs zn (20000 + 4 * zn) Q (F0 m 344 ls []) := by
  intro I X zn zq H locs ls zx1 zx2 zx3 zx4 zx5 zx6 zx7 zx8 zx9 zx10 zx12 zx16 zx17 zx18 zt1 zt2 zt3 zt4 zt5 zt6 zt7 zt8 zt9 zt10 ezq hzb hw hl hf
  have hz : s.heap.size + zn ≤ eB E + zn := by omega
  unfold m9_law_344b at hf
  have hx := C0.1; have hb := C0.2.1; have hml := C0.2.2.1; have hown := C0.2.2.2.1; have hts := C0.2.2.2.2.1
  refine lv_iload hx hb dL_law_344 (lv_at hl 14 rfl) ?_
  refine lv_iload hx hb dL_law_346 (lv_at hl 12 rfl) ?_
  refine lv_icmp_ge (tgt := 381) hx hb dL_law_348 (by decide) (fun zc1 => ?_) (fun zc1 => ?_)
  · have hf := ite_t hf zc1
    refine lv_aload_n hx hb dL_law_381 rfl (lv_at hl 1 rfl) ?_
    refine lv_iload hx hb dL_law_382 (lv_at hl 12 rfl) ?_
    obtain ⟨⟨zv2, zI3, zX4⟩, ze5, hf⟩ := nn_some hf
    refine x_ci (r := zv2) (I1 := zI3) (X1 := zX4) (x_runV (As := [.int zx16]) (rest := []) C0 (c8_pass l E (zn, K, len) fl X I zx1 zx16 zt1 ze5) hw 8 zt1 (by decide) rfl wd67 wd495 wd496 wd497 wd107 ⟨rfl, rfl⟩ hy8_pass ⟨Nat.le_of_ble_eq_true rfl, Nat.le_of_ble_eq_true rfl⟩ rfl hl.1 (Nat.le_of_ble_eq_true rfl) ⟨by show zn + 0 ≤ 600000; omega, by show 20000 + 4 * zn + 0 ≤ 7302250; omega⟩ dL_law_384) hw (fun H locs hw => ?_)
    refine lv_iload hx hb dL_law_387 (lv_at hl 13 rfl) ?_
    refine lv_icmp_ne (tgt := 396) hx hb dL_law_389 (by decide) (fun zc6 => ?_) (fun zc6 => ?_)
    · have hf := ite_f hf zc6
      refine lv_iconst (v := (0 : Int32)) hx hb dL_law_396 (by decide) ?_
      exact w9_law_397 C0 hr hs hsc hLe hql hqK hrr hend fl zr162 zhr162 zI3 zX4 zn zq _ _ _ zx1 zx2 zx3 zx4 zx5 zx6 zx7 zx8 zx9 zx10 zx12 (0 : Int32) zt1 zt2 zt3 zt4 zt5 zt6 zt7 zt8 zt9 zt10 ezq hzb hw (lv_sub hl [0, 1, 2, 3, 4, 5, 6, 7, 8, 9, 10, 11] rfl) hf
    · have hf := ite_t hf zc6
      refine lv_iconst (v := (1 : Int32)) hx hb dL_law_392 (by decide) ?_
      refine lv_goto (tgt := 397) hx hb dL_law_393 (by decide) ?_
      exact w9_law_397 C0 hr hs hsc hLe hql hqK hrr hend fl zr162 zhr162 zI3 zX4 zn zq _ _ _ zx1 zx2 zx3 zx4 zx5 zx6 zx7 zx8 zx9 zx10 zx12 (1 : Int32) zt1 zt2 zt3 zt4 zt5 zt6 zt7 zt8 zt9 zt10 ezq hzb hw (lv_sub hl [0, 1, 2, 3, 4, 5, 6, 7, 8, 9, 10, 11] rfl) hf
  · have hf := ite_f hf zc1
    refine lv_iload hx hb dL_law_351 (lv_at hl 13 rfl) ?_
    refine lv_aload_n hx hb dL_law_353 rfl (lv_at hl 2 rfl) ?_
    refine lv_aload_n hx hb dL_law_354 rfl (lv_at hl 3 rfl) ?_
    refine lv_aload hx hb dL_law_355 (lv_at hl 4 rfl) ?_
    refine lv_aload hx hb dL_law_357 (lv_at hl 5 rfl) ?_
    refine lv_aload hx hb dL_law_359 (lv_at hl 6 rfl) ?_
    refine lv_aload hx hb dL_law_361 (lv_at hl 7 rfl) ?_
    refine lv_aload hx hb dL_law_363 (lv_at hl 8 rfl) ?_
    refine lv_aload hx hb dL_law_365 (lv_at hl 9 rfl) ?_
    refine lv_aload hx hb dL_law_367 (lv_at hl 10 rfl) ?_
    obtain ⟨⟨zv7, zI8⟩, ze9, hf⟩ := nn_some hf
    refine x_ci (r := zv7) (I1 := zI8) (X1 := X) (x_runS (As := [.ref zx2, .ref zx3, .ref zx4, .ref zx5, .ref zx6, .ref zx7, .ref zx8, .ref zx9, .ref zx10]) (rest := [.int zx17]) C0 (c9_goes l E (zn, K, len) fl X I zx2 zx3 zx4 zx5 zx6 zx7 zx8 zx9 zx10 zt2 zt3 zt4 zt5 zt6 zt7 zt8 zt9 zt10 ze9) hw wd84 wd493 wd494 wd422 ⟨rfl, rfl⟩ hy9_goes ⟨Nat.le_of_ble_eq_true rfl, Nat.le_of_ble_eq_true rfl⟩ rfl hl.1 (Nat.le_of_ble_eq_true rfl) ⟨by show zn + 0 ≤ 600000; omega, by show 20000 + 4 * zn + 0 ≤ 7302250; omega⟩ dL_law_369) hw (fun H locs hw => ?_)
    refine lv_iadd hx hb dL_law_372 ?_
    refine lv_topi (fun zv10 ezv10 => ?_)
    have hf := lt_at hf ezv10
    refine lv_istore (lv' := [(17, .int zv10), (0, .ref (eS E).1), (1, .ref zx1), (2, .ref zx2), (3, .ref zx3), (4, .ref zx4), (5, .ref zx5), (6, .ref zx6), (7, .ref zx7), (8, .ref zx8), (9, .ref zx9), (10, .ref zx10), (12, .int zx12), (16, .int zx16), (18, .int zx18)]) hx hb dL_law_373 hl (by decide) rfl (fun ls hl => ?_)
    obtain ⟨zv11, ezv11⟩ : ∃ y : Int32, y = zx18 + 1 := ⟨_, rfl⟩
    have hf := lt_at hf ezv11
    refine lv_iinc (v := zv11) (lv' := [(18, .int zv11), (17, .int zv10), (0, .ref (eS E).1), (1, .ref zx1), (2, .ref zx2), (3, .ref zx3), (4, .ref zx4), (5, .ref zx5), (6, .ref zx6), (7, .ref zx7), (8, .ref zx8), (9, .ref zx9), (10, .ref zx10), (12, .int zx12), (16, .int zx16)]) hx hb dL_law_375 hl (k := 14) rfl (by rw [ezv11]; rfl) (by decide) rfl (fun ls hl => ?_)
    refine lv_goto (tgt := 344) hx hb dL_law_378 (by decide) ?_
    exact zhr344 zI8 X zn zq _ _ _ zx1 zx2 zx3 zx4 zx5 zx6 zx7 zx8 zx9 zx10 zx12 zx16 zv10 zv11 zt1 zt2 zt3 zt4 zt5 zt6 zt7 zt8 zt9 zt10 ezq hzb hw (lv_sub hl [2, 3, 4, 5, 6, 7, 8, 9, 10, 11, 12, 13, 14, 1, 0] rfl) hf
theorem w9_law_344 {p : Program} {l : Launch} {e : Env} {s : State} {m : MethodId} {args : Array Value} {below : List Frame} {meth : Method} {c : Code} {E : EN} {K len : Nat → Nat} {sc : Int32 → Int32} {qlo : Nat} {Q : State → Prop} {rr : Int32 × Im × Xm} (C0 : CX p s m args meth c E cL_law RL 19) (hr : meth.sig.returnType = ret) (hs : s.heap.size = eB E) (hsc : sc = cellF (eS E).2 (eXs E)) (hLe : (eS E).2 ≤ 260) (hql : qlo = eB E + 808) (hqK : ∀ x, qlo ≤ x → x < qlo + 60 → K x = 11 ∧ len x = 4) (hrr : rr.1 = 1) (hend : ∀ (zn : Nat) (I : Im) (X : Xm) (H : Heap) (locs : List Loc) (ls : Array Slot), zn ≤ 2000 → WD E (zn, K, len) I X s.heap H locs → W p l e room_1 s m args below meth c H locs zn (20000 + 4 * zn) Q (F0 m 460 ls [.int 1])) (fl : Nat) (zr162 : Im → Xm → Nat → Nat → Nat → Nat → Nat → Nat → Nat → Nat → Nat → Nat → Nat → Nat → Int32 → Int32 → Option (Int32 × Im × Xm)) (zhr162 : ∀ (I : Im) (X : Xm) (zn : Nat) (zq : Nat) (H : Heap) (locs : List Loc) (ls : Array Slot) (zx1 : Nat) (zx2 : Nat) (zx3 : Nat) (zx4 : Nat) (zx5 : Nat) (zx6 : Nat) (zx7 : Nat) (zx8 : Nat) (zx9 : Nat) (zx10 : Nat) (zx11 : Int32) (zx12 : Int32) (zt1 : okA E (zn, K, len) 8 zx1) (zt2 : okA E (zn, K, len) 11 zx2) (zt3 : okA E (zn, K, len) 11 zx3) (zt4 : okA E (zn, K, len) 11 zx4) (zt5 : okA E (zn, K, len) 11 zx5) (zt6 : okA E (zn, K, len) 11 zx6) (zt7 : okA E (zn, K, len) 11 zx7) (zt8 : okA E (zn, K, len) 11 zx8) (zt9 : okA E (zn, K, len) 11 zx9) (zt10 : okA E (zn, K, len) 11 zx10), zq = eB E + zn → zn ≤ 2000 → WD E (zn, K, len) I X s.heap H locs → lv_has ls 19 [(0, .ref (eS E).1), (1, .ref zx1), (2, .ref zx2), (3, .ref zx3), (4, .ref zx4), (5, .ref zx5), (6, .ref zx6), (7, .ref zx7), (8, .ref zx8), (9, .ref zx9), (10, .ref zx10), (11, .int zx11), (12, .int zx12)] → zr162 I X zn zq zx1 zx2 zx3 zx4 zx5 zx6 zx7 zx8 zx9 zx10 zx11 zx12 = some rr → W p l e room_1 s m args below meth c H locs zn (20000 + 4 * zn) Q (F0 m 162 ls [])) : ∀ (n : Nat) (I : Im) (X : Xm) (zn : Nat) (zq : Nat) (H : Heap) (locs : List Loc) (ls : Array Slot) (zx1 : Nat) (zx2 : Nat) (zx3 : Nat) (zx4 : Nat) (zx5 : Nat) (zx6 : Nat) (zx7 : Nat) (zx8 : Nat) (zx9 : Nat) (zx10 : Nat) (zx12 : Int32) (zx16 : Int32) (zx17 : Int32) (zx18 : Int32) (zt1 : okA E (zn, K, len) 8 zx1) (zt2 : okA E (zn, K, len) 11 zx2) (zt3 : okA E (zn, K, len) 11 zx3) (zt4 : okA E (zn, K, len) 11 zx4) (zt5 : okA E (zn, K, len) 11 zx5) (zt6 : okA E (zn, K, len) 11 zx6) (zt7 : okA E (zn, K, len) 11 zx7) (zt8 : okA E (zn, K, len) 11 zx8) (zt9 : okA E (zn, K, len) 11 zx9) (zt10 : okA E (zn, K, len) 11 zx10), zq = eB E + zn → zn ≤ 2000 → WD E (zn, K, len) I X s.heap H locs → lv_has ls 19 [(0, .ref (eS E).1), (1, .ref zx1), (2, .ref zx2), (3, .ref zx3), (4, .ref zx4), (5, .ref zx5), (6, .ref zx6), (7, .ref zx7), (8, .ref zx8), (9, .ref zx9), (10, .ref zx10), (12, .int zx12), (16, .int zx16), (17, .int zx17), (18, .int zx18)] → m9_law_344 fl len sc qlo zr162 n I X zn zq zx1 zx2 zx3 zx4 zx5 zx6 zx7 zx8 zx9 zx10 zx12 zx16 zx17 zx18 = some rr → W p l e room_1 s m args below meth c H locs zn (20000 + 4 * zn) Q (F0 m 344 ls []) := by
  intro n
  induction n with
  | zero => intro I X zn zq H locs ls zx1 zx2 zx3 zx4 zx5 zx6 zx7 zx8 zx9 zx10 zx12 zx16 zx17 zx18 zt1 zt2 zt3 zt4 zt5 zt6 zt7 zt8 zt9 zt10 ezq hzb hw hl hf; exact absurd (show (none : Option (Int32 × Im × Xm)) = some rr from hf) (by simp)
  | succ n ih => intro I X zn zq H locs ls zx1 zx2 zx3 zx4 zx5 zx6 zx7 zx8 zx9 zx10 zx12 zx16 zx17 zx18 zt1 zt2 zt3 zt4 zt5 zt6 zt7 zt8 zt9 zt10 ezq hzb hw hl hf; exact w9_law_344b C0 hr hs hsc hLe hql hqK hrr hend fl zr162 zhr162 _ ih I X zn zq H locs ls zx1 zx2 zx3 zx4 zx5 zx6 zx7 zx8 zx9 zx10 zx12 zx16 zx17 zx18 zt1 zt2 zt3 zt4 zt5 zt6 zt7 zt8 zt9 zt10 ezq hzb hw hl hf
noncomputable def m9_law_334 (fl : Nat) (len : Nat → Nat) (sc : Int32 → Int32) (qlo : Nat) (zr162 : Im → Xm → Nat → Nat → Nat → Nat → Nat → Nat → Nat → Nat → Nat → Nat → Nat → Nat → Int32 → Int32 → Option (Int32 × Im × Xm)) (I : Im) (X : Xm) (zn : Nat) (zq : Nat) (zx1 : Nat) (zx2 : Nat) (zx3 : Nat) (zx4 : Nat) (zx5 : Nat) (zx6 : Nat) (zx7 : Nat) (zx8 : Nat) (zx9 : Nat) (zx10 : Nat) (zx12 : Int32) (zs0 : Int32) (zs1 : Int32) (zs2 : Int32) : Option (Int32 × Im × Xm) :=
  ck (¬ zs2 = 0) <|
  lt ((zs0 + (zs1 - zs1 / zs2 * zs2))) fun zv2 =>
  m9_law_344 fl len sc qlo zr162 fl I X zn zq zx1 zx2 zx3 zx4 zx5 zx6 zx7 zx8 zx9 zx10 zx12 zv2 (0 : Int32) (0 : Int32)
set_option maxHeartbeats 4000000 in
set_option maxRecDepth 100000 in
theorem w9_law_334 {p : Program} {l : Launch} {e : Env} {s : State} {m : MethodId} {args : Array Value} {below : List Frame} {meth : Method} {c : Code} {E : EN} {K len : Nat → Nat} {sc : Int32 → Int32} {qlo : Nat} {Q : State → Prop} {rr : Int32 × Im × Xm} (C0 : CX p s m args meth c E cL_law RL 19) (hr : meth.sig.returnType = ret) (hs : s.heap.size = eB E) (hsc : sc = cellF (eS E).2 (eXs E)) (hLe : (eS E).2 ≤ 260) (hql : qlo = eB E + 808) (hqK : ∀ x, qlo ≤ x → x < qlo + 60 → K x = 11 ∧ len x = 4) (hrr : rr.1 = 1) (hend : ∀ (zn : Nat) (I : Im) (X : Xm) (H : Heap) (locs : List Loc) (ls : Array Slot), zn ≤ 2000 → WD E (zn, K, len) I X s.heap H locs → W p l e room_1 s m args below meth c H locs zn (20000 + 4 * zn) Q (F0 m 460 ls [.int 1])) (fl : Nat) (zr162 : Im → Xm → Nat → Nat → Nat → Nat → Nat → Nat → Nat → Nat → Nat → Nat → Nat → Nat → Int32 → Int32 → Option (Int32 × Im × Xm)) (zhr162 : ∀ (I : Im) (X : Xm) (zn : Nat) (zq : Nat) (H : Heap) (locs : List Loc) (ls : Array Slot) (zx1 : Nat) (zx2 : Nat) (zx3 : Nat) (zx4 : Nat) (zx5 : Nat) (zx6 : Nat) (zx7 : Nat) (zx8 : Nat) (zx9 : Nat) (zx10 : Nat) (zx11 : Int32) (zx12 : Int32) (zt1 : okA E (zn, K, len) 8 zx1) (zt2 : okA E (zn, K, len) 11 zx2) (zt3 : okA E (zn, K, len) 11 zx3) (zt4 : okA E (zn, K, len) 11 zx4) (zt5 : okA E (zn, K, len) 11 zx5) (zt6 : okA E (zn, K, len) 11 zx6) (zt7 : okA E (zn, K, len) 11 zx7) (zt8 : okA E (zn, K, len) 11 zx8) (zt9 : okA E (zn, K, len) 11 zx9) (zt10 : okA E (zn, K, len) 11 zx10), zq = eB E + zn → zn ≤ 2000 → WD E (zn, K, len) I X s.heap H locs → lv_has ls 19 [(0, .ref (eS E).1), (1, .ref zx1), (2, .ref zx2), (3, .ref zx3), (4, .ref zx4), (5, .ref zx5), (6, .ref zx6), (7, .ref zx7), (8, .ref zx8), (9, .ref zx9), (10, .ref zx10), (11, .int zx11), (12, .int zx12)] → zr162 I X zn zq zx1 zx2 zx3 zx4 zx5 zx6 zx7 zx8 zx9 zx10 zx11 zx12 = some rr → W p l e room_1 s m args below meth c H locs zn (20000 + 4 * zn) Q (F0 m 162 ls [])) : ∀ (I : Im) (X : Xm) (zn : Nat) (zq : Nat) (H : Heap) (locs : List Loc) (ls : Array Slot) (zx1 : Nat) (zx2 : Nat) (zx3 : Nat) (zx4 : Nat) (zx5 : Nat) (zx6 : Nat) (zx7 : Nat) (zx8 : Nat) (zx9 : Nat) (zx10 : Nat) (zx12 : Int32) (zs0 : Int32) (zs1 : Int32) (zs2 : Int32) (zt1 : okA E (zn, K, len) 8 zx1) (zt2 : okA E (zn, K, len) 11 zx2) (zt3 : okA E (zn, K, len) 11 zx3) (zt4 : okA E (zn, K, len) 11 zx4) (zt5 : okA E (zn, K, len) 11 zx5) (zt6 : okA E (zn, K, len) 11 zx6) (zt7 : okA E (zn, K, len) 11 zx7) (zt8 : okA E (zn, K, len) 11 zx8) (zt9 : okA E (zn, K, len) 11 zx9) (zt10 : okA E (zn, K, len) 11 zx10), zq = eB E + zn → zn ≤ 2000 → WD E (zn, K, len) I X s.heap H locs → lv_has ls 19 [(0, .ref (eS E).1), (1, .ref zx1), (2, .ref zx2), (3, .ref zx3), (4, .ref zx4), (5, .ref zx5), (6, .ref zx6), (7, .ref zx7), (8, .ref zx8), (9, .ref zx9), (10, .ref zx10), (12, .int zx12)] → m9_law_334 fl len sc qlo zr162 I X zn zq zx1 zx2 zx3 zx4 zx5 zx6 zx7 zx8 zx9 zx10 zx12 zs0 zs1 zs2 = some rr → W p l e room_1 s m args below meth c H locs zn (20000 + 4 * zn) Q (F0 m 334 ls [.int zs2, .int zs1, .int zs0]) := by
  intro I X zn zq H locs ls zx1 zx2 zx3 zx4 zx5 zx6 zx7 zx8 zx9 zx10 zx12 zs0 zs1 zs2 zt1 zt2 zt3 zt4 zt5 zt6 zt7 zt8 zt9 zt10 ezq hzb hw hl hf
  have hz : s.heap.size + zn ≤ eB E + zn := by omega
  unfold m9_law_334 at hf
  have hx := C0.1; have hb := C0.2.1; have hml := C0.2.2.1; have hown := C0.2.2.2.1; have hts := C0.2.2.2.2.1
  obtain ⟨zhd1, hf⟩ := ck_some hf
  refine lv_irem hx hb dL_law_334 zhd1 ?_
  refine lv_iadd hx hb dL_law_335 ?_
  refine lv_topi (fun zv2 ezv2 => ?_)
  have hf := lt_at hf ezv2
  refine lv_istore (lv' := [(16, .int zv2), (0, .ref (eS E).1), (1, .ref zx1), (2, .ref zx2), (3, .ref zx3), (4, .ref zx4), (5, .ref zx5), (6, .ref zx6), (7, .ref zx7), (8, .ref zx8), (9, .ref zx9), (10, .ref zx10), (12, .int zx12)]) hx hb dL_law_336 hl (by decide) rfl (fun ls hl => ?_)
  refine lv_iconst (v := (0 : Int32)) hx hb dL_law_338 (by decide) ?_
  refine lv_istore (lv' := [(17, .int (0 : Int32)), (16, .int zv2), (0, .ref (eS E).1), (1, .ref zx1), (2, .ref zx2), (3, .ref zx3), (4, .ref zx4), (5, .ref zx5), (6, .ref zx6), (7, .ref zx7), (8, .ref zx8), (9, .ref zx9), (10, .ref zx10), (12, .int zx12)]) hx hb dL_law_339 hl (by decide) rfl (fun ls hl => ?_)
  refine lv_iconst (v := (0 : Int32)) hx hb dL_law_341 (by decide) ?_
  refine lv_istore (lv' := [(18, .int (0 : Int32)), (17, .int (0 : Int32)), (16, .int zv2), (0, .ref (eS E).1), (1, .ref zx1), (2, .ref zx2), (3, .ref zx3), (4, .ref zx4), (5, .ref zx5), (6, .ref zx6), (7, .ref zx7), (8, .ref zx8), (9, .ref zx9), (10, .ref zx10), (12, .int zx12)]) hx hb dL_law_342 hl (by decide) rfl (fun ls hl => ?_)
  exact w9_law_344 C0 hr hs hsc hLe hql hqK hrr hend fl zr162 zhr162 fl I X zn zq _ _ _ zx1 zx2 zx3 zx4 zx5 zx6 zx7 zx8 zx9 zx10 zx12 zv2 (0 : Int32) (0 : Int32) zt1 zt2 zt3 zt4 zt5 zt6 zt7 zt8 zt9 zt10 ezq hzb hw (lv_sub hl [3, 4, 5, 6, 7, 8, 9, 10, 11, 12, 13, 14, 2, 1, 0] rfl) hf
noncomputable def m9_law_318 (fl : Nat) (len : Nat → Nat) (sc : Int32 → Int32) (qlo : Nat) (zr162 : Im → Xm → Nat → Nat → Nat → Nat → Nat → Nat → Nat → Nat → Nat → Nat → Nat → Nat → Int32 → Int32 → Option (Int32 × Im × Xm)) (I : Im) (X : Xm) (zn : Nat) (zq : Nat) (zx1 : Nat) (zx2 : Nat) (zx3 : Nat) (zx4 : Nat) (zx5 : Nat) (zx6 : Nat) (zx7 : Nat) (zx8 : Nat) (zx9 : Nat) (zx10 : Nat) (zx12 : Int32) (zx14 : Int32) (zx15 : Int32) : Option (Int32 × Im × Xm) :=
  if (24 : Int32) ≤ zx14 then
    m9_law_334 fl len sc qlo zr162 I X zn zq zx1 zx2 zx3 zx4 zx5 zx6 zx7 zx8 zx9 zx10 zx12 (1 : Int32) zx15 (4 : Int32)
  else
    m9_law_334 fl len sc qlo zr162 I X zn zq zx1 zx2 zx3 zx4 zx5 zx6 zx7 zx8 zx9 zx10 zx12 (1 : Int32) zx15 (20 : Int32)
set_option maxHeartbeats 4000000 in
set_option maxRecDepth 100000 in
theorem w9_law_318 {p : Program} {l : Launch} {e : Env} {s : State} {m : MethodId} {args : Array Value} {below : List Frame} {meth : Method} {c : Code} {E : EN} {K len : Nat → Nat} {sc : Int32 → Int32} {qlo : Nat} {Q : State → Prop} {rr : Int32 × Im × Xm} (C0 : CX p s m args meth c E cL_law RL 19) (hr : meth.sig.returnType = ret) (hs : s.heap.size = eB E) (hsc : sc = cellF (eS E).2 (eXs E)) (hLe : (eS E).2 ≤ 260) (hql : qlo = eB E + 808) (hqK : ∀ x, qlo ≤ x → x < qlo + 60 → K x = 11 ∧ len x = 4) (hrr : rr.1 = 1) (hend : ∀ (zn : Nat) (I : Im) (X : Xm) (H : Heap) (locs : List Loc) (ls : Array Slot), zn ≤ 2000 → WD E (zn, K, len) I X s.heap H locs → W p l e room_1 s m args below meth c H locs zn (20000 + 4 * zn) Q (F0 m 460 ls [.int 1])) (fl : Nat) (zr162 : Im → Xm → Nat → Nat → Nat → Nat → Nat → Nat → Nat → Nat → Nat → Nat → Nat → Nat → Int32 → Int32 → Option (Int32 × Im × Xm)) (zhr162 : ∀ (I : Im) (X : Xm) (zn : Nat) (zq : Nat) (H : Heap) (locs : List Loc) (ls : Array Slot) (zx1 : Nat) (zx2 : Nat) (zx3 : Nat) (zx4 : Nat) (zx5 : Nat) (zx6 : Nat) (zx7 : Nat) (zx8 : Nat) (zx9 : Nat) (zx10 : Nat) (zx11 : Int32) (zx12 : Int32) (zt1 : okA E (zn, K, len) 8 zx1) (zt2 : okA E (zn, K, len) 11 zx2) (zt3 : okA E (zn, K, len) 11 zx3) (zt4 : okA E (zn, K, len) 11 zx4) (zt5 : okA E (zn, K, len) 11 zx5) (zt6 : okA E (zn, K, len) 11 zx6) (zt7 : okA E (zn, K, len) 11 zx7) (zt8 : okA E (zn, K, len) 11 zx8) (zt9 : okA E (zn, K, len) 11 zx9) (zt10 : okA E (zn, K, len) 11 zx10), zq = eB E + zn → zn ≤ 2000 → WD E (zn, K, len) I X s.heap H locs → lv_has ls 19 [(0, .ref (eS E).1), (1, .ref zx1), (2, .ref zx2), (3, .ref zx3), (4, .ref zx4), (5, .ref zx5), (6, .ref zx6), (7, .ref zx7), (8, .ref zx8), (9, .ref zx9), (10, .ref zx10), (11, .int zx11), (12, .int zx12)] → zr162 I X zn zq zx1 zx2 zx3 zx4 zx5 zx6 zx7 zx8 zx9 zx10 zx11 zx12 = some rr → W p l e room_1 s m args below meth c H locs zn (20000 + 4 * zn) Q (F0 m 162 ls [])) : ∀ (I : Im) (X : Xm) (zn : Nat) (zq : Nat) (H : Heap) (locs : List Loc) (ls : Array Slot) (zx1 : Nat) (zx2 : Nat) (zx3 : Nat) (zx4 : Nat) (zx5 : Nat) (zx6 : Nat) (zx7 : Nat) (zx8 : Nat) (zx9 : Nat) (zx10 : Nat) (zx12 : Int32) (zx14 : Int32) (zx15 : Int32) (zt1 : okA E (zn, K, len) 8 zx1) (zt2 : okA E (zn, K, len) 11 zx2) (zt3 : okA E (zn, K, len) 11 zx3) (zt4 : okA E (zn, K, len) 11 zx4) (zt5 : okA E (zn, K, len) 11 zx5) (zt6 : okA E (zn, K, len) 11 zx6) (zt7 : okA E (zn, K, len) 11 zx7) (zt8 : okA E (zn, K, len) 11 zx8) (zt9 : okA E (zn, K, len) 11 zx9) (zt10 : okA E (zn, K, len) 11 zx10), zq = eB E + zn → zn ≤ 2000 → WD E (zn, K, len) I X s.heap H locs → lv_has ls 19 [(0, .ref (eS E).1), (1, .ref zx1), (2, .ref zx2), (3, .ref zx3), (4, .ref zx4), (5, .ref zx5), (6, .ref zx6), (7, .ref zx7), (8, .ref zx8), (9, .ref zx9), (10, .ref zx10), (12, .int zx12), (14, .int zx14), (15, .int zx15)] → m9_law_318 fl len sc qlo zr162 I X zn zq zx1 zx2 zx3 zx4 zx5 zx6 zx7 zx8 zx9 zx10 zx12 zx14 zx15 = some rr → W p l e room_1 s m args below meth c H locs zn (20000 + 4 * zn) Q (F0 m 318 ls []) := by
  intro I X zn zq H locs ls zx1 zx2 zx3 zx4 zx5 zx6 zx7 zx8 zx9 zx10 zx12 zx14 zx15 zt1 zt2 zt3 zt4 zt5 zt6 zt7 zt8 zt9 zt10 ezq hzb hw hl hf
  have hz : s.heap.size + zn ≤ eB E + zn := by omega
  unfold m9_law_318 at hf
  have hx := C0.1; have hb := C0.2.1; have hml := C0.2.2.1; have hown := C0.2.2.2.1; have hts := C0.2.2.2.2.1
  refine lv_iconst (v := (1 : Int32)) hx hb dL_law_318 (by decide) ?_
  refine lv_iload hx hb dL_law_319 (lv_at hl 13 rfl) ?_
  refine lv_iload hx hb dL_law_321 (lv_at hl 12 rfl) ?_
  refine lv_bipush (v := (24 : Int32)) hx hb dL_law_323 (by decide) ?_
  refine lv_icmp_ge (tgt := 333) hx hb dL_law_325 (by decide) (fun zc1 => ?_) (fun zc1 => ?_)
  · have hf := ite_t hf zc1
    refine lv_iconst (v := (4 : Int32)) hx hb dL_law_333 (by decide) ?_
    exact w9_law_334 C0 hr hs hsc hLe hql hqK hrr hend fl zr162 zhr162 I X zn zq _ _ _ zx1 zx2 zx3 zx4 zx5 zx6 zx7 zx8 zx9 zx10 zx12 (1 : Int32) zx15 (4 : Int32) zt1 zt2 zt3 zt4 zt5 zt6 zt7 zt8 zt9 zt10 ezq hzb hw (lv_sub hl [0, 1, 2, 3, 4, 5, 6, 7, 8, 9, 10, 11] rfl) hf
  · have hf := ite_f hf zc1
    refine lv_bipush (v := (20 : Int32)) hx hb dL_law_328 (by decide) ?_
    refine lv_goto (tgt := 334) hx hb dL_law_330 (by decide) ?_
    exact w9_law_334 C0 hr hs hsc hLe hql hqK hrr hend fl zr162 zhr162 I X zn zq _ _ _ zx1 zx2 zx3 zx4 zx5 zx6 zx7 zx8 zx9 zx10 zx12 (1 : Int32) zx15 (20 : Int32) zt1 zt2 zt3 zt4 zt5 zt6 zt7 zt8 zt9 zt10 ezq hzb hw (lv_sub hl [0, 1, 2, 3, 4, 5, 6, 7, 8, 9, 10, 11] rfl) hf
noncomputable def m9_law_313 (fl : Nat) (len : Nat → Nat) (sc : Int32 → Int32) (qlo : Nat) (zr162 : Im → Xm → Nat → Nat → Nat → Nat → Nat → Nat → Nat → Nat → Nat → Nat → Nat → Nat → Int32 → Int32 → Option (Int32 × Im × Xm)) (I : Im) (X : Xm) (zn : Nat) (zq : Nat) (zx1 : Nat) (zx2 : Nat) (zx3 : Nat) (zx4 : Nat) (zx5 : Nat) (zx6 : Nat) (zx7 : Nat) (zx8 : Nat) (zx9 : Nat) (zx10 : Nat) (zx12 : Int32) (zs0 : Int32) : Option (Int32 × Im × Xm) :=
  m9_law_399 fl len sc qlo zr162 I X zn zq zx1 zx2 zx3 zx4 zx5 zx6 zx7 zx8 zx9 zx10 zs0 zx12
set_option maxHeartbeats 4000000 in
set_option maxRecDepth 100000 in
theorem w9_law_313 {p : Program} {l : Launch} {e : Env} {s : State} {m : MethodId} {args : Array Value} {below : List Frame} {meth : Method} {c : Code} {E : EN} {K len : Nat → Nat} {sc : Int32 → Int32} {qlo : Nat} {Q : State → Prop} {rr : Int32 × Im × Xm} (C0 : CX p s m args meth c E cL_law RL 19) (hr : meth.sig.returnType = ret) (hs : s.heap.size = eB E) (hsc : sc = cellF (eS E).2 (eXs E)) (hLe : (eS E).2 ≤ 260) (hql : qlo = eB E + 808) (hqK : ∀ x, qlo ≤ x → x < qlo + 60 → K x = 11 ∧ len x = 4) (hrr : rr.1 = 1) (hend : ∀ (zn : Nat) (I : Im) (X : Xm) (H : Heap) (locs : List Loc) (ls : Array Slot), zn ≤ 2000 → WD E (zn, K, len) I X s.heap H locs → W p l e room_1 s m args below meth c H locs zn (20000 + 4 * zn) Q (F0 m 460 ls [.int 1])) (fl : Nat) (zr162 : Im → Xm → Nat → Nat → Nat → Nat → Nat → Nat → Nat → Nat → Nat → Nat → Nat → Nat → Int32 → Int32 → Option (Int32 × Im × Xm)) (zhr162 : ∀ (I : Im) (X : Xm) (zn : Nat) (zq : Nat) (H : Heap) (locs : List Loc) (ls : Array Slot) (zx1 : Nat) (zx2 : Nat) (zx3 : Nat) (zx4 : Nat) (zx5 : Nat) (zx6 : Nat) (zx7 : Nat) (zx8 : Nat) (zx9 : Nat) (zx10 : Nat) (zx11 : Int32) (zx12 : Int32) (zt1 : okA E (zn, K, len) 8 zx1) (zt2 : okA E (zn, K, len) 11 zx2) (zt3 : okA E (zn, K, len) 11 zx3) (zt4 : okA E (zn, K, len) 11 zx4) (zt5 : okA E (zn, K, len) 11 zx5) (zt6 : okA E (zn, K, len) 11 zx6) (zt7 : okA E (zn, K, len) 11 zx7) (zt8 : okA E (zn, K, len) 11 zx8) (zt9 : okA E (zn, K, len) 11 zx9) (zt10 : okA E (zn, K, len) 11 zx10), zq = eB E + zn → zn ≤ 2000 → WD E (zn, K, len) I X s.heap H locs → lv_has ls 19 [(0, .ref (eS E).1), (1, .ref zx1), (2, .ref zx2), (3, .ref zx3), (4, .ref zx4), (5, .ref zx5), (6, .ref zx6), (7, .ref zx7), (8, .ref zx8), (9, .ref zx9), (10, .ref zx10), (11, .int zx11), (12, .int zx12)] → zr162 I X zn zq zx1 zx2 zx3 zx4 zx5 zx6 zx7 zx8 zx9 zx10 zx11 zx12 = some rr → W p l e room_1 s m args below meth c H locs zn (20000 + 4 * zn) Q (F0 m 162 ls [])) : ∀ (I : Im) (X : Xm) (zn : Nat) (zq : Nat) (H : Heap) (locs : List Loc) (ls : Array Slot) (zx1 : Nat) (zx2 : Nat) (zx3 : Nat) (zx4 : Nat) (zx5 : Nat) (zx6 : Nat) (zx7 : Nat) (zx8 : Nat) (zx9 : Nat) (zx10 : Nat) (zx12 : Int32) (zs0 : Int32) (zt1 : okA E (zn, K, len) 8 zx1) (zt2 : okA E (zn, K, len) 11 zx2) (zt3 : okA E (zn, K, len) 11 zx3) (zt4 : okA E (zn, K, len) 11 zx4) (zt5 : okA E (zn, K, len) 11 zx5) (zt6 : okA E (zn, K, len) 11 zx6) (zt7 : okA E (zn, K, len) 11 zx7) (zt8 : okA E (zn, K, len) 11 zx8) (zt9 : okA E (zn, K, len) 11 zx9) (zt10 : okA E (zn, K, len) 11 zx10), zq = eB E + zn → zn ≤ 2000 → WD E (zn, K, len) I X s.heap H locs → lv_has ls 19 [(0, .ref (eS E).1), (1, .ref zx1), (2, .ref zx2), (3, .ref zx3), (4, .ref zx4), (5, .ref zx5), (6, .ref zx6), (7, .ref zx7), (8, .ref zx8), (9, .ref zx9), (10, .ref zx10), (12, .int zx12)] → m9_law_313 fl len sc qlo zr162 I X zn zq zx1 zx2 zx3 zx4 zx5 zx6 zx7 zx8 zx9 zx10 zx12 zs0 = some rr → W p l e room_1 s m args below meth c H locs zn (20000 + 4 * zn) Q (F0 m 313 ls [.int zs0]) := by
  intro I X zn zq H locs ls zx1 zx2 zx3 zx4 zx5 zx6 zx7 zx8 zx9 zx10 zx12 zs0 zt1 zt2 zt3 zt4 zt5 zt6 zt7 zt8 zt9 zt10 ezq hzb hw hl hf
  have hz : s.heap.size + zn ≤ eB E + zn := by omega
  unfold m9_law_313 at hf
  have hx := C0.1; have hb := C0.2.1; have hml := C0.2.2.1; have hown := C0.2.2.2.1; have hts := C0.2.2.2.2.1
  refine lv_istore (lv' := [(11, .int zs0), (0, .ref (eS E).1), (1, .ref zx1), (2, .ref zx2), (3, .ref zx3), (4, .ref zx4), (5, .ref zx5), (6, .ref zx6), (7, .ref zx7), (8, .ref zx8), (9, .ref zx9), (10, .ref zx10), (12, .int zx12)]) hx hb dL_law_313 hl (by decide) rfl (fun ls hl => ?_)
  refine lv_goto (tgt := 399) hx hb dL_law_315 (by decide) ?_
  exact w9_law_399 C0 hr hs hsc hLe hql hqK hrr hend fl zr162 zhr162 I X zn zq _ _ _ zx1 zx2 zx3 zx4 zx5 zx6 zx7 zx8 zx9 zx10 zs0 zx12 zt1 zt2 zt3 zt4 zt5 zt6 zt7 zt8 zt9 zt10 ezq hzb hw (lv_sub hl [1, 2, 3, 4, 5, 6, 7, 8, 9, 10, 11, 0, 12] rfl) hf
noncomputable def m9_law_258 (fl : Nat) (len : Nat → Nat) (sc : Int32 → Int32) (qlo : Nat) (zr162 : Im → Xm → Nat → Nat → Nat → Nat → Nat → Nat → Nat → Nat → Nat → Nat → Nat → Nat → Int32 → Int32 → Option (Int32 × Im × Xm)) (I : Im) (X : Xm) (zn : Nat) (zq : Nat) (zx1 : Nat) (zx2 : Nat) (zx3 : Nat) (zx4 : Nat) (zx5 : Nat) (zx6 : Nat) (zx7 : Nat) (zx8 : Nat) (zx9 : Nat) (zx10 : Nat) (zx12 : Int32) (zx15 : Int32) (zs0 : Nat) (zs1 : Nat) (zs2 : Nat) (zs3 : Nat) (zs4 : Nat) (zs5 : Int32) : Option (Int32 × Im × Xm) :=
  nn (m9_isSet fl len X I zs0 zs1 zs2 zs3 zs4 zs5 zx15) fun ⟨zv1, zI2, zX3⟩ =>
  m9_law_399 fl len sc qlo zr162 zI2 zX3 zn zq zx1 zx2 zx3 zx4 zx5 zx6 zx7 zx8 zx9 zx10 zv1 zx12
set_option maxHeartbeats 4000000 in
set_option maxRecDepth 100000 in
theorem w9_law_258 {p : Program} {l : Launch} {e : Env} {s : State} {m : MethodId} {args : Array Value} {below : List Frame} {meth : Method} {c : Code} {E : EN} {K len : Nat → Nat} {sc : Int32 → Int32} {qlo : Nat} {Q : State → Prop} {rr : Int32 × Im × Xm} (C0 : CX p s m args meth c E cL_law RL 19) (hr : meth.sig.returnType = ret) (hs : s.heap.size = eB E) (hsc : sc = cellF (eS E).2 (eXs E)) (hLe : (eS E).2 ≤ 260) (hql : qlo = eB E + 808) (hqK : ∀ x, qlo ≤ x → x < qlo + 60 → K x = 11 ∧ len x = 4) (hrr : rr.1 = 1) (hend : ∀ (zn : Nat) (I : Im) (X : Xm) (H : Heap) (locs : List Loc) (ls : Array Slot), zn ≤ 2000 → WD E (zn, K, len) I X s.heap H locs → W p l e room_1 s m args below meth c H locs zn (20000 + 4 * zn) Q (F0 m 460 ls [.int 1])) (fl : Nat) (zr162 : Im → Xm → Nat → Nat → Nat → Nat → Nat → Nat → Nat → Nat → Nat → Nat → Nat → Nat → Int32 → Int32 → Option (Int32 × Im × Xm)) (zhr162 : ∀ (I : Im) (X : Xm) (zn : Nat) (zq : Nat) (H : Heap) (locs : List Loc) (ls : Array Slot) (zx1 : Nat) (zx2 : Nat) (zx3 : Nat) (zx4 : Nat) (zx5 : Nat) (zx6 : Nat) (zx7 : Nat) (zx8 : Nat) (zx9 : Nat) (zx10 : Nat) (zx11 : Int32) (zx12 : Int32) (zt1 : okA E (zn, K, len) 8 zx1) (zt2 : okA E (zn, K, len) 11 zx2) (zt3 : okA E (zn, K, len) 11 zx3) (zt4 : okA E (zn, K, len) 11 zx4) (zt5 : okA E (zn, K, len) 11 zx5) (zt6 : okA E (zn, K, len) 11 zx6) (zt7 : okA E (zn, K, len) 11 zx7) (zt8 : okA E (zn, K, len) 11 zx8) (zt9 : okA E (zn, K, len) 11 zx9) (zt10 : okA E (zn, K, len) 11 zx10), zq = eB E + zn → zn ≤ 2000 → WD E (zn, K, len) I X s.heap H locs → lv_has ls 19 [(0, .ref (eS E).1), (1, .ref zx1), (2, .ref zx2), (3, .ref zx3), (4, .ref zx4), (5, .ref zx5), (6, .ref zx6), (7, .ref zx7), (8, .ref zx8), (9, .ref zx9), (10, .ref zx10), (11, .int zx11), (12, .int zx12)] → zr162 I X zn zq zx1 zx2 zx3 zx4 zx5 zx6 zx7 zx8 zx9 zx10 zx11 zx12 = some rr → W p l e room_1 s m args below meth c H locs zn (20000 + 4 * zn) Q (F0 m 162 ls [])) : ∀ (I : Im) (X : Xm) (zn : Nat) (zq : Nat) (H : Heap) (locs : List Loc) (ls : Array Slot) (zx1 : Nat) (zx2 : Nat) (zx3 : Nat) (zx4 : Nat) (zx5 : Nat) (zx6 : Nat) (zx7 : Nat) (zx8 : Nat) (zx9 : Nat) (zx10 : Nat) (zx12 : Int32) (zx15 : Int32) (zs0 : Nat) (zs1 : Nat) (zs2 : Nat) (zs3 : Nat) (zs4 : Nat) (zs5 : Int32) (zt1 : okA E (zn, K, len) 8 zx1) (zt2 : okA E (zn, K, len) 11 zx2) (zt3 : okA E (zn, K, len) 11 zx3) (zt4 : okA E (zn, K, len) 11 zx4) (zt5 : okA E (zn, K, len) 11 zx5) (zt6 : okA E (zn, K, len) 11 zx6) (zt7 : okA E (zn, K, len) 11 zx7) (zt8 : okA E (zn, K, len) 11 zx8) (zt9 : okA E (zn, K, len) 11 zx9) (zt10 : okA E (zn, K, len) 11 zx10) (zts0 : okA E (zn, K, len) 8 zs0) (zts1 : okA E (zn, K, len) 11 zs1) (zts2 : okA E (zn, K, len) 11 zs2) (zts3 : okA E (zn, K, len) 11 zs3) (zts4 : okA E (zn, K, len) 11 zs4), zq = eB E + zn → zn ≤ 2000 → WD E (zn, K, len) I X s.heap H locs → lv_has ls 19 [(0, .ref (eS E).1), (1, .ref zx1), (2, .ref zx2), (3, .ref zx3), (4, .ref zx4), (5, .ref zx5), (6, .ref zx6), (7, .ref zx7), (8, .ref zx8), (9, .ref zx9), (10, .ref zx10), (12, .int zx12), (15, .int zx15)] → m9_law_258 fl len sc qlo zr162 I X zn zq zx1 zx2 zx3 zx4 zx5 zx6 zx7 zx8 zx9 zx10 zx12 zx15 zs0 zs1 zs2 zs3 zs4 zs5 = some rr → W p l e room_1 s m args below meth c H locs zn (20000 + 4 * zn) Q (F0 m 258 ls [.int zs5, .ref zs4, .ref zs3, .ref zs2, .ref zs1, .ref zs0]) := by
  intro I X zn zq H locs ls zx1 zx2 zx3 zx4 zx5 zx6 zx7 zx8 zx9 zx10 zx12 zx15 zs0 zs1 zs2 zs3 zs4 zs5 zt1 zt2 zt3 zt4 zt5 zt6 zt7 zt8 zt9 zt10 zts0 zts1 zts2 zts3 zts4 ezq hzb hw hl hf
  have hz : s.heap.size + zn ≤ eB E + zn := by omega
  unfold m9_law_258 at hf
  have hx := C0.1; have hb := C0.2.1; have hml := C0.2.2.1; have hown := C0.2.2.2.1; have hts := C0.2.2.2.2.1
  refine lv_iload hx hb dL_law_258 (lv_at hl 12 rfl) ?_
  obtain ⟨⟨zv1, zI2, zX3⟩, ze4, hf⟩ := nn_some hf
  refine x_ci (r := zv1) (I1 := zI2) (X1 := zX3) (x_runS (As := [.ref zs0, .ref zs1, .ref zs2, .ref zs3, .ref zs4, .int zs5, .int zx15]) (rest := []) C0 (c9_isSet l E (zn, K, len) fl X I zs0 zs1 zs2 zs3 zs4 zs5 zx15 zts0 zts1 zts2 zts3 zts4 ze4) hw wd93 wd484 wd485 wd422 ⟨rfl, rfl⟩ hy9_isSet ⟨Nat.le_of_ble_eq_true rfl, Nat.le_of_ble_eq_true rfl⟩ rfl hl.1 (Nat.le_of_ble_eq_true rfl) ⟨by show zn + 0 ≤ 600000; omega, by show 20000 + 4 * zn + 0 ≤ 7302250; omega⟩ dL_law_260) hw (fun H locs hw => ?_)
  refine lv_istore (lv' := [(11, .int zv1), (0, .ref (eS E).1), (1, .ref zx1), (2, .ref zx2), (3, .ref zx3), (4, .ref zx4), (5, .ref zx5), (6, .ref zx6), (7, .ref zx7), (8, .ref zx8), (9, .ref zx9), (10, .ref zx10), (12, .int zx12), (15, .int zx15)]) hx hb dL_law_263 hl (by decide) rfl (fun ls hl => ?_)
  refine lv_goto (tgt := 399) hx hb dL_law_265 (by decide) ?_
  exact w9_law_399 C0 hr hs hsc hLe hql hqK hrr hend fl zr162 zhr162 zI2 zX3 zn zq _ _ _ zx1 zx2 zx3 zx4 zx5 zx6 zx7 zx8 zx9 zx10 zv1 zx12 zt1 zt2 zt3 zt4 zt5 zt6 zt7 zt8 zt9 zt10 ezq hzb hw (lv_sub hl [1, 2, 3, 4, 5, 6, 7, 8, 9, 10, 11, 0, 12] rfl) hf
noncomputable def m9_law_162b (fl : Nat) (len : Nat → Nat) (sc : Int32 → Int32) (qlo : Nat) (zr162 : Im → Xm → Nat → Nat → Nat → Nat → Nat → Nat → Nat → Nat → Nat → Nat → Nat → Nat → Int32 → Int32 → Option (Int32 × Im × Xm)) (I : Im) (X : Xm) (zn : Nat) (zq : Nat) (zx1 : Nat) (zx2 : Nat) (zx3 : Nat) (zx4 : Nat) (zx5 : Nat) (zx6 : Nat) (zx7 : Nat) (zx8 : Nat) (zx9 : Nat) (zx10 : Nat) (zx11 : Int32) (zx12 : Int32) : Option (Int32 × Im × Xm) :=
  if (60 : Int32) ≤ zx12 then
    m9_law_458 fl len sc qlo I X zn zq zx11
  else
    if zx11 = 0 then
      m9_law_458 fl len sc qlo I X zn zq zx11
    else
      ck (inb zx12 1000 = true) <|
      lt (((sc zx12) &&& (2147483647 : Int32))) fun zv4 =>
      lt ((zv4 - zv4 / (29 : Int32) * (29 : Int32))) fun zv5 =>
      lt ((zv4 / (29 : Int32))) fun zv6 =>
      if (16 : Int32) ≤ zv5 then
        if (20 : Int32) ≤ zv5 then
          if zv5 = (20 : Int32) then
            if (zv6 - zv6 / (5 : Int32) * (5 : Int32)) = 0 then
              ck (inb (4 : Int32) (len zx2) = true) <|
              lt ((gA I zx2 ((4 : Int32)).toNatClampNeg)) fun zv12 =>
              nn (m9_restart fl len X I zx2 zx4 zx5 zx6 zx7) fun zI13 =>
              nn (m8_begin fl len X zI13 zx1) fun ⟨zv15, zI16, zX17⟩ =>
              if zv15 = zv12 then
                m9_law_313 fl len sc qlo zr162 zI16 zX17 zn zq zx1 zx2 zx3 zx4 zx5 zx6 zx7 zx8 zx9 zx10 zx12 (1 : Int32)
              else
                m9_law_313 fl len sc qlo zr162 zI16 zX17 zn zq zx1 zx2 zx3 zx4 zx5 zx6 zx7 zx8 zx9 zx10 zx12 (0 : Int32)
            else
              m9_law_318 fl len sc qlo zr162 I X zn zq zx1 zx2 zx3 zx4 zx5 zx6 zx7 zx8 zx9 zx10 zx12 zv5 zv6
          else
            m9_law_318 fl len sc qlo zr162 I X zn zq zx1 zx2 zx3 zx4 zx5 zx6 zx7 zx8 zx9 zx10 zx12 zv5 zv6
        else
          if (zv5 - (16 : Int32)) = (3 : Int32) then
            m9_law_258 fl len sc qlo zr162 I X zn zq zx1 zx2 zx3 zx4 zx5 zx6 zx7 zx8 zx9 zx10 zx12 zv6 zx1 zx2 zx5 zx6 zx7 (4 : Int32)
          else
            m9_law_258 fl len sc qlo zr162 I X zn zq zx1 zx2 zx3 zx4 zx5 zx6 zx7 zx8 zx9 zx10 zx12 zv6 zx1 zx2 zx5 zx6 zx7 (zv5 - (16 : Int32))
      else
        nn (m9_isCue fl len X I zx1 zx2 zx3 zx4 zx5 zv5 zv6) fun ⟨zv21, zI22, zX23⟩ =>
        m9_law_399 fl len sc qlo zr162 zI22 zX23 zn zq zx1 zx2 zx3 zx4 zx5 zx6 zx7 zx8 zx9 zx10 zv21 zx12
noncomputable def m9_law_162 (fl : Nat) (len : Nat → Nat) (sc : Int32 → Int32) (qlo : Nat) (n : Nat) : Im → Xm → Nat → Nat → Nat → Nat → Nat → Nat → Nat → Nat → Nat → Nat → Nat → Nat → Int32 → Int32 → Option (Int32 × Im × Xm) :=
  Nat.rec (fun _ _ _ _ _ _ _ _ _ _ _ _ _ _ _ _ => none) (fun _ r => m9_law_162b fl len sc qlo r) n
set_option maxHeartbeats 4000000 in
set_option maxRecDepth 100000 in
theorem w9_law_162b {p : Program} {l : Launch} {e : Env} {s : State} {m : MethodId} {args : Array Value} {below : List Frame} {meth : Method} {c : Code} {E : EN} {K len : Nat → Nat} {sc : Int32 → Int32} {qlo : Nat} {Q : State → Prop} {rr : Int32 × Im × Xm} (C0 : CX p s m args meth c E cL_law RL 19) (hr : meth.sig.returnType = ret) (hs : s.heap.size = eB E) (hsc : sc = cellF (eS E).2 (eXs E)) (hLe : (eS E).2 ≤ 260) (hql : qlo = eB E + 808) (hqK : ∀ x, qlo ≤ x → x < qlo + 60 → K x = 11 ∧ len x = 4) (hrr : rr.1 = 1) (hend : ∀ (zn : Nat) (I : Im) (X : Xm) (H : Heap) (locs : List Loc) (ls : Array Slot), zn ≤ 2000 → WD E (zn, K, len) I X s.heap H locs → W p l e room_1 s m args below meth c H locs zn (20000 + 4 * zn) Q (F0 m 460 ls [.int 1])) (fl : Nat) (zr162 : Im → Xm → Nat → Nat → Nat → Nat → Nat → Nat → Nat → Nat → Nat → Nat → Nat → Nat → Int32 → Int32 → Option (Int32 × Im × Xm)) (zhr162 : ∀ (I : Im) (X : Xm) (zn : Nat) (zq : Nat) (H : Heap) (locs : List Loc) (ls : Array Slot) (zx1 : Nat) (zx2 : Nat) (zx3 : Nat) (zx4 : Nat) (zx5 : Nat) (zx6 : Nat) (zx7 : Nat) (zx8 : Nat) (zx9 : Nat) (zx10 : Nat) (zx11 : Int32) (zx12 : Int32) (zt1 : okA E (zn, K, len) 8 zx1) (zt2 : okA E (zn, K, len) 11 zx2) (zt3 : okA E (zn, K, len) 11 zx3) (zt4 : okA E (zn, K, len) 11 zx4) (zt5 : okA E (zn, K, len) 11 zx5) (zt6 : okA E (zn, K, len) 11 zx6) (zt7 : okA E (zn, K, len) 11 zx7) (zt8 : okA E (zn, K, len) 11 zx8) (zt9 : okA E (zn, K, len) 11 zx9) (zt10 : okA E (zn, K, len) 11 zx10), zq = eB E + zn → zn ≤ 2000 → WD E (zn, K, len) I X s.heap H locs → lv_has ls 19 [(0, .ref (eS E).1), (1, .ref zx1), (2, .ref zx2), (3, .ref zx3), (4, .ref zx4), (5, .ref zx5), (6, .ref zx6), (7, .ref zx7), (8, .ref zx8), (9, .ref zx9), (10, .ref zx10), (11, .int zx11), (12, .int zx12)] → zr162 I X zn zq zx1 zx2 zx3 zx4 zx5 zx6 zx7 zx8 zx9 zx10 zx11 zx12 = some rr → W p l e room_1 s m args below meth c H locs zn (20000 + 4 * zn) Q (F0 m 162 ls [])) : ∀ (I : Im) (X : Xm) (zn : Nat) (zq : Nat) (H : Heap) (locs : List Loc) (ls : Array Slot) (zx1 : Nat) (zx2 : Nat) (zx3 : Nat) (zx4 : Nat) (zx5 : Nat) (zx6 : Nat) (zx7 : Nat) (zx8 : Nat) (zx9 : Nat) (zx10 : Nat) (zx11 : Int32) (zx12 : Int32) (zt1 : okA E (zn, K, len) 8 zx1) (zt2 : okA E (zn, K, len) 11 zx2) (zt3 : okA E (zn, K, len) 11 zx3) (zt4 : okA E (zn, K, len) 11 zx4) (zt5 : okA E (zn, K, len) 11 zx5) (zt6 : okA E (zn, K, len) 11 zx6) (zt7 : okA E (zn, K, len) 11 zx7) (zt8 : okA E (zn, K, len) 11 zx8) (zt9 : okA E (zn, K, len) 11 zx9) (zt10 : okA E (zn, K, len) 11 zx10), zq = eB E + zn → zn ≤ 2000 → WD E (zn, K, len) I X s.heap H locs → lv_has ls 19 [(0, .ref (eS E).1), (1, .ref zx1), (2, .ref zx2), (3, .ref zx3), (4, .ref zx4), (5, .ref zx5), (6, .ref zx6), (7, .ref zx7), (8, .ref zx8), (9, .ref zx9), (10, .ref zx10), (11, .int zx11), (12, .int zx12)] → m9_law_162b fl len sc qlo zr162 I X zn zq zx1 zx2 zx3 zx4 zx5 zx6 zx7 zx8 zx9 zx10 zx11 zx12 = some rr → W p l e room_1 s m args below meth c H locs zn (20000 + 4 * zn) Q (F0 m 162 ls []) := by
  intro I X zn zq H locs ls zx1 zx2 zx3 zx4 zx5 zx6 zx7 zx8 zx9 zx10 zx11 zx12 zt1 zt2 zt3 zt4 zt5 zt6 zt7 zt8 zt9 zt10 ezq hzb hw hl hf
  have hz : s.heap.size + zn ≤ eB E + zn := by omega
  unfold m9_law_162b at hf
  have hx := C0.1; have hb := C0.2.1; have hml := C0.2.2.1; have hown := C0.2.2.2.1; have hts := C0.2.2.2.2.1
  refine lv_iload hx hb dL_law_162 (lv_at hl 12 rfl) ?_
  refine lv_bipush (v := (60 : Int32)) hx hb dL_law_164 (by decide) ?_
  refine lv_icmp_ge (tgt := 458) hx hb dL_law_166 (by decide) (fun zc1 => ?_) (fun zc1 => ?_)
  · have hf := ite_t hf zc1
    exact w9_law_458 C0 hr hs hsc hLe hql hqK hrr hend fl I X zn zq _ _ _ zx11 ezq hzb hw (lv_sub hl [11] rfl) hf
  · have hf := ite_f hf zc1
    refine lv_iload hx hb dL_law_169 (lv_at hl 11 rfl) ?_
    refine lv_if_eq (tgt := 458) hx hb dL_law_171 (by decide) (fun zc2 => ?_) (fun zc2 => ?_)
    · have hf := ite_t hf zc2
      exact w9_law_458 C0 hr hs hsc hLe hql hqK hrr hend fl I X zn zq _ _ _ zx11 ezq hzb hw (lv_sub hl [11] rfl) hf
    · have hf := ite_f hf zc2
      refine lv_aload_n hx hb dL_law_174 rfl (lv_at hl 0 rfl) ?_
      refine lv_iload hx hb dL_law_175 (lv_at hl 12 rfl) ?_
      obtain ⟨zhc3, hf⟩ := ck_some hf
      refine x_ci (r := (sc zx12)) (I1 := I) (X1 := X) (x_runS (As := [.ref (eS E).1, .int zx12]) (rest := []) C0 (c9_cell l E (zn, K, len) I X zx12 zhc3 hLe hsc) hw wd79 wd482 wd483 wd422 ⟨rfl, rfl⟩ hy9_cell ⟨Nat.le_of_ble_eq_true rfl, Nat.le_of_ble_eq_true rfl⟩ rfl hl.1 (Nat.le_of_ble_eq_true rfl) ⟨by show zn + 0 ≤ 600000; omega, by show 20000 + 4 * zn + 0 ≤ 7302250; omega⟩ dL_law_177) hw (fun H locs hw => ?_)
      refine lv_ldc (v := (2147483647 : Int32)) hx hb hown (hts _ wd479) dL_law_180 ?_
      refine lv_iand hx hb dL_law_182 ?_
      refine lv_topi (fun zv4 ezv4 => ?_)
      have hf := lt_at hf ezv4
      refine lv_istore (lv' := [(13, .int zv4), (0, .ref (eS E).1), (1, .ref zx1), (2, .ref zx2), (3, .ref zx3), (4, .ref zx4), (5, .ref zx5), (6, .ref zx6), (7, .ref zx7), (8, .ref zx8), (9, .ref zx9), (10, .ref zx10), (11, .int zx11), (12, .int zx12)]) hx hb dL_law_183 hl (by decide) rfl (fun ls hl => ?_)
      refine lv_iload hx hb dL_law_185 (lv_at hl 0 rfl) ?_
      refine lv_bipush (v := (29 : Int32)) hx hb dL_law_187 (by decide) ?_
      refine lv_irem hx hb dL_law_189 (by decide) ?_
      refine lv_topi (fun zv5 ezv5 => ?_)
      have hf := lt_at hf ezv5
      refine lv_istore (lv' := [(14, .int zv5), (13, .int zv4), (0, .ref (eS E).1), (1, .ref zx1), (2, .ref zx2), (3, .ref zx3), (4, .ref zx4), (5, .ref zx5), (6, .ref zx6), (7, .ref zx7), (8, .ref zx8), (9, .ref zx9), (10, .ref zx10), (11, .int zx11), (12, .int zx12)]) hx hb dL_law_190 hl (by decide) rfl (fun ls hl => ?_)
      refine lv_iload hx hb dL_law_192 (lv_at hl 1 rfl) ?_
      refine lv_bipush (v := (29 : Int32)) hx hb dL_law_194 (by decide) ?_
      refine lv_idiv hx hb dL_law_196 (by decide) ?_
      refine lv_topi (fun zv6 ezv6 => ?_)
      have hf := lt_at hf ezv6
      refine lv_istore (lv' := [(15, .int zv6), (14, .int zv5), (13, .int zv4), (0, .ref (eS E).1), (1, .ref zx1), (2, .ref zx2), (3, .ref zx3), (4, .ref zx4), (5, .ref zx5), (6, .ref zx6), (7, .ref zx7), (8, .ref zx8), (9, .ref zx9), (10, .ref zx10), (11, .int zx11), (12, .int zx12)]) hx hb dL_law_197 hl (by decide) rfl (fun ls hl => ?_)
      refine lv_iload hx hb dL_law_199 (lv_at hl 1 rfl) ?_
      refine lv_bipush (v := (16 : Int32)) hx hb dL_law_201 (by decide) ?_
      refine lv_icmp_ge (tgt := 225) hx hb dL_law_203 (by decide) (fun zc7 => ?_) (fun zc7 => ?_)
      · have hf := ite_t hf zc7
        refine lv_iload hx hb dL_law_225 (lv_at hl 1 rfl) ?_
        refine lv_bipush (v := (20 : Int32)) hx hb dL_law_227 (by decide) ?_
        refine lv_icmp_ge (tgt := 268) hx hb dL_law_229 (by decide) (fun zc8 => ?_) (fun zc8 => ?_)
        · have hf := ite_t hf zc8
          refine lv_iload hx hb dL_law_268 (lv_at hl 1 rfl) ?_
          refine lv_bipush (v := (20 : Int32)) hx hb dL_law_270 (by decide) ?_
          refine lv_icmp_ne (tgt := 318) hx hb dL_law_272 (by decide) (fun zc9 => ?_) (fun zc9 => ?_)
          · have hf := ite_f hf zc9
            exact w9_law_318 C0 hr hs hsc hLe hql hqK hrr hend fl zr162 zhr162 I X zn zq _ _ _ zx1 zx2 zx3 zx4 zx5 zx6 zx7 zx8 zx9 zx10 zx12 zv5 zv6 zt1 zt2 zt3 zt4 zt5 zt6 zt7 zt8 zt9 zt10 ezq hzb hw (lv_sub hl [3, 4, 5, 6, 7, 8, 9, 10, 11, 12, 13, 15, 1, 0] rfl) hf
          · have hf := ite_t hf zc9
            refine lv_iload hx hb dL_law_275 (lv_at hl 0 rfl) ?_
            refine lv_iconst (v := (5 : Int32)) hx hb dL_law_277 (by decide) ?_
            refine lv_irem hx hb dL_law_278 (by decide) ?_
            refine lv_if_ne (tgt := 318) hx hb dL_law_279 (by decide) (fun zc10 => ?_) (fun zc10 => ?_)
            · have hf := ite_f hf zc10
              exact w9_law_318 C0 hr hs hsc hLe hql hqK hrr hend fl zr162 zhr162 I X zn zq _ _ _ zx1 zx2 zx3 zx4 zx5 zx6 zx7 zx8 zx9 zx10 zx12 zv5 zv6 zt1 zt2 zt3 zt4 zt5 zt6 zt7 zt8 zt9 zt10 ezq hzb hw (lv_sub hl [3, 4, 5, 6, 7, 8, 9, 10, 11, 12, 13, 15, 1, 0] rfl) hf
            · have hf := ite_t hf zc10
              refine lv_aload_n hx hb dL_law_282 rfl (lv_at hl 5 rfl) ?_
              refine lv_iconst (v := (4 : Int32)) hx hb dL_law_283 (by decide) ?_
              obtain ⟨zhb11, hf⟩ := ck_some hf
              refine x_iald C0 hw zt2 zhb11 dL_law_284 ?_
              refine lv_topi (fun zv12 ezv12 => ?_)
              have hf := lt_at hf ezv12
              refine lv_istore (lv' := [(16, .int zv12), (15, .int zv6), (14, .int zv5), (13, .int zv4), (0, .ref (eS E).1), (1, .ref zx1), (2, .ref zx2), (3, .ref zx3), (4, .ref zx4), (5, .ref zx5), (6, .ref zx6), (7, .ref zx7), (8, .ref zx8), (9, .ref zx9), (10, .ref zx10), (11, .int zx11), (12, .int zx12)]) hx hb dL_law_285 hl (by decide) rfl (fun ls hl => ?_)
              refine lv_aload_n hx hb dL_law_287 rfl (lv_at hl 6 rfl) ?_
              refine lv_aload hx hb dL_law_288 (lv_at hl 8 rfl) ?_
              refine lv_aload hx hb dL_law_290 (lv_at hl 9 rfl) ?_
              refine lv_aload hx hb dL_law_292 (lv_at hl 10 rfl) ?_
              refine lv_aload hx hb dL_law_294 (lv_at hl 11 rfl) ?_
              obtain ⟨zI13, ze14, hf⟩ := nn_some hf
              refine x_cv (I1 := zI13) (X1 := X) (x_runS (As := [.ref zx2, .ref zx4, .ref zx5, .ref zx6, .ref zx7]) (rest := []) C0 (c9_restart l E (zn, K, len) fl X I zx2 zx4 zx5 zx6 zx7 zt2 zt4 zt5 zt6 zt7 ze14) hw wd92 wd488 wd489 wd422 ⟨rfl, rfl⟩ hy9_restart ⟨Nat.le_of_ble_eq_true rfl, Nat.le_of_ble_eq_true rfl⟩ rfl hl.1 (Nat.le_of_ble_eq_true rfl) ⟨by show zn + 0 ≤ 600000; omega, by show 20000 + 4 * zn + 0 ≤ 7302250; omega⟩ dL_law_296) hw (fun H locs hw => ?_)
              refine lv_aload_n hx hb dL_law_299 rfl (lv_at hl 5 rfl) ?_
              obtain ⟨⟨zv15, zI16, zX17⟩, ze18, hf⟩ := nn_some hf
              refine x_ci (r := zv15) (I1 := zI16) (X1 := zX17) (x_runV (As := []) (rest := []) C0 (c8_begin l E (zn, K, len) fl X zI13 zx1 zt1 ze18) hw 8 zt1 (by decide) rfl wd66 wd490 wd491 wd492 wd107 ⟨rfl, rfl⟩ hy8_begin ⟨Nat.le_of_ble_eq_true rfl, Nat.le_of_ble_eq_true rfl⟩ rfl hl.1 (Nat.le_of_ble_eq_true rfl) ⟨by show zn + 0 ≤ 600000; omega, by show 20000 + 4 * zn + 0 ≤ 7302250; omega⟩ dL_law_300) hw (fun H locs hw => ?_)
              refine lv_iload hx hb dL_law_303 (lv_at hl 0 rfl) ?_
              refine lv_icmp_ne (tgt := 312) hx hb dL_law_305 (by decide) (fun zc19 => ?_) (fun zc19 => ?_)
              · have hf := ite_f hf zc19
                refine lv_iconst (v := (0 : Int32)) hx hb dL_law_312 (by decide) ?_
                exact w9_law_313 C0 hr hs hsc hLe hql hqK hrr hend fl zr162 zhr162 zI16 zX17 zn zq _ _ _ zx1 zx2 zx3 zx4 zx5 zx6 zx7 zx8 zx9 zx10 zx12 (0 : Int32) zt1 zt2 zt3 zt4 zt5 zt6 zt7 zt8 zt9 zt10 ezq hzb hw (lv_sub hl [4, 5, 6, 7, 8, 9, 10, 11, 12, 13, 14, 16] rfl) hf
              · have hf := ite_t hf zc19
                refine lv_iconst (v := (1 : Int32)) hx hb dL_law_308 (by decide) ?_
                refine lv_goto (tgt := 313) hx hb dL_law_309 (by decide) ?_
                exact w9_law_313 C0 hr hs hsc hLe hql hqK hrr hend fl zr162 zhr162 zI16 zX17 zn zq _ _ _ zx1 zx2 zx3 zx4 zx5 zx6 zx7 zx8 zx9 zx10 zx12 (1 : Int32) zt1 zt2 zt3 zt4 zt5 zt6 zt7 zt8 zt9 zt10 ezq hzb hw (lv_sub hl [4, 5, 6, 7, 8, 9, 10, 11, 12, 13, 14, 16] rfl) hf
        · have hf := ite_f hf zc8
          refine lv_aload_n hx hb dL_law_232 rfl (lv_at hl 4 rfl) ?_
          refine lv_aload_n hx hb dL_law_233 rfl (lv_at hl 5 rfl) ?_
          refine lv_aload hx hb dL_law_234 (lv_at hl 8 rfl) ?_
          refine lv_aload hx hb dL_law_236 (lv_at hl 9 rfl) ?_
          refine lv_aload hx hb dL_law_238 (lv_at hl 10 rfl) ?_
          refine lv_iload hx hb dL_law_240 (lv_at hl 1 rfl) ?_
          refine lv_bipush (v := (16 : Int32)) hx hb dL_law_242 (by decide) ?_
          refine lv_isub hx hb dL_law_244 ?_
          refine lv_iconst (v := (3 : Int32)) hx hb dL_law_245 (by decide) ?_
          refine lv_icmp_ne (tgt := 253) hx hb dL_law_246 (by decide) (fun zc20 => ?_) (fun zc20 => ?_)
          · have hf := ite_f hf zc20
            refine lv_iload hx hb dL_law_253 (lv_at hl 1 rfl) ?_
            refine lv_bipush (v := (16 : Int32)) hx hb dL_law_255 (by decide) ?_
            refine lv_isub hx hb dL_law_257 ?_
            exact w9_law_258 C0 hr hs hsc hLe hql hqK hrr hend fl zr162 zhr162 I X zn zq _ _ _ zx1 zx2 zx3 zx4 zx5 zx6 zx7 zx8 zx9 zx10 zx12 zv6 zx1 zx2 zx5 zx6 zx7 (zv5 - (16 : Int32)) zt1 zt2 zt3 zt4 zt5 zt6 zt7 zt8 zt9 zt10 zt1 zt2 zt5 zt6 zt7 ezq hzb hw (lv_sub hl [3, 4, 5, 6, 7, 8, 9, 10, 11, 12, 13, 15, 0] rfl) hf
          · have hf := ite_t hf zc20
            refine lv_iconst (v := (4 : Int32)) hx hb dL_law_249 (by decide) ?_
            refine lv_goto (tgt := 258) hx hb dL_law_250 (by decide) ?_
            exact w9_law_258 C0 hr hs hsc hLe hql hqK hrr hend fl zr162 zhr162 I X zn zq _ _ _ zx1 zx2 zx3 zx4 zx5 zx6 zx7 zx8 zx9 zx10 zx12 zv6 zx1 zx2 zx5 zx6 zx7 (4 : Int32) zt1 zt2 zt3 zt4 zt5 zt6 zt7 zt8 zt9 zt10 zt1 zt2 zt5 zt6 zt7 ezq hzb hw (lv_sub hl [3, 4, 5, 6, 7, 8, 9, 10, 11, 12, 13, 15, 0] rfl) hf
      · have hf := ite_f hf zc7
        refine lv_aload_n hx hb dL_law_206 rfl (lv_at hl 4 rfl) ?_
        refine lv_aload_n hx hb dL_law_207 rfl (lv_at hl 5 rfl) ?_
        refine lv_aload_n hx hb dL_law_208 rfl (lv_at hl 6 rfl) ?_
        refine lv_aload hx hb dL_law_209 (lv_at hl 7 rfl) ?_
        refine lv_aload hx hb dL_law_211 (lv_at hl 8 rfl) ?_
        refine lv_iload hx hb dL_law_213 (lv_at hl 1 rfl) ?_
        refine lv_iload hx hb dL_law_215 (lv_at hl 0 rfl) ?_
        obtain ⟨⟨zv21, zI22, zX23⟩, ze24, hf⟩ := nn_some hf
        refine x_ci (r := zv21) (I1 := zI22) (X1 := zX23) (x_runS (As := [.ref zx1, .ref zx2, .ref zx3, .ref zx4, .ref zx5, .int zv5, .int zv6]) (rest := []) C0 (c9_isCue l E (zn, K, len) fl X I zx1 zx2 zx3 zx4 zx5 zv5 zv6 zt1 zt2 zt3 zt4 zt5 ze24) hw wd91 wd486 wd487 wd422 ⟨rfl, rfl⟩ hy9_isCue ⟨Nat.le_of_ble_eq_true rfl, Nat.le_of_ble_eq_true rfl⟩ rfl hl.1 (Nat.le_of_ble_eq_true rfl) ⟨by show zn + 0 ≤ 600000; omega, by show 20000 + 4 * zn + 0 ≤ 7302250; omega⟩ dL_law_217) hw (fun H locs hw => ?_)
        refine lv_istore (lv' := [(11, .int zv21), (15, .int zv6), (14, .int zv5), (13, .int zv4), (0, .ref (eS E).1), (1, .ref zx1), (2, .ref zx2), (3, .ref zx3), (4, .ref zx4), (5, .ref zx5), (6, .ref zx6), (7, .ref zx7), (8, .ref zx8), (9, .ref zx9), (10, .ref zx10), (12, .int zx12)]) hx hb dL_law_220 hl (by decide) rfl (fun ls hl => ?_)
        refine lv_goto (tgt := 399) hx hb dL_law_222 (by decide) ?_
        exact w9_law_399 C0 hr hs hsc hLe hql hqK hrr hend fl zr162 zhr162 zI22 zX23 zn zq _ _ _ zx1 zx2 zx3 zx4 zx5 zx6 zx7 zx8 zx9 zx10 zv21 zx12 zt1 zt2 zt3 zt4 zt5 zt6 zt7 zt8 zt9 zt10 ezq hzb hw (lv_sub hl [4, 5, 6, 7, 8, 9, 10, 11, 12, 13, 14, 0, 15] rfl) hf
theorem w9_law_162 {p : Program} {l : Launch} {e : Env} {s : State} {m : MethodId} {args : Array Value} {below : List Frame} {meth : Method} {c : Code} {E : EN} {K len : Nat → Nat} {sc : Int32 → Int32} {qlo : Nat} {Q : State → Prop} {rr : Int32 × Im × Xm} (C0 : CX p s m args meth c E cL_law RL 19) (hr : meth.sig.returnType = ret) (hs : s.heap.size = eB E) (hsc : sc = cellF (eS E).2 (eXs E)) (hLe : (eS E).2 ≤ 260) (hql : qlo = eB E + 808) (hqK : ∀ x, qlo ≤ x → x < qlo + 60 → K x = 11 ∧ len x = 4) (hrr : rr.1 = 1) (hend : ∀ (zn : Nat) (I : Im) (X : Xm) (H : Heap) (locs : List Loc) (ls : Array Slot), zn ≤ 2000 → WD E (zn, K, len) I X s.heap H locs → W p l e room_1 s m args below meth c H locs zn (20000 + 4 * zn) Q (F0 m 460 ls [.int 1])) (fl : Nat) : ∀ (n : Nat) (I : Im) (X : Xm) (zn : Nat) (zq : Nat) (H : Heap) (locs : List Loc) (ls : Array Slot) (zx1 : Nat) (zx2 : Nat) (zx3 : Nat) (zx4 : Nat) (zx5 : Nat) (zx6 : Nat) (zx7 : Nat) (zx8 : Nat) (zx9 : Nat) (zx10 : Nat) (zx11 : Int32) (zx12 : Int32) (zt1 : okA E (zn, K, len) 8 zx1) (zt2 : okA E (zn, K, len) 11 zx2) (zt3 : okA E (zn, K, len) 11 zx3) (zt4 : okA E (zn, K, len) 11 zx4) (zt5 : okA E (zn, K, len) 11 zx5) (zt6 : okA E (zn, K, len) 11 zx6) (zt7 : okA E (zn, K, len) 11 zx7) (zt8 : okA E (zn, K, len) 11 zx8) (zt9 : okA E (zn, K, len) 11 zx9) (zt10 : okA E (zn, K, len) 11 zx10), zq = eB E + zn → zn ≤ 2000 → WD E (zn, K, len) I X s.heap H locs → lv_has ls 19 [(0, .ref (eS E).1), (1, .ref zx1), (2, .ref zx2), (3, .ref zx3), (4, .ref zx4), (5, .ref zx5), (6, .ref zx6), (7, .ref zx7), (8, .ref zx8), (9, .ref zx9), (10, .ref zx10), (11, .int zx11), (12, .int zx12)] → m9_law_162 fl len sc qlo n I X zn zq zx1 zx2 zx3 zx4 zx5 zx6 zx7 zx8 zx9 zx10 zx11 zx12 = some rr → W p l e room_1 s m args below meth c H locs zn (20000 + 4 * zn) Q (F0 m 162 ls []) := by
  intro n
  induction n with
  | zero => intro I X zn zq H locs ls zx1 zx2 zx3 zx4 zx5 zx6 zx7 zx8 zx9 zx10 zx11 zx12 zt1 zt2 zt3 zt4 zt5 zt6 zt7 zt8 zt9 zt10 ezq hzb hw hl hf; exact absurd (show (none : Option (Int32 × Im × Xm)) = some rr from hf) (by simp)
  | succ n ih => intro I X zn zq H locs ls zx1 zx2 zx3 zx4 zx5 zx6 zx7 zx8 zx9 zx10 zx11 zx12 zt1 zt2 zt3 zt4 zt5 zt6 zt7 zt8 zt9 zt10 ezq hzb hw hl hf; exact w9_law_162b C0 hr hs hsc hLe hql hqK hrr hend fl _ ih I X zn zq H locs ls zx1 zx2 zx3 zx4 zx5 zx6 zx7 zx8 zx9 zx10 zx11 zx12 zt1 zt2 zt3 zt4 zt5 zt6 zt7 zt8 zt9 zt10 ezq hzb hw hl hf
noncomputable def m9_law_158 (fl : Nat) (len : Nat → Nat) (sc : Int32 → Int32) (qlo : Nat) (I : Im) (X : Xm) (zn : Nat) (zq : Nat) (zx1 : Nat) (zx2 : Nat) (zx3 : Nat) (zx4 : Nat) (zx5 : Nat) (zx6 : Nat) (zx7 : Nat) (zx8 : Nat) (zx9 : Nat) (zx10 : Nat) (zx11 : Int32) : Option (Int32 × Im × Xm) :=
  m9_law_162 fl len sc qlo fl I X zn zq zx1 zx2 zx3 zx4 zx5 zx6 zx7 zx8 zx9 zx10 zx11 (6 : Int32)
set_option maxHeartbeats 4000000 in
set_option maxRecDepth 100000 in
theorem w9_law_158 {p : Program} {l : Launch} {e : Env} {s : State} {m : MethodId} {args : Array Value} {below : List Frame} {meth : Method} {c : Code} {E : EN} {K len : Nat → Nat} {sc : Int32 → Int32} {qlo : Nat} {Q : State → Prop} {rr : Int32 × Im × Xm} (C0 : CX p s m args meth c E cL_law RL 19) (hr : meth.sig.returnType = ret) (hs : s.heap.size = eB E) (hsc : sc = cellF (eS E).2 (eXs E)) (hLe : (eS E).2 ≤ 260) (hql : qlo = eB E + 808) (hqK : ∀ x, qlo ≤ x → x < qlo + 60 → K x = 11 ∧ len x = 4) (hrr : rr.1 = 1) (hend : ∀ (zn : Nat) (I : Im) (X : Xm) (H : Heap) (locs : List Loc) (ls : Array Slot), zn ≤ 2000 → WD E (zn, K, len) I X s.heap H locs → W p l e room_1 s m args below meth c H locs zn (20000 + 4 * zn) Q (F0 m 460 ls [.int 1])) (fl : Nat) : ∀ (I : Im) (X : Xm) (zn : Nat) (zq : Nat) (H : Heap) (locs : List Loc) (ls : Array Slot) (zx1 : Nat) (zx2 : Nat) (zx3 : Nat) (zx4 : Nat) (zx5 : Nat) (zx6 : Nat) (zx7 : Nat) (zx8 : Nat) (zx9 : Nat) (zx10 : Nat) (zx11 : Int32) (zt1 : okA E (zn, K, len) 8 zx1) (zt2 : okA E (zn, K, len) 11 zx2) (zt3 : okA E (zn, K, len) 11 zx3) (zt4 : okA E (zn, K, len) 11 zx4) (zt5 : okA E (zn, K, len) 11 zx5) (zt6 : okA E (zn, K, len) 11 zx6) (zt7 : okA E (zn, K, len) 11 zx7) (zt8 : okA E (zn, K, len) 11 zx8) (zt9 : okA E (zn, K, len) 11 zx9) (zt10 : okA E (zn, K, len) 11 zx10), zq = eB E + zn → zn ≤ 2000 → WD E (zn, K, len) I X s.heap H locs → lv_has ls 19 [(0, .ref (eS E).1), (1, .ref zx1), (2, .ref zx2), (3, .ref zx3), (4, .ref zx4), (5, .ref zx5), (6, .ref zx6), (7, .ref zx7), (8, .ref zx8), (9, .ref zx9), (10, .ref zx10), (11, .int zx11)] → m9_law_158 fl len sc qlo I X zn zq zx1 zx2 zx3 zx4 zx5 zx6 zx7 zx8 zx9 zx10 zx11 = some rr → W p l e room_1 s m args below meth c H locs zn (20000 + 4 * zn) Q (F0 m 158 ls []) := by
  intro I X zn zq H locs ls zx1 zx2 zx3 zx4 zx5 zx6 zx7 zx8 zx9 zx10 zx11 zt1 zt2 zt3 zt4 zt5 zt6 zt7 zt8 zt9 zt10 ezq hzb hw hl hf
  have hz : s.heap.size + zn ≤ eB E + zn := by omega
  unfold m9_law_158 at hf
  have hx := C0.1; have hb := C0.2.1; have hml := C0.2.2.1; have hown := C0.2.2.2.1; have hts := C0.2.2.2.2.1
  refine lv_bipush (v := (6 : Int32)) hx hb dL_law_158 (by decide) ?_
  refine lv_istore (lv' := [(12, .int (6 : Int32)), (0, .ref (eS E).1), (1, .ref zx1), (2, .ref zx2), (3, .ref zx3), (4, .ref zx4), (5, .ref zx5), (6, .ref zx6), (7, .ref zx7), (8, .ref zx8), (9, .ref zx9), (10, .ref zx10), (11, .int zx11)]) hx hb dL_law_160 hl (by decide) rfl (fun ls hl => ?_)
  exact w9_law_162 C0 hr hs hsc hLe hql hqK hrr hend fl fl I X zn zq _ _ _ zx1 zx2 zx3 zx4 zx5 zx6 zx7 zx8 zx9 zx10 zx11 (6 : Int32) zt1 zt2 zt3 zt4 zt5 zt6 zt7 zt8 zt9 zt10 ezq hzb hw (lv_sub hl [1, 2, 3, 4, 5, 6, 7, 8, 9, 10, 11, 12, 0] rfl) hf
noncomputable def m9_law_108b (fl : Nat) (len : Nat → Nat) (sc : Int32 → Int32) (qlo : Nat) (zr108 : Im → Xm → Nat → Nat → Nat → Nat → Nat → Nat → Nat → Nat → Nat → Nat → Nat → Nat → Int32 → Int32 → Option (Int32 × Im × Xm)) (I : Im) (X : Xm) (zn : Nat) (zq : Nat) (zx1 : Nat) (zx2 : Nat) (zx3 : Nat) (zx4 : Nat) (zx5 : Nat) (zx6 : Nat) (zx7 : Nat) (zx8 : Nat) (zx9 : Nat) (zx10 : Nat) (zx11 : Int32) (zx12 : Int32) : Option (Int32 × Im × Xm) :=
  if (6 : Int32) ≤ zx12 then
    m9_law_158 fl len sc qlo I X zn zq zx1 zx2 zx3 zx4 zx5 zx6 zx7 zx8 zx9 zx10 zx11
  else
    if zx11 = 0 then
      m9_law_158 fl len sc qlo I X zn zq zx1 zx2 zx3 zx4 zx5 zx6 zx7 zx8 zx9 zx10 zx11
    else
      ck (inb zx12 1000 = true) <|
      nn (m9_isSet fl len X I zx1 zx2 zx5 zx6 zx7 (1 : Int32) (((((sc zx12) &&& (2147483647 : Int32)) / (4 : Int32)) * (4 : Int32)) + (zx12 - zx12 / (3 : Int32) * (3 : Int32)))) fun ⟨zv4, zI5, zX6⟩ =>
      lt (zx12 + 1) fun zv8 =>
      zr108 zI5 zX6 zn zq zx1 zx2 zx3 zx4 zx5 zx6 zx7 zx8 zx9 zx10 zv4 zv8
noncomputable def m9_law_108 (fl : Nat) (len : Nat → Nat) (sc : Int32 → Int32) (qlo : Nat) (n : Nat) : Im → Xm → Nat → Nat → Nat → Nat → Nat → Nat → Nat → Nat → Nat → Nat → Nat → Nat → Int32 → Int32 → Option (Int32 × Im × Xm) :=
  Nat.rec (fun _ _ _ _ _ _ _ _ _ _ _ _ _ _ _ _ => none) (fun _ r => m9_law_108b fl len sc qlo r) n
set_option maxHeartbeats 4000000 in
set_option maxRecDepth 100000 in
theorem w9_law_108b {p : Program} {l : Launch} {e : Env} {s : State} {m : MethodId} {args : Array Value} {below : List Frame} {meth : Method} {c : Code} {E : EN} {K len : Nat → Nat} {sc : Int32 → Int32} {qlo : Nat} {Q : State → Prop} {rr : Int32 × Im × Xm} (C0 : CX p s m args meth c E cL_law RL 19) (hr : meth.sig.returnType = ret) (hs : s.heap.size = eB E) (hsc : sc = cellF (eS E).2 (eXs E)) (hLe : (eS E).2 ≤ 260) (hql : qlo = eB E + 808) (hqK : ∀ x, qlo ≤ x → x < qlo + 60 → K x = 11 ∧ len x = 4) (hrr : rr.1 = 1) (hend : ∀ (zn : Nat) (I : Im) (X : Xm) (H : Heap) (locs : List Loc) (ls : Array Slot), zn ≤ 2000 → WD E (zn, K, len) I X s.heap H locs → W p l e room_1 s m args below meth c H locs zn (20000 + 4 * zn) Q (F0 m 460 ls [.int 1])) (fl : Nat) (zr108 : Im → Xm → Nat → Nat → Nat → Nat → Nat → Nat → Nat → Nat → Nat → Nat → Nat → Nat → Int32 → Int32 → Option (Int32 × Im × Xm)) (zhr108 : ∀ (I : Im) (X : Xm) (zn : Nat) (zq : Nat) (H : Heap) (locs : List Loc) (ls : Array Slot) (zx1 : Nat) (zx2 : Nat) (zx3 : Nat) (zx4 : Nat) (zx5 : Nat) (zx6 : Nat) (zx7 : Nat) (zx8 : Nat) (zx9 : Nat) (zx10 : Nat) (zx11 : Int32) (zx12 : Int32) (zt1 : okA E (zn, K, len) 8 zx1) (zt2 : okA E (zn, K, len) 11 zx2) (zt3 : okA E (zn, K, len) 11 zx3) (zt4 : okA E (zn, K, len) 11 zx4) (zt5 : okA E (zn, K, len) 11 zx5) (zt6 : okA E (zn, K, len) 11 zx6) (zt7 : okA E (zn, K, len) 11 zx7) (zt8 : okA E (zn, K, len) 11 zx8) (zt9 : okA E (zn, K, len) 11 zx9) (zt10 : okA E (zn, K, len) 11 zx10), zq = eB E + zn → zn ≤ 2000 → WD E (zn, K, len) I X s.heap H locs → lv_has ls 19 [(0, .ref (eS E).1), (1, .ref zx1), (2, .ref zx2), (3, .ref zx3), (4, .ref zx4), (5, .ref zx5), (6, .ref zx6), (7, .ref zx7), (8, .ref zx8), (9, .ref zx9), (10, .ref zx10), (11, .int zx11), (12, .int zx12)] → zr108 I X zn zq zx1 zx2 zx3 zx4 zx5 zx6 zx7 zx8 zx9 zx10 zx11 zx12 = some rr → W p l e room_1 s m args below meth c H locs zn (20000 + 4 * zn) Q (F0 m 108 ls [])) : ∀ (I : Im) (X : Xm) (zn : Nat) (zq : Nat) (H : Heap) (locs : List Loc) (ls : Array Slot) (zx1 : Nat) (zx2 : Nat) (zx3 : Nat) (zx4 : Nat) (zx5 : Nat) (zx6 : Nat) (zx7 : Nat) (zx8 : Nat) (zx9 : Nat) (zx10 : Nat) (zx11 : Int32) (zx12 : Int32) (zt1 : okA E (zn, K, len) 8 zx1) (zt2 : okA E (zn, K, len) 11 zx2) (zt3 : okA E (zn, K, len) 11 zx3) (zt4 : okA E (zn, K, len) 11 zx4) (zt5 : okA E (zn, K, len) 11 zx5) (zt6 : okA E (zn, K, len) 11 zx6) (zt7 : okA E (zn, K, len) 11 zx7) (zt8 : okA E (zn, K, len) 11 zx8) (zt9 : okA E (zn, K, len) 11 zx9) (zt10 : okA E (zn, K, len) 11 zx10), zq = eB E + zn → zn ≤ 2000 → WD E (zn, K, len) I X s.heap H locs → lv_has ls 19 [(0, .ref (eS E).1), (1, .ref zx1), (2, .ref zx2), (3, .ref zx3), (4, .ref zx4), (5, .ref zx5), (6, .ref zx6), (7, .ref zx7), (8, .ref zx8), (9, .ref zx9), (10, .ref zx10), (11, .int zx11), (12, .int zx12)] → m9_law_108b fl len sc qlo zr108 I X zn zq zx1 zx2 zx3 zx4 zx5 zx6 zx7 zx8 zx9 zx10 zx11 zx12 = some rr → W p l e room_1 s m args below meth c H locs zn (20000 + 4 * zn) Q (F0 m 108 ls []) := by
  intro I X zn zq H locs ls zx1 zx2 zx3 zx4 zx5 zx6 zx7 zx8 zx9 zx10 zx11 zx12 zt1 zt2 zt3 zt4 zt5 zt6 zt7 zt8 zt9 zt10 ezq hzb hw hl hf
  have hz : s.heap.size + zn ≤ eB E + zn := by omega
  unfold m9_law_108b at hf
  have hx := C0.1; have hb := C0.2.1; have hml := C0.2.2.1; have hown := C0.2.2.2.1; have hts := C0.2.2.2.2.1
  refine lv_iload hx hb dL_law_108 (lv_at hl 12 rfl) ?_
  refine lv_bipush (v := (6 : Int32)) hx hb dL_law_110 (by decide) ?_
  refine lv_icmp_ge (tgt := 158) hx hb dL_law_112 (by decide) (fun zc1 => ?_) (fun zc1 => ?_)
  · have hf := ite_t hf zc1
    exact w9_law_158 C0 hr hs hsc hLe hql hqK hrr hend fl I X zn zq _ _ _ zx1 zx2 zx3 zx4 zx5 zx6 zx7 zx8 zx9 zx10 zx11 zt1 zt2 zt3 zt4 zt5 zt6 zt7 zt8 zt9 zt10 ezq hzb hw (lv_sub hl [0, 1, 2, 3, 4, 5, 6, 7, 8, 9, 10, 11] rfl) hf
  · have hf := ite_f hf zc1
    refine lv_iload hx hb dL_law_115 (lv_at hl 11 rfl) ?_
    refine lv_if_eq (tgt := 158) hx hb dL_law_117 (by decide) (fun zc2 => ?_) (fun zc2 => ?_)
    · have hf := ite_t hf zc2
      exact w9_law_158 C0 hr hs hsc hLe hql hqK hrr hend fl I X zn zq _ _ _ zx1 zx2 zx3 zx4 zx5 zx6 zx7 zx8 zx9 zx10 zx11 zt1 zt2 zt3 zt4 zt5 zt6 zt7 zt8 zt9 zt10 ezq hzb hw (lv_sub hl [0, 1, 2, 3, 4, 5, 6, 7, 8, 9, 10, 11] rfl) hf
    · have hf := ite_f hf zc2
      refine lv_aload_n hx hb dL_law_120 rfl (lv_at hl 1 rfl) ?_
      refine lv_aload_n hx hb dL_law_121 rfl (lv_at hl 2 rfl) ?_
      refine lv_aload hx hb dL_law_122 (lv_at hl 5 rfl) ?_
      refine lv_aload hx hb dL_law_124 (lv_at hl 6 rfl) ?_
      refine lv_aload hx hb dL_law_126 (lv_at hl 7 rfl) ?_
      refine lv_iconst (v := (1 : Int32)) hx hb dL_law_128 (by decide) ?_
      refine lv_aload_n hx hb dL_law_129 rfl (lv_at hl 0 rfl) ?_
      refine lv_iload hx hb dL_law_130 (lv_at hl 12 rfl) ?_
      obtain ⟨zhc3, hf⟩ := ck_some hf
      refine x_ci (r := (sc zx12)) (I1 := I) (X1 := X) (x_runS (As := [.ref (eS E).1, .int zx12]) (rest := [.int (1 : Int32), .ref zx7, .ref zx6, .ref zx5, .ref zx2, .ref zx1]) C0 (c9_cell l E (zn, K, len) I X zx12 zhc3 hLe hsc) hw wd79 wd482 wd483 wd422 ⟨rfl, rfl⟩ hy9_cell ⟨Nat.le_of_ble_eq_true rfl, Nat.le_of_ble_eq_true rfl⟩ rfl hl.1 (Nat.le_of_ble_eq_true rfl) ⟨by show zn + 0 ≤ 600000; omega, by show 20000 + 4 * zn + 0 ≤ 7302250; omega⟩ dL_law_132) hw (fun H locs hw => ?_)
      refine lv_ldc (v := (2147483647 : Int32)) hx hb hown (hts _ wd479) dL_law_135 ?_
      refine lv_iand hx hb dL_law_137 ?_
      refine lv_iconst (v := (4 : Int32)) hx hb dL_law_138 (by decide) ?_
      refine lv_idiv hx hb dL_law_139 (by decide) ?_
      refine lv_iconst (v := (4 : Int32)) hx hb dL_law_140 (by decide) ?_
      refine lv_imul hx hb dL_law_141 ?_
      refine lv_iload hx hb dL_law_142 (lv_at hl 12 rfl) ?_
      refine lv_iconst (v := (3 : Int32)) hx hb dL_law_144 (by decide) ?_
      refine lv_irem hx hb dL_law_145 (by decide) ?_
      refine lv_iadd hx hb dL_law_146 ?_
      obtain ⟨⟨zv4, zI5, zX6⟩, ze7, hf⟩ := nn_some hf
      refine x_ci (r := zv4) (I1 := zI5) (X1 := zX6) (x_runS (As := [.ref zx1, .ref zx2, .ref zx5, .ref zx6, .ref zx7, .int (1 : Int32), .int (((((sc zx12) &&& (2147483647 : Int32)) / (4 : Int32)) * (4 : Int32)) + (zx12 - zx12 / (3 : Int32) * (3 : Int32)))]) (rest := []) C0 (c9_isSet l E (zn, K, len) fl X I zx1 zx2 zx5 zx6 zx7 (1 : Int32) (((((sc zx12) &&& (2147483647 : Int32)) / (4 : Int32)) * (4 : Int32)) + (zx12 - zx12 / (3 : Int32) * (3 : Int32))) zt1 zt2 zt5 zt6 zt7 ze7) hw wd93 wd484 wd485 wd422 ⟨rfl, rfl⟩ hy9_isSet ⟨Nat.le_of_ble_eq_true rfl, Nat.le_of_ble_eq_true rfl⟩ rfl hl.1 (Nat.le_of_ble_eq_true rfl) ⟨by show zn + 0 ≤ 600000; omega, by show 20000 + 4 * zn + 0 ≤ 7302250; omega⟩ dL_law_147) hw (fun H locs hw => ?_)
      refine lv_istore (lv' := [(11, .int zv4), (0, .ref (eS E).1), (1, .ref zx1), (2, .ref zx2), (3, .ref zx3), (4, .ref zx4), (5, .ref zx5), (6, .ref zx6), (7, .ref zx7), (8, .ref zx8), (9, .ref zx9), (10, .ref zx10), (12, .int zx12)]) hx hb dL_law_150 hl (by decide) rfl (fun ls hl => ?_)
      obtain ⟨zv8, ezv8⟩ : ∃ y : Int32, y = zx12 + 1 := ⟨_, rfl⟩
      have hf := lt_at hf ezv8
      refine lv_iinc (v := zv8) (lv' := [(12, .int zv8), (11, .int zv4), (0, .ref (eS E).1), (1, .ref zx1), (2, .ref zx2), (3, .ref zx3), (4, .ref zx4), (5, .ref zx5), (6, .ref zx6), (7, .ref zx7), (8, .ref zx8), (9, .ref zx9), (10, .ref zx10)]) hx hb dL_law_152 hl (k := 12) rfl (by rw [ezv8]; rfl) (by decide) rfl (fun ls hl => ?_)
      refine lv_goto (tgt := 108) hx hb dL_law_155 (by decide) ?_
      exact zhr108 zI5 zX6 zn zq _ _ _ zx1 zx2 zx3 zx4 zx5 zx6 zx7 zx8 zx9 zx10 zv4 zv8 zt1 zt2 zt3 zt4 zt5 zt6 zt7 zt8 zt9 zt10 ezq hzb hw (lv_sub hl [2, 3, 4, 5, 6, 7, 8, 9, 10, 11, 12, 1, 0] rfl) hf
theorem w9_law_108 {p : Program} {l : Launch} {e : Env} {s : State} {m : MethodId} {args : Array Value} {below : List Frame} {meth : Method} {c : Code} {E : EN} {K len : Nat → Nat} {sc : Int32 → Int32} {qlo : Nat} {Q : State → Prop} {rr : Int32 × Im × Xm} (C0 : CX p s m args meth c E cL_law RL 19) (hr : meth.sig.returnType = ret) (hs : s.heap.size = eB E) (hsc : sc = cellF (eS E).2 (eXs E)) (hLe : (eS E).2 ≤ 260) (hql : qlo = eB E + 808) (hqK : ∀ x, qlo ≤ x → x < qlo + 60 → K x = 11 ∧ len x = 4) (hrr : rr.1 = 1) (hend : ∀ (zn : Nat) (I : Im) (X : Xm) (H : Heap) (locs : List Loc) (ls : Array Slot), zn ≤ 2000 → WD E (zn, K, len) I X s.heap H locs → W p l e room_1 s m args below meth c H locs zn (20000 + 4 * zn) Q (F0 m 460 ls [.int 1])) (fl : Nat) : ∀ (n : Nat) (I : Im) (X : Xm) (zn : Nat) (zq : Nat) (H : Heap) (locs : List Loc) (ls : Array Slot) (zx1 : Nat) (zx2 : Nat) (zx3 : Nat) (zx4 : Nat) (zx5 : Nat) (zx6 : Nat) (zx7 : Nat) (zx8 : Nat) (zx9 : Nat) (zx10 : Nat) (zx11 : Int32) (zx12 : Int32) (zt1 : okA E (zn, K, len) 8 zx1) (zt2 : okA E (zn, K, len) 11 zx2) (zt3 : okA E (zn, K, len) 11 zx3) (zt4 : okA E (zn, K, len) 11 zx4) (zt5 : okA E (zn, K, len) 11 zx5) (zt6 : okA E (zn, K, len) 11 zx6) (zt7 : okA E (zn, K, len) 11 zx7) (zt8 : okA E (zn, K, len) 11 zx8) (zt9 : okA E (zn, K, len) 11 zx9) (zt10 : okA E (zn, K, len) 11 zx10), zq = eB E + zn → zn ≤ 2000 → WD E (zn, K, len) I X s.heap H locs → lv_has ls 19 [(0, .ref (eS E).1), (1, .ref zx1), (2, .ref zx2), (3, .ref zx3), (4, .ref zx4), (5, .ref zx5), (6, .ref zx6), (7, .ref zx7), (8, .ref zx8), (9, .ref zx9), (10, .ref zx10), (11, .int zx11), (12, .int zx12)] → m9_law_108 fl len sc qlo n I X zn zq zx1 zx2 zx3 zx4 zx5 zx6 zx7 zx8 zx9 zx10 zx11 zx12 = some rr → W p l e room_1 s m args below meth c H locs zn (20000 + 4 * zn) Q (F0 m 108 ls []) := by
  intro n
  induction n with
  | zero => intro I X zn zq H locs ls zx1 zx2 zx3 zx4 zx5 zx6 zx7 zx8 zx9 zx10 zx11 zx12 zt1 zt2 zt3 zt4 zt5 zt6 zt7 zt8 zt9 zt10 ezq hzb hw hl hf; exact absurd (show (none : Option (Int32 × Im × Xm)) = some rr from hf) (by simp)
  | succ n ih => intro I X zn zq H locs ls zx1 zx2 zx3 zx4 zx5 zx6 zx7 zx8 zx9 zx10 zx11 zx12 zt1 zt2 zt3 zt4 zt5 zt6 zt7 zt8 zt9 zt10 ezq hzb hw hl hf; exact w9_law_108b C0 hr hs hsc hLe hql hqK hrr hend fl _ ih I X zn zq H locs ls zx1 zx2 zx3 zx4 zx5 zx6 zx7 zx8 zx9 zx10 zx11 zx12 zt1 zt2 zt3 zt4 zt5 zt6 zt7 zt8 zt9 zt10 ezq hzb hw hl hf
noncomputable def m9_law_82b (fl : Nat) (len : Nat → Nat) (sc : Int32 → Int32) (qlo : Nat) (zr82 : Im → Xm → Nat → Nat → Nat → Nat → Nat → Nat → Nat → Nat → Nat → Nat → Nat → Nat → Int32 → Option (Int32 × Im × Xm)) (I : Im) (X : Xm) (zn : Nat) (zq : Nat) (zx1 : Nat) (zx2 : Nat) (zx3 : Nat) (zx4 : Nat) (zx5 : Nat) (zx6 : Nat) (zx7 : Nat) (zx8 : Nat) (zx9 : Nat) (zx10 : Nat) (zx11 : Int32) : Option (Int32 × Im × Xm) :=
  if (8 : Int32) ≤ zx11 then
    m9_law_108 fl len sc qlo fl I X zn zq zx1 zx2 zx3 zx4 zx5 zx6 zx7 zx8 zx9 zx10 (1 : Int32) (0 : Int32)
  else
    ck (inb zx11 (len zx7) = true) <|
    lt (pA I zx7 (zx11).toNatClampNeg (50 : Int32)) fun zI3 =>
    lt (zx11 + 1) fun zv4 =>
    zr82 zI3 X zn zq zx1 zx2 zx3 zx4 zx5 zx6 zx7 zx8 zx9 zx10 zv4
noncomputable def m9_law_82 (fl : Nat) (len : Nat → Nat) (sc : Int32 → Int32) (qlo : Nat) (n : Nat) : Im → Xm → Nat → Nat → Nat → Nat → Nat → Nat → Nat → Nat → Nat → Nat → Nat → Nat → Int32 → Option (Int32 × Im × Xm) :=
  Nat.rec (fun _ _ _ _ _ _ _ _ _ _ _ _ _ _ _ => none) (fun _ r => m9_law_82b fl len sc qlo r) n
set_option maxHeartbeats 4000000 in
set_option maxRecDepth 100000 in
theorem w9_law_82b {p : Program} {l : Launch} {e : Env} {s : State} {m : MethodId} {args : Array Value} {below : List Frame} {meth : Method} {c : Code} {E : EN} {K len : Nat → Nat} {sc : Int32 → Int32} {qlo : Nat} {Q : State → Prop} {rr : Int32 × Im × Xm} (C0 : CX p s m args meth c E cL_law RL 19) (hr : meth.sig.returnType = ret) (hs : s.heap.size = eB E) (hsc : sc = cellF (eS E).2 (eXs E)) (hLe : (eS E).2 ≤ 260) (hql : qlo = eB E + 808) (hqK : ∀ x, qlo ≤ x → x < qlo + 60 → K x = 11 ∧ len x = 4) (hrr : rr.1 = 1) (hend : ∀ (zn : Nat) (I : Im) (X : Xm) (H : Heap) (locs : List Loc) (ls : Array Slot), zn ≤ 2000 → WD E (zn, K, len) I X s.heap H locs → W p l e room_1 s m args below meth c H locs zn (20000 + 4 * zn) Q (F0 m 460 ls [.int 1])) (fl : Nat) (zr82 : Im → Xm → Nat → Nat → Nat → Nat → Nat → Nat → Nat → Nat → Nat → Nat → Nat → Nat → Int32 → Option (Int32 × Im × Xm)) (zhr82 : ∀ (I : Im) (X : Xm) (zn : Nat) (zq : Nat) (H : Heap) (locs : List Loc) (ls : Array Slot) (zx1 : Nat) (zx2 : Nat) (zx3 : Nat) (zx4 : Nat) (zx5 : Nat) (zx6 : Nat) (zx7 : Nat) (zx8 : Nat) (zx9 : Nat) (zx10 : Nat) (zx11 : Int32) (zt1 : okA E (zn, K, len) 8 zx1) (zt2 : okA E (zn, K, len) 11 zx2) (zt3 : okA E (zn, K, len) 11 zx3) (zt4 : okA E (zn, K, len) 11 zx4) (zt5 : okA E (zn, K, len) 11 zx5) (zt6 : okA E (zn, K, len) 11 zx6) (zt7 : okA E (zn, K, len) 11 zx7) (zt8 : okA E (zn, K, len) 11 zx8) (zt9 : okA E (zn, K, len) 11 zx9) (zt10 : okA E (zn, K, len) 11 zx10), zq = eB E + zn → zn ≤ 2000 → WD E (zn, K, len) I X s.heap H locs → lv_has ls 19 [(0, .ref (eS E).1), (1, .ref zx1), (2, .ref zx2), (3, .ref zx3), (4, .ref zx4), (5, .ref zx5), (6, .ref zx6), (7, .ref zx7), (8, .ref zx8), (9, .ref zx9), (10, .ref zx10), (11, .int zx11)] → zr82 I X zn zq zx1 zx2 zx3 zx4 zx5 zx6 zx7 zx8 zx9 zx10 zx11 = some rr → W p l e room_1 s m args below meth c H locs zn (20000 + 4 * zn) Q (F0 m 82 ls [])) : ∀ (I : Im) (X : Xm) (zn : Nat) (zq : Nat) (H : Heap) (locs : List Loc) (ls : Array Slot) (zx1 : Nat) (zx2 : Nat) (zx3 : Nat) (zx4 : Nat) (zx5 : Nat) (zx6 : Nat) (zx7 : Nat) (zx8 : Nat) (zx9 : Nat) (zx10 : Nat) (zx11 : Int32) (zt1 : okA E (zn, K, len) 8 zx1) (zt2 : okA E (zn, K, len) 11 zx2) (zt3 : okA E (zn, K, len) 11 zx3) (zt4 : okA E (zn, K, len) 11 zx4) (zt5 : okA E (zn, K, len) 11 zx5) (zt6 : okA E (zn, K, len) 11 zx6) (zt7 : okA E (zn, K, len) 11 zx7) (zt8 : okA E (zn, K, len) 11 zx8) (zt9 : okA E (zn, K, len) 11 zx9) (zt10 : okA E (zn, K, len) 11 zx10), zq = eB E + zn → zn ≤ 2000 → WD E (zn, K, len) I X s.heap H locs → lv_has ls 19 [(0, .ref (eS E).1), (1, .ref zx1), (2, .ref zx2), (3, .ref zx3), (4, .ref zx4), (5, .ref zx5), (6, .ref zx6), (7, .ref zx7), (8, .ref zx8), (9, .ref zx9), (10, .ref zx10), (11, .int zx11)] → m9_law_82b fl len sc qlo zr82 I X zn zq zx1 zx2 zx3 zx4 zx5 zx6 zx7 zx8 zx9 zx10 zx11 = some rr → W p l e room_1 s m args below meth c H locs zn (20000 + 4 * zn) Q (F0 m 82 ls []) := by
  intro I X zn zq H locs ls zx1 zx2 zx3 zx4 zx5 zx6 zx7 zx8 zx9 zx10 zx11 zt1 zt2 zt3 zt4 zt5 zt6 zt7 zt8 zt9 zt10 ezq hzb hw hl hf
  have hz : s.heap.size + zn ≤ eB E + zn := by omega
  unfold m9_law_82b at hf
  have hx := C0.1; have hb := C0.2.1; have hml := C0.2.2.1; have hown := C0.2.2.2.1; have hts := C0.2.2.2.2.1
  refine lv_iload hx hb dL_law_82 (lv_at hl 11 rfl) ?_
  refine lv_bipush (v := (8 : Int32)) hx hb dL_law_84 (by decide) ?_
  refine lv_icmp_ge (tgt := 102) hx hb dL_law_86 (by decide) (fun zc1 => ?_) (fun zc1 => ?_)
  · have hf := ite_t hf zc1
    refine lv_iconst (v := (1 : Int32)) hx hb dL_law_102 (by decide) ?_
    refine lv_istore (lv' := [(11, .int (1 : Int32)), (0, .ref (eS E).1), (1, .ref zx1), (2, .ref zx2), (3, .ref zx3), (4, .ref zx4), (5, .ref zx5), (6, .ref zx6), (7, .ref zx7), (8, .ref zx8), (9, .ref zx9), (10, .ref zx10)]) hx hb dL_law_103 hl (by decide) rfl (fun ls hl => ?_)
    refine lv_iconst (v := (0 : Int32)) hx hb dL_law_105 (by decide) ?_
    refine lv_istore (lv' := [(12, .int (0 : Int32)), (11, .int (1 : Int32)), (0, .ref (eS E).1), (1, .ref zx1), (2, .ref zx2), (3, .ref zx3), (4, .ref zx4), (5, .ref zx5), (6, .ref zx6), (7, .ref zx7), (8, .ref zx8), (9, .ref zx9), (10, .ref zx10)]) hx hb dL_law_106 hl (by decide) rfl (fun ls hl => ?_)
    exact w9_law_108 C0 hr hs hsc hLe hql hqK hrr hend fl fl I X zn zq _ _ _ zx1 zx2 zx3 zx4 zx5 zx6 zx7 zx8 zx9 zx10 (1 : Int32) (0 : Int32) zt1 zt2 zt3 zt4 zt5 zt6 zt7 zt8 zt9 zt10 ezq hzb hw (lv_sub hl [2, 3, 4, 5, 6, 7, 8, 9, 10, 11, 12, 1, 0] rfl) hf
  · have hf := ite_f hf zc1
    refine lv_aload hx hb dL_law_89 (lv_at hl 7 rfl) ?_
    refine lv_iload hx hb dL_law_91 (lv_at hl 11 rfl) ?_
    refine lv_bipush (v := (50 : Int32)) hx hb dL_law_93 (by decide) ?_
    obtain ⟨zhb2, hf⟩ := ck_some hf
    obtain ⟨zI3, ezI3⟩ : ∃ y : Im, y = pA I zx7 (zx11).toNatClampNeg (50 : Int32) := ⟨_, rfl⟩
    have hf := lt_at hf ezI3
    refine x_iast C0 hz hw zt7 zhb2 dL_law_95 ezI3 (fun H locs hw => ?_)
    obtain ⟨zv4, ezv4⟩ : ∃ y : Int32, y = zx11 + 1 := ⟨_, rfl⟩
    have hf := lt_at hf ezv4
    refine lv_iinc (v := zv4) (lv' := [(11, .int zv4), (0, .ref (eS E).1), (1, .ref zx1), (2, .ref zx2), (3, .ref zx3), (4, .ref zx4), (5, .ref zx5), (6, .ref zx6), (7, .ref zx7), (8, .ref zx8), (9, .ref zx9), (10, .ref zx10)]) hx hb dL_law_96 hl (k := 11) rfl (by rw [ezv4]; rfl) (by decide) rfl (fun ls hl => ?_)
    refine lv_goto (tgt := 82) hx hb dL_law_99 (by decide) ?_
    exact zhr82 zI3 X zn zq _ _ _ zx1 zx2 zx3 zx4 zx5 zx6 zx7 zx8 zx9 zx10 zv4 zt1 zt2 zt3 zt4 zt5 zt6 zt7 zt8 zt9 zt10 ezq hzb hw (lv_sub hl [1, 2, 3, 4, 5, 6, 7, 8, 9, 10, 11, 0] rfl) hf
theorem w9_law_82 {p : Program} {l : Launch} {e : Env} {s : State} {m : MethodId} {args : Array Value} {below : List Frame} {meth : Method} {c : Code} {E : EN} {K len : Nat → Nat} {sc : Int32 → Int32} {qlo : Nat} {Q : State → Prop} {rr : Int32 × Im × Xm} (C0 : CX p s m args meth c E cL_law RL 19) (hr : meth.sig.returnType = ret) (hs : s.heap.size = eB E) (hsc : sc = cellF (eS E).2 (eXs E)) (hLe : (eS E).2 ≤ 260) (hql : qlo = eB E + 808) (hqK : ∀ x, qlo ≤ x → x < qlo + 60 → K x = 11 ∧ len x = 4) (hrr : rr.1 = 1) (hend : ∀ (zn : Nat) (I : Im) (X : Xm) (H : Heap) (locs : List Loc) (ls : Array Slot), zn ≤ 2000 → WD E (zn, K, len) I X s.heap H locs → W p l e room_1 s m args below meth c H locs zn (20000 + 4 * zn) Q (F0 m 460 ls [.int 1])) (fl : Nat) : ∀ (n : Nat) (I : Im) (X : Xm) (zn : Nat) (zq : Nat) (H : Heap) (locs : List Loc) (ls : Array Slot) (zx1 : Nat) (zx2 : Nat) (zx3 : Nat) (zx4 : Nat) (zx5 : Nat) (zx6 : Nat) (zx7 : Nat) (zx8 : Nat) (zx9 : Nat) (zx10 : Nat) (zx11 : Int32) (zt1 : okA E (zn, K, len) 8 zx1) (zt2 : okA E (zn, K, len) 11 zx2) (zt3 : okA E (zn, K, len) 11 zx3) (zt4 : okA E (zn, K, len) 11 zx4) (zt5 : okA E (zn, K, len) 11 zx5) (zt6 : okA E (zn, K, len) 11 zx6) (zt7 : okA E (zn, K, len) 11 zx7) (zt8 : okA E (zn, K, len) 11 zx8) (zt9 : okA E (zn, K, len) 11 zx9) (zt10 : okA E (zn, K, len) 11 zx10), zq = eB E + zn → zn ≤ 2000 → WD E (zn, K, len) I X s.heap H locs → lv_has ls 19 [(0, .ref (eS E).1), (1, .ref zx1), (2, .ref zx2), (3, .ref zx3), (4, .ref zx4), (5, .ref zx5), (6, .ref zx6), (7, .ref zx7), (8, .ref zx8), (9, .ref zx9), (10, .ref zx10), (11, .int zx11)] → m9_law_82 fl len sc qlo n I X zn zq zx1 zx2 zx3 zx4 zx5 zx6 zx7 zx8 zx9 zx10 zx11 = some rr → W p l e room_1 s m args below meth c H locs zn (20000 + 4 * zn) Q (F0 m 82 ls []) := by
  intro n
  induction n with
  | zero => intro I X zn zq H locs ls zx1 zx2 zx3 zx4 zx5 zx6 zx7 zx8 zx9 zx10 zx11 zt1 zt2 zt3 zt4 zt5 zt6 zt7 zt8 zt9 zt10 ezq hzb hw hl hf; exact absurd (show (none : Option (Int32 × Im × Xm)) = some rr from hf) (by simp)
  | succ n ih => intro I X zn zq H locs ls zx1 zx2 zx3 zx4 zx5 zx6 zx7 zx8 zx9 zx10 zx11 zt1 zt2 zt3 zt4 zt5 zt6 zt7 zt8 zt9 zt10 ezq hzb hw hl hf; exact w9_law_82b C0 hr hs hsc hLe hql hqK hrr hend fl _ ih I X zn zq H locs ls zx1 zx2 zx3 zx4 zx5 zx6 zx7 zx8 zx9 zx10 zx11 zt1 zt2 zt3 zt4 zt5 zt6 zt7 zt8 zt9 zt10 ezq hzb hw hl hf
