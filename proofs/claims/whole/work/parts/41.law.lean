/-! ===== what a call of both sides must do; the law's cases ===== -/
def putArg (x y : Int32) : Int64 := (x.toInt64 <<< ((32 : Int32).toInt64 &&& 63)) ||| (y.toInt64 &&& (4294967295 : Int64))
def St_set (fl : Nat) (len : Nat → Nat) (b q : Nat) (Rel : Im → Xm → Prop) : Prop := ∀ (I : Im) (X : Xm) (a1 : Int32) (a2 : Int32), Rel I X → ∃ (v : Int32) (I1 : Im) (X1 : Xm) (I2 : Im), m8_set fl len X I b a1 a2 = some (v, I1, X1) ∧ m9_set fl len X1 I1 q a1 a2 = some (v, I2) ∧ Rel I2 X1
def St_sound (fl : Nat) (len : Nat → Nat) (b q : Nat) (Rel : Im → Xm → Prop) : Prop := ∀ (I : Im) (X : Xm) (a1 : Int32) (a2 : Int32) (a3 : Int32), Rel I X → ∃ (v : Int32) (I1 : Im) (X1 : Xm) (I2 : Im), m8_sound fl len X I b a1 a2 a3 = some (v, I1, X1) ∧ m9_sound fl len X1 I1 q a1 a2 a3 = some (v, I2) ∧ Rel I2 X1
def St_cue (fl : Nat) (len : Nat → Nat) (b q : Nat) (Rel : Im → Xm → Prop) : Prop := ∀ (I : Im) (X : Xm) (a1 : Int32) (a2 : Int32) (a3 : Int32) (a4 : Int32), Rel I X → ∃ (v : Int32) (I1 : Im) (X1 : Xm) (I2 : Im), m8_cue fl len X I b a1 a2 a3 a4 = some (v, I1, X1) ∧ m9_cue fl len X1 I1 q a1 a2 a3 a4 = some (v, I2) ∧ Rel I2 X1
def St_takeOut (fl : Nat) (len : Nat → Nat) (b q : Nat) (Rel : Im → Xm → Prop) : Prop := ∀ (I : Im) (X : Xm) (a1 : Int32), Rel I X → ∃ (v : Int32) (I1 : Im) (X1 : Xm) (I2 : Im), m8_takeOut fl len X I b a1 = some (v, I1, X1) ∧ m9_takeOut fl len X1 I1 q a1 = some (v, I2) ∧ Rel I2 X1
def St_move (fl : Nat) (len : Nat → Nat) (b q : Nat) (Rel : Im → Xm → Prop) : Prop := ∀ (I : Im) (X : Xm) (a1 : Int32) (a2 : Int32), Rel I X → ∃ (v : Int32) (I1 : Im) (X1 : Xm) (I2 : Im), m8_move fl len X I b a1 a2 = some (v, I1, X1) ∧ m9_move fl len X1 I1 q a1 a2 = some (v, I2) ∧ Rel I2 X1
def St_goal (fl : Nat) (len : Nat → Nat) (b q : Nat) (Rel : Im → Xm → Prop) : Prop := ∀ (I : Im) (X : Xm) (a1 : Int32) (a2 : Int32), Rel I X → ∃ (v : Int32) (I1 : Im) (X1 : Xm) (I2 : Im), m8_goal fl len X I b a1 a2 = some (v, I1, X1) ∧ m9_goal fl len X1 I1 q a1 a2 = some (v, I2) ∧ Rel I2 X1
def St_begin (fl : Nat) (len : Nat → Nat) (b q : Nat) (Rel : Im → Xm → Prop) : Prop := ∀ (I : Im) (X : Xm) , Rel I X → ∃ (v : Int32) (I1 : Im) (X1 : Xm) (I2 : Im), m8_begin fl len X I b  = some (v, I1, X1) ∧ m9_begin fl len X1 I1 q  = some (v, I2) ∧ Rel I2 X1
def St_pass (fl : Nat) (len : Nat → Nat) (b q : Nat) (Rel : Im → Xm → Prop) : Prop := ∀ (I : Im) (X : Xm) (a1 : Int32), Rel I X → ∃ (v : Int32) (I1 : Im) (X1 : Xm) (I2 : Im), m8_pass fl len X I b a1 = some (v, I1, X1) ∧ m9_pass fl len X1 I1 q a1 = some (v, I2) ∧ Rel I2 X1
def St_ofCue (fl : Nat) (len : Nat → Nat) (b q : Nat) (Rel : Im → Xm → Prop) : Prop := ∀ (I : Im) (X : Xm) (a1 : Int32) (a2 : Int32), Rel I X → ∃ (v : Int32), m8_ofCue fl len X I b a1 a2 = some v ∧ m9_ofCue fl len X I q a1 a2 = some v ∧ Rel I X
def St_ofReel (fl : Nat) (len : Nat → Nat) (b q : Nat) (Rel : Im → Xm → Prop) : Prop := ∀ (I : Im) (X : Xm) (a1 : Int32) (a2 : Int32), Rel I X → ∃ (v : Int32), m8_ofReel fl len X I b a1 a2 = some v ∧ m9_ofReel fl len X I q a1 a2 = some v ∧ Rel I X
def St_ofSound (fl : Nat) (len : Nat → Nat) (b q : Nat) (Rel : Im → Xm → Prop) : Prop := ∀ (I : Im) (X : Xm) (a1 : Int32) (a2 : Int32) (a3 : Int32), Rel I X → ∃ (v : Int32), m8_ofSound fl len X I b a1 a2 a3 = some v ∧ m9_ofSound fl len X I q a1 a2 a3 = some v ∧ Rel I X
def St_played (fl : Nat) (len : Nat → Nat) (b q : Nat) (Rel : Im → Xm → Prop) : Prop := ∀ (I : Im) (X : Xm) (a1 : Int32) (a2 : Int32), Rel I X → ∃ (v : Int32), m8_played fl len X I b a1 a2 = some v ∧ m9_played fl len X I q a1 a2 = some v ∧ Rel I X
def St_ofChannel (fl : Nat) (len : Nat → Nat) (b q : Nat) (Rel : Im → Xm → Prop) : Prop := ∀ (I : Im) (X : Xm) (a1 : Int32) (a2 : Int32), Rel I X → ∃ (v : Int32), m8_ofChannel fl len X I b a1 a2 = some v ∧ m9_ofChannel fl len X I q a1 a2 = some v ∧ Rel I X
def St_loud (fl : Nat) (len : Nat → Nat) (b q : Nat) (Rel : Im → Xm → Prop) : Prop := ∀ (I : Im) (X : Xm) (a1 : Int32), Rel I X → ∃ (v : Int32), m8_loud fl len X I b a1 = some v ∧ m9_loud fl len X I q a1 = some v ∧ Rel I X
def St_count (fl : Nat) (len : Nat → Nat) (b q : Nat) (Rel : Im → Xm → Prop) : Prop := ∀ (I : Im) (X : Xm) (a1 : Int32), Rel I X → ∃ (v : Int32), m8_count fl len X I b a1 = some v ∧ m9_count fl len X I q a1 = some v ∧ Rel I X
def St_rest (fl : Nat) (len : Nat → Nat) (b q : Nat) (Rel : Im → Xm → Prop) : Prop := ∀ (I : Im) (X : Xm) (a1 : Int32), Rel I X → ∃ (v : Int32) (I1 : Im) (I2 : Im), m8_rest fl len X I b a1 = some (v, I1) ∧ m9_rest fl len X I1 q a1 = some (v, I2) ∧ Rel I2 X
def St_becomes (fl : Nat) (len : Nat → Nat) (b q : Nat) (Rel : Im → Xm → Prop) : Prop := ∀ (I : Im) (X : Xm) (a1 : Int32), Rel I X → ∃ (v : Int32) (I1 : Im) (I2 : Im), m8_becomes fl len X I b a1 = some (v, I1) ∧ m9_becomes fl len X I1 q a1 = some (v, I2) ∧ Rel I2 X
def St_leastWind (fl : Nat) (len : Nat → Nat) (b q : Nat) (Rel : Im → Xm → Prop) : Prop := ∀ (I : Im) (X : Xm) , Rel I X → ∃ (v : Int32) (I1 : Im) (I2 : Im), m8_leastWind fl len X I b  = some (v, I1) ∧ m9_leastWind fl len X I1 q  = some (v, I2) ∧ Rel I2 X
def St_ifMoved (fl : Nat) (len : Nat → Nat) (b q : Nat) (Rel : Im → Xm → Prop) : Prop := ∀ (I : Im) (X : Xm) (a1 : Int32) (a2 : Int32), Rel I X → ∃ (v : Int32) (I1 : Im) (X1 : Xm) (I2 : Im), m8_ifMoved fl len X I b a1 a2 = some (v, I1, X1) ∧ m9_ifMoved fl len X1 I1 q a1 a2 = some (v, I2) ∧ Rel I2 X1
def St_readyIn (fl : Nat) (len : Nat → Nat) (b q : Nat) (Rel : Im → Xm → Prop) : Prop := ∀ (I : Im) (X : Xm) (a1 : Int32) (a2 : Int32), Rel I X → ∃ (v : Int32) (I2 : Im), m8_readyIn fl len X I b a1 a2 = some v ∧ m9_readyIn fl len X I q a1 a2 = some (v, I2) ∧ Rel I2 X
def St_put (fl : Nat) (len : Nat → Nat) (b q : Nat) (Rel : Im → Xm → Prop) : Prop := ∀ (I : Im) (X : Xm) (a1 : Int64), Rel I X → ∃ (v : Int32) (I1 : Im) (I2 : Im), m8_put fl len X I b a1 = some (v, I1) ∧ m9_put fl len X I1 q a1 = some (v, I2) ∧ Rel I2 X
def St_wipe (fl : Nat) (len : Nat → Nat) (b q : Nat) (Rel : Im → Xm → Prop) : Prop := ∀ (I : Im) (X : Xm) , Rel I X → ∃ (v : Int32) (I1 : Im) (I2 : Im), m8_wipe fl len X I b  = some (v, I1) ∧ m9_wipe fl len X I1 q  = some (v, I2) ∧ Rel I2 X
def St_fault (fl : Nat) (len : Nat → Nat) (b q : Nat) (Rel : Im → Xm → Prop) : Prop := ∀ (I : Im) (X : Xm) , Rel I X → ∃ (v : Int32) (I1 : Im) (I2 : Im), m8_fault fl len X I b  = some (v, I1) ∧ m9_fault fl len X I1 q  = some (v, I2) ∧ Rel I2 X
def St_carryOut (fl : Nat) (len : Nat → Nat) (b q : Nat) (Rel : Im → Xm → Prop) : Prop := ∀ (I : Im) (X : Xm) , Rel I X → ∃ (v : Int32) (I1 : Im) (X1 : Xm) (I2 : Im), m8_carryOut fl len X I b  = some (v, I1, X1) ∧ m9_carryOut fl len X1 I1 q  = some (v, I2) ∧ Rel I2 X1
def St_undo (fl : Nat) (len : Nat → Nat) (b q : Nat) (Rel : Im → Xm → Prop) : Prop := ∀ (I : Im) (X : Xm) , Rel I X → ∃ (v : Int32) (I1 : Im) (X1 : Xm) (I2 : Im), m8_undo fl len X I b  = some (v, I1, X1) ∧ m9_undo fl len X1 I1 q  = some (v, I2) ∧ Rel I2 X1
def St_save (fl : Nat) (len : Nat → Nat) (b q : Nat) (Rel : Im → Xm → Prop) : Prop := ∀ (I : Im) (X : Xm) (a1 : Int32), Rel I X → ∃ (v : Int32) (I1 : Im) (I2 : Im), m8_save fl len X I b a1 = some (v, I1) ∧ m9_save fl len X I1 q a1 = some (v, I2) ∧ Rel I2 X
def St_restore (fl : Nat) (len : Nat → Nat) (b q : Nat) (Rel : Im → Xm → Prop) : Prop := ∀ (I : Im) (X : Xm) (a1 : Int32), Rel I X → ∃ (v : Int32) (I1 : Im) (X1 : Xm) (I2 : Im), m8_restore fl len X I b a1 = some (v, I1, X1) ∧ m9_restore fl len X1 I1 q a1 = some (v, I2) ∧ Rel I2 X1
def Steps (fl : Nat) (len : Nat → Nat) (b q : Nat) (Rel : Im → Xm → Prop) : Prop := St_set fl len b q Rel ∧ St_sound fl len b q Rel ∧ St_cue fl len b q Rel ∧ St_takeOut fl len b q Rel ∧ St_move fl len b q Rel ∧ St_goal fl len b q Rel ∧ St_begin fl len b q Rel ∧ St_pass fl len b q Rel ∧ St_ofCue fl len b q Rel ∧ St_ofReel fl len b q Rel ∧ St_ofSound fl len b q Rel ∧ St_played fl len b q Rel ∧ St_ofChannel fl len b q Rel ∧ St_loud fl len b q Rel ∧ St_count fl len b q Rel ∧ St_rest fl len b q Rel ∧ St_becomes fl len b q Rel ∧ St_leastWind fl len b q Rel ∧ St_ifMoved fl len b q Rel ∧ St_readyIn fl len b q Rel ∧ St_put fl len b q Rel ∧ St_wipe fl len b q Rel ∧ St_fault fl len b q Rel ∧ St_carryOut fl len b q Rel ∧ St_undo fl len b q Rel ∧ St_save fl len b q Rel ∧ St_restore fl len b q Rel
theorem nI_k1 (i : Nat) : nI i + (1 : Int32) = nI (i + 1) := nI_add i 1
theorem nI_k2 (i : Nat) : nI i + (2 : Int32) = nI (i + 2) := nI_add i 2
theorem nI_k3 (i : Nat) : nI i + (3 : Int32) = nI (i + 3) := nI_add i 3
theorem nI_k4 (i : Nat) : nI i + (4 : Int32) = nI (i + 4) := nI_add i 4
set_option maxHeartbeats 4000000 in
set_option maxRecDepth 100000 in
theorem wl_set {p : Program} {l : Launch} {e : Env} {s : State} {m : MethodId} {below : List Frame} {meth : Method} {c : Code} {E : EN} {n : Nat} {K len : Nat → Nat} {I : Im} {X : Xm} {H : Heap} {locs : List Loc} {ls : Array Slot} {a b q L i : Nat} {xs : Nat → Int32} {Q : State → Prop} {Rel : Im → Xm → Prop} (fl : Nat) (hst : St_set fl len b q Rel) (C0 : CX p s m #[Value.ref a] meth c E cL_law RL 4) (hX : va_X a L xs s s.heap) (hbl : a < s.heap.size) (hBe : eB E = s.heap.size) (hi : i + 5 ≤ L) (hL : L ≤ 2560) (tb : okA E (n, K, len) 8 b) (tq : okA E (n, K, len) 9 q) (hw : WD E (n, K, len) I X s.heap H locs) (hrel : Rel I X) (hl : lv_has ls 4 [(0, .ref a), (1, .ref b), (2, .ref q), (3, .int (nI i))]) (kx : ∀ (I : Im) (X : Xm) (H : Heap) (locs : List Loc), WD E (n, K, len) I X s.heap H locs → Rel I X → W p l e room_1 s m #[Value.ref a] below meth c H locs 600000 7302250 Q (F0 m 907 ls [])) : W p l e room_1 s m #[Value.ref a] below meth c H locs 600000 7302250 Q (F0 m 156 ls []) := by
  have hx := C0.1; have hb := C0.2.1; have hml := C0.2.2.1; have hown := C0.2.2.2.1; have hts := C0.2.2.2.2.1
  have hbA : ¬ eA E a := by show ¬ eB E ≤ a; omega
  obtain ⟨v, I1, X1, I2, h8, h9, hrel2⟩ := hst I X (xs (nI (i + 1)).toNatClampNeg) (xs (nI (i + 2)).toNatClampNeg) hrel
  refine lv_aload_n hx hb dL_law_156 rfl (lv_at hl 1 rfl) ?_
  refine lv_aload_n hx hb dL_law_157 rfl (lv_at hl 0 rfl) ?_
  refine lv_iload_n hx hb dL_law_158 rfl (lv_at hl 3 rfl) ?_
  refine lv_iconst (v := (1 : Int32)) hx hb dL_law_159 (by decide) ?_
  refine lv_iadd hx hb dL_law_160 ?_
  rw [nI_k1]
  refine va_sld hx hb hX hbl hbA hw.2 (vp_in_nI (by omega) (by omega)) dL_law_161 ?_
  refine lv_aload_n hx hb dL_law_162 rfl (lv_at hl 0 rfl) ?_
  refine lv_iload_n hx hb dL_law_163 rfl (lv_at hl 3 rfl) ?_
  refine lv_iconst (v := (2 : Int32)) hx hb dL_law_164 (by decide) ?_
  refine lv_iadd hx hb dL_law_165 ?_
  rw [nI_k2]
  refine va_sld hx hb hX hbl hbA hw.2 (vp_in_nI (by omega) (by omega)) dL_law_166 ?_
  refine x_ci (r := v) (I1 := I1) (X1 := X1) (x_runV (As := [.int (xs (nI (i + 1)).toNatClampNeg), .int (xs (nI (i + 2)).toNatClampNeg)]) (rest := []) C0 (c8_set l E (n, K, len) fl X I b (xs (nI (i + 1)).toNatClampNeg) (xs (nI (i + 2)).toNatClampNeg) tb h8) hw 8 tb (by decide) rfl wd82 wd753 wd754 wd755 wd197 ⟨rfl, rfl⟩ hy8_set ⟨Nat.le_of_ble_eq_true rfl, Nat.le_of_ble_eq_true rfl⟩ rfl hl.1 (Nat.le_of_ble_eq_true rfl) ⟨Nat.le_of_ble_eq_true rfl, Nat.le_of_ble_eq_true rfl⟩ dL_law_167) hw (fun H locs hw => ?_)
  refine lv_aload_n hx hb dL_law_170 rfl (lv_at hl 2 rfl) ?_
  refine lv_aload_n hx hb dL_law_171 rfl (lv_at hl 0 rfl) ?_
  refine lv_iload_n hx hb dL_law_172 rfl (lv_at hl 3 rfl) ?_
  refine lv_iconst (v := (1 : Int32)) hx hb dL_law_173 (by decide) ?_
  refine lv_iadd hx hb dL_law_174 ?_
  rw [nI_k1]
  refine va_sld hx hb hX hbl hbA hw.2 (vp_in_nI (by omega) (by omega)) dL_law_175 ?_
  refine lv_aload_n hx hb dL_law_176 rfl (lv_at hl 0 rfl) ?_
  refine lv_iload_n hx hb dL_law_177 rfl (lv_at hl 3 rfl) ?_
  refine lv_iconst (v := (2 : Int32)) hx hb dL_law_178 (by decide) ?_
  refine lv_iadd hx hb dL_law_179 ?_
  rw [nI_k2]
  refine va_sld hx hb hX hbl hbA hw.2 (vp_in_nI (by omega) (by omega)) dL_law_180 ?_
  refine x_ci (r := v) (I1 := I2) (X1 := X1) (x_runV (As := [.int (xs (nI (i + 1)).toNatClampNeg), .int (xs (nI (i + 2)).toNatClampNeg)]) (rest := [.int v]) C0 (c9_set l E (n, K, len) fl X1 I1 q (xs (nI (i + 1)).toNatClampNeg) (xs (nI (i + 2)).toNatClampNeg) tq h9) hw 9 tq (by decide) rfl wd138 wd756 wd757 wd758 wd612 ⟨rfl, rfl⟩ hy9_set ⟨Nat.le_of_ble_eq_true rfl, Nat.le_of_ble_eq_true rfl⟩ rfl hl.1 (Nat.le_of_ble_eq_true rfl) ⟨Nat.le_of_ble_eq_true rfl, Nat.le_of_ble_eq_true rfl⟩ dL_law_181) hw (fun H locs hw => ?_)
  refine lv_icmp_eq (tgt := 907) hx hb dL_law_184 (by decide) (fun _ => ?_) (fun q => absurd rfl q)
  exact kx _ _ H locs hw hrel2
set_option maxHeartbeats 4000000 in
set_option maxRecDepth 100000 in
theorem wl_sound {p : Program} {l : Launch} {e : Env} {s : State} {m : MethodId} {below : List Frame} {meth : Method} {c : Code} {E : EN} {n : Nat} {K len : Nat → Nat} {I : Im} {X : Xm} {H : Heap} {locs : List Loc} {ls : Array Slot} {a b q L i : Nat} {xs : Nat → Int32} {Q : State → Prop} {Rel : Im → Xm → Prop} (fl : Nat) (hst : St_sound fl len b q Rel) (C0 : CX p s m #[Value.ref a] meth c E cL_law RL 4) (hX : va_X a L xs s s.heap) (hbl : a < s.heap.size) (hBe : eB E = s.heap.size) (hi : i + 5 ≤ L) (hL : L ≤ 2560) (tb : okA E (n, K, len) 8 b) (tq : okA E (n, K, len) 9 q) (hw : WD E (n, K, len) I X s.heap H locs) (hrel : Rel I X) (hl : lv_has ls 4 [(0, .ref a), (1, .ref b), (2, .ref q), (3, .int (nI i))]) (kx : ∀ (I : Im) (X : Xm) (H : Heap) (locs : List Loc), WD E (n, K, len) I X s.heap H locs → Rel I X → W p l e room_1 s m #[Value.ref a] below meth c H locs 600000 7302250 Q (F0 m 907 ls [])) : W p l e room_1 s m #[Value.ref a] below meth c H locs 600000 7302250 Q (F0 m 189 ls []) := by
  have hx := C0.1; have hb := C0.2.1; have hml := C0.2.2.1; have hown := C0.2.2.2.1; have hts := C0.2.2.2.2.1
  have hbA : ¬ eA E a := by show ¬ eB E ≤ a; omega
  obtain ⟨v, I1, X1, I2, h8, h9, hrel2⟩ := hst I X (xs (nI (i + 1)).toNatClampNeg) (xs (nI (i + 2)).toNatClampNeg) (xs (nI (i + 3)).toNatClampNeg) hrel
  refine lv_aload_n hx hb dL_law_189 rfl (lv_at hl 1 rfl) ?_
  refine lv_aload_n hx hb dL_law_190 rfl (lv_at hl 0 rfl) ?_
  refine lv_iload_n hx hb dL_law_191 rfl (lv_at hl 3 rfl) ?_
  refine lv_iconst (v := (1 : Int32)) hx hb dL_law_192 (by decide) ?_
  refine lv_iadd hx hb dL_law_193 ?_
  rw [nI_k1]
  refine va_sld hx hb hX hbl hbA hw.2 (vp_in_nI (by omega) (by omega)) dL_law_194 ?_
  refine lv_aload_n hx hb dL_law_195 rfl (lv_at hl 0 rfl) ?_
  refine lv_iload_n hx hb dL_law_196 rfl (lv_at hl 3 rfl) ?_
  refine lv_iconst (v := (2 : Int32)) hx hb dL_law_197 (by decide) ?_
  refine lv_iadd hx hb dL_law_198 ?_
  rw [nI_k2]
  refine va_sld hx hb hX hbl hbA hw.2 (vp_in_nI (by omega) (by omega)) dL_law_199 ?_
  refine lv_aload_n hx hb dL_law_200 rfl (lv_at hl 0 rfl) ?_
  refine lv_iload_n hx hb dL_law_201 rfl (lv_at hl 3 rfl) ?_
  refine lv_iconst (v := (3 : Int32)) hx hb dL_law_202 (by decide) ?_
  refine lv_iadd hx hb dL_law_203 ?_
  rw [nI_k3]
  refine va_sld hx hb hX hbl hbA hw.2 (vp_in_nI (by omega) (by omega)) dL_law_204 ?_
  refine x_ci (r := v) (I1 := I1) (X1 := X1) (x_runV (As := [.int (xs (nI (i + 1)).toNatClampNeg), .int (xs (nI (i + 2)).toNatClampNeg), .int (xs (nI (i + 3)).toNatClampNeg)]) (rest := []) C0 (c8_sound l E (n, K, len) fl X I b (xs (nI (i + 1)).toNatClampNeg) (xs (nI (i + 2)).toNatClampNeg) (xs (nI (i + 3)).toNatClampNeg) tb h8) hw 8 tb (by decide) rfl wd83 wd759 wd760 wd761 wd197 ⟨rfl, rfl⟩ hy8_sound ⟨Nat.le_of_ble_eq_true rfl, Nat.le_of_ble_eq_true rfl⟩ rfl hl.1 (Nat.le_of_ble_eq_true rfl) ⟨Nat.le_of_ble_eq_true rfl, Nat.le_of_ble_eq_true rfl⟩ dL_law_205) hw (fun H locs hw => ?_)
  refine lv_aload_n hx hb dL_law_208 rfl (lv_at hl 2 rfl) ?_
  refine lv_aload_n hx hb dL_law_209 rfl (lv_at hl 0 rfl) ?_
  refine lv_iload_n hx hb dL_law_210 rfl (lv_at hl 3 rfl) ?_
  refine lv_iconst (v := (1 : Int32)) hx hb dL_law_211 (by decide) ?_
  refine lv_iadd hx hb dL_law_212 ?_
  rw [nI_k1]
  refine va_sld hx hb hX hbl hbA hw.2 (vp_in_nI (by omega) (by omega)) dL_law_213 ?_
  refine lv_aload_n hx hb dL_law_214 rfl (lv_at hl 0 rfl) ?_
  refine lv_iload_n hx hb dL_law_215 rfl (lv_at hl 3 rfl) ?_
  refine lv_iconst (v := (2 : Int32)) hx hb dL_law_216 (by decide) ?_
  refine lv_iadd hx hb dL_law_217 ?_
  rw [nI_k2]
  refine va_sld hx hb hX hbl hbA hw.2 (vp_in_nI (by omega) (by omega)) dL_law_218 ?_
  refine lv_aload_n hx hb dL_law_219 rfl (lv_at hl 0 rfl) ?_
  refine lv_iload_n hx hb dL_law_220 rfl (lv_at hl 3 rfl) ?_
  refine lv_iconst (v := (3 : Int32)) hx hb dL_law_221 (by decide) ?_
  refine lv_iadd hx hb dL_law_222 ?_
  rw [nI_k3]
  refine va_sld hx hb hX hbl hbA hw.2 (vp_in_nI (by omega) (by omega)) dL_law_223 ?_
  refine x_ci (r := v) (I1 := I2) (X1 := X1) (x_runV (As := [.int (xs (nI (i + 1)).toNatClampNeg), .int (xs (nI (i + 2)).toNatClampNeg), .int (xs (nI (i + 3)).toNatClampNeg)]) (rest := [.int v]) C0 (c9_sound l E (n, K, len) fl X1 I1 q (xs (nI (i + 1)).toNatClampNeg) (xs (nI (i + 2)).toNatClampNeg) (xs (nI (i + 3)).toNatClampNeg) tq h9) hw 9 tq (by decide) rfl wd139 wd762 wd730 wd731 wd612 ⟨rfl, rfl⟩ hy9_sound ⟨Nat.le_of_ble_eq_true rfl, Nat.le_of_ble_eq_true rfl⟩ rfl hl.1 (Nat.le_of_ble_eq_true rfl) ⟨Nat.le_of_ble_eq_true rfl, Nat.le_of_ble_eq_true rfl⟩ dL_law_224) hw (fun H locs hw => ?_)
  refine lv_icmp_eq (tgt := 907) hx hb dL_law_227 (by decide) (fun _ => ?_) (fun q => absurd rfl q)
  exact kx _ _ H locs hw hrel2
set_option maxHeartbeats 4000000 in
set_option maxRecDepth 100000 in
theorem wl_cue {p : Program} {l : Launch} {e : Env} {s : State} {m : MethodId} {below : List Frame} {meth : Method} {c : Code} {E : EN} {n : Nat} {K len : Nat → Nat} {I : Im} {X : Xm} {H : Heap} {locs : List Loc} {ls : Array Slot} {a b q L i : Nat} {xs : Nat → Int32} {Q : State → Prop} {Rel : Im → Xm → Prop} (fl : Nat) (hst : St_cue fl len b q Rel) (C0 : CX p s m #[Value.ref a] meth c E cL_law RL 4) (hX : va_X a L xs s s.heap) (hbl : a < s.heap.size) (hBe : eB E = s.heap.size) (hi : i + 5 ≤ L) (hL : L ≤ 2560) (tb : okA E (n, K, len) 8 b) (tq : okA E (n, K, len) 9 q) (hw : WD E (n, K, len) I X s.heap H locs) (hrel : Rel I X) (hl : lv_has ls 4 [(0, .ref a), (1, .ref b), (2, .ref q), (3, .int (nI i))]) (kx : ∀ (I : Im) (X : Xm) (H : Heap) (locs : List Loc), WD E (n, K, len) I X s.heap H locs → Rel I X → W p l e room_1 s m #[Value.ref a] below meth c H locs 600000 7302250 Q (F0 m 907 ls [])) : W p l e room_1 s m #[Value.ref a] below meth c H locs 600000 7302250 Q (F0 m 232 ls []) := by
  have hx := C0.1; have hb := C0.2.1; have hml := C0.2.2.1; have hown := C0.2.2.2.1; have hts := C0.2.2.2.2.1
  have hbA : ¬ eA E a := by show ¬ eB E ≤ a; omega
  obtain ⟨v, I1, X1, I2, h8, h9, hrel2⟩ := hst I X (xs (nI (i + 1)).toNatClampNeg) (xs (nI (i + 2)).toNatClampNeg) (xs (nI (i + 3)).toNatClampNeg) (xs (nI (i + 4)).toNatClampNeg) hrel
  refine lv_aload_n hx hb dL_law_232 rfl (lv_at hl 1 rfl) ?_
  refine lv_aload_n hx hb dL_law_233 rfl (lv_at hl 0 rfl) ?_
  refine lv_iload_n hx hb dL_law_234 rfl (lv_at hl 3 rfl) ?_
  refine lv_iconst (v := (1 : Int32)) hx hb dL_law_235 (by decide) ?_
  refine lv_iadd hx hb dL_law_236 ?_
  rw [nI_k1]
  refine va_sld hx hb hX hbl hbA hw.2 (vp_in_nI (by omega) (by omega)) dL_law_237 ?_
  refine lv_aload_n hx hb dL_law_238 rfl (lv_at hl 0 rfl) ?_
  refine lv_iload_n hx hb dL_law_239 rfl (lv_at hl 3 rfl) ?_
  refine lv_iconst (v := (2 : Int32)) hx hb dL_law_240 (by decide) ?_
  refine lv_iadd hx hb dL_law_241 ?_
  rw [nI_k2]
  refine va_sld hx hb hX hbl hbA hw.2 (vp_in_nI (by omega) (by omega)) dL_law_242 ?_
  refine lv_aload_n hx hb dL_law_243 rfl (lv_at hl 0 rfl) ?_
  refine lv_iload_n hx hb dL_law_244 rfl (lv_at hl 3 rfl) ?_
  refine lv_iconst (v := (3 : Int32)) hx hb dL_law_245 (by decide) ?_
  refine lv_iadd hx hb dL_law_246 ?_
  rw [nI_k3]
  refine va_sld hx hb hX hbl hbA hw.2 (vp_in_nI (by omega) (by omega)) dL_law_247 ?_
  refine lv_aload_n hx hb dL_law_248 rfl (lv_at hl 0 rfl) ?_
  refine lv_iload_n hx hb dL_law_249 rfl (lv_at hl 3 rfl) ?_
  refine lv_iconst (v := (4 : Int32)) hx hb dL_law_250 (by decide) ?_
  refine lv_iadd hx hb dL_law_251 ?_
  rw [nI_k4]
  refine va_sld hx hb hX hbl hbA hw.2 (vp_in_nI (by omega) (by omega)) dL_law_252 ?_
  refine x_ci (r := v) (I1 := I1) (X1 := X1) (x_runV (As := [.int (xs (nI (i + 1)).toNatClampNeg), .int (xs (nI (i + 2)).toNatClampNeg), .int (xs (nI (i + 3)).toNatClampNeg), .int (xs (nI (i + 4)).toNatClampNeg)]) (rest := []) C0 (c8_cue l E (n, K, len) fl X I b (xs (nI (i + 1)).toNatClampNeg) (xs (nI (i + 2)).toNatClampNeg) (xs (nI (i + 3)).toNatClampNeg) (xs (nI (i + 4)).toNatClampNeg) tb h8) hw 8 tb (by decide) rfl wd84 wd763 wd764 wd765 wd197 ⟨rfl, rfl⟩ hy8_cue ⟨Nat.le_of_ble_eq_true rfl, Nat.le_of_ble_eq_true rfl⟩ rfl hl.1 (Nat.le_of_ble_eq_true rfl) ⟨Nat.le_of_ble_eq_true rfl, Nat.le_of_ble_eq_true rfl⟩ dL_law_253) hw (fun H locs hw => ?_)
  refine lv_aload_n hx hb dL_law_256 rfl (lv_at hl 2 rfl) ?_
  refine lv_aload_n hx hb dL_law_257 rfl (lv_at hl 0 rfl) ?_
  refine lv_iload_n hx hb dL_law_258 rfl (lv_at hl 3 rfl) ?_
  refine lv_iconst (v := (1 : Int32)) hx hb dL_law_259 (by decide) ?_
  refine lv_iadd hx hb dL_law_260 ?_
  rw [nI_k1]
  refine va_sld hx hb hX hbl hbA hw.2 (vp_in_nI (by omega) (by omega)) dL_law_261 ?_
  refine lv_aload_n hx hb dL_law_262 rfl (lv_at hl 0 rfl) ?_
  refine lv_iload_n hx hb dL_law_263 rfl (lv_at hl 3 rfl) ?_
  refine lv_iconst (v := (2 : Int32)) hx hb dL_law_264 (by decide) ?_
  refine lv_iadd hx hb dL_law_265 ?_
  rw [nI_k2]
  refine va_sld hx hb hX hbl hbA hw.2 (vp_in_nI (by omega) (by omega)) dL_law_266 ?_
  refine lv_aload_n hx hb dL_law_267 rfl (lv_at hl 0 rfl) ?_
  refine lv_iload_n hx hb dL_law_268 rfl (lv_at hl 3 rfl) ?_
  refine lv_iconst (v := (3 : Int32)) hx hb dL_law_269 (by decide) ?_
  refine lv_iadd hx hb dL_law_270 ?_
  rw [nI_k3]
  refine va_sld hx hb hX hbl hbA hw.2 (vp_in_nI (by omega) (by omega)) dL_law_271 ?_
  refine lv_aload_n hx hb dL_law_272 rfl (lv_at hl 0 rfl) ?_
  refine lv_iload_n hx hb dL_law_273 rfl (lv_at hl 3 rfl) ?_
  refine lv_iconst (v := (4 : Int32)) hx hb dL_law_274 (by decide) ?_
  refine lv_iadd hx hb dL_law_275 ?_
  rw [nI_k4]
  refine va_sld hx hb hX hbl hbA hw.2 (vp_in_nI (by omega) (by omega)) dL_law_276 ?_
  refine x_ci (r := v) (I1 := I2) (X1 := X1) (x_runV (As := [.int (xs (nI (i + 1)).toNatClampNeg), .int (xs (nI (i + 2)).toNatClampNeg), .int (xs (nI (i + 3)).toNatClampNeg), .int (xs (nI (i + 4)).toNatClampNeg)]) (rest := [.int v]) C0 (c9_cue l E (n, K, len) fl X1 I1 q (xs (nI (i + 1)).toNatClampNeg) (xs (nI (i + 2)).toNatClampNeg) (xs (nI (i + 3)).toNatClampNeg) (xs (nI (i + 4)).toNatClampNeg) tq h9) hw 9 tq (by decide) rfl wd142 wd766 wd733 wd734 wd612 ⟨rfl, rfl⟩ hy9_cue ⟨Nat.le_of_ble_eq_true rfl, Nat.le_of_ble_eq_true rfl⟩ rfl hl.1 (Nat.le_of_ble_eq_true rfl) ⟨Nat.le_of_ble_eq_true rfl, Nat.le_of_ble_eq_true rfl⟩ dL_law_277) hw (fun H locs hw => ?_)
  refine lv_icmp_eq (tgt := 907) hx hb dL_law_280 (by decide) (fun _ => ?_) (fun q => absurd rfl q)
  exact kx _ _ H locs hw hrel2
set_option maxHeartbeats 4000000 in
set_option maxRecDepth 100000 in
theorem wl_takeOut {p : Program} {l : Launch} {e : Env} {s : State} {m : MethodId} {below : List Frame} {meth : Method} {c : Code} {E : EN} {n : Nat} {K len : Nat → Nat} {I : Im} {X : Xm} {H : Heap} {locs : List Loc} {ls : Array Slot} {a b q L i : Nat} {xs : Nat → Int32} {Q : State → Prop} {Rel : Im → Xm → Prop} (fl : Nat) (hst : St_takeOut fl len b q Rel) (C0 : CX p s m #[Value.ref a] meth c E cL_law RL 4) (hX : va_X a L xs s s.heap) (hbl : a < s.heap.size) (hBe : eB E = s.heap.size) (hi : i + 5 ≤ L) (hL : L ≤ 2560) (tb : okA E (n, K, len) 8 b) (tq : okA E (n, K, len) 9 q) (hw : WD E (n, K, len) I X s.heap H locs) (hrel : Rel I X) (hl : lv_has ls 4 [(0, .ref a), (1, .ref b), (2, .ref q), (3, .int (nI i))]) (kx : ∀ (I : Im) (X : Xm) (H : Heap) (locs : List Loc), WD E (n, K, len) I X s.heap H locs → Rel I X → W p l e room_1 s m #[Value.ref a] below meth c H locs 600000 7302250 Q (F0 m 907 ls [])) : W p l e room_1 s m #[Value.ref a] below meth c H locs 600000 7302250 Q (F0 m 285 ls []) := by
  have hx := C0.1; have hb := C0.2.1; have hml := C0.2.2.1; have hown := C0.2.2.2.1; have hts := C0.2.2.2.2.1
  have hbA : ¬ eA E a := by show ¬ eB E ≤ a; omega
  obtain ⟨v, I1, X1, I2, h8, h9, hrel2⟩ := hst I X (xs (nI (i + 1)).toNatClampNeg) hrel
  refine lv_aload_n hx hb dL_law_285 rfl (lv_at hl 1 rfl) ?_
  refine lv_aload_n hx hb dL_law_286 rfl (lv_at hl 0 rfl) ?_
  refine lv_iload_n hx hb dL_law_287 rfl (lv_at hl 3 rfl) ?_
  refine lv_iconst (v := (1 : Int32)) hx hb dL_law_288 (by decide) ?_
  refine lv_iadd hx hb dL_law_289 ?_
  rw [nI_k1]
  refine va_sld hx hb hX hbl hbA hw.2 (vp_in_nI (by omega) (by omega)) dL_law_290 ?_
  refine x_ci (r := v) (I1 := I1) (X1 := X1) (x_runV (As := [.int (xs (nI (i + 1)).toNatClampNeg)]) (rest := []) C0 (c8_takeOut l E (n, K, len) fl X I b (xs (nI (i + 1)).toNatClampNeg) tb h8) hw 8 tb (by decide) rfl wd85 wd767 wd768 wd769 wd197 ⟨rfl, rfl⟩ hy8_takeOut ⟨Nat.le_of_ble_eq_true rfl, Nat.le_of_ble_eq_true rfl⟩ rfl hl.1 (Nat.le_of_ble_eq_true rfl) ⟨Nat.le_of_ble_eq_true rfl, Nat.le_of_ble_eq_true rfl⟩ dL_law_291) hw (fun H locs hw => ?_)
  refine lv_aload_n hx hb dL_law_294 rfl (lv_at hl 2 rfl) ?_
  refine lv_aload_n hx hb dL_law_295 rfl (lv_at hl 0 rfl) ?_
  refine lv_iload_n hx hb dL_law_296 rfl (lv_at hl 3 rfl) ?_
  refine lv_iconst (v := (1 : Int32)) hx hb dL_law_297 (by decide) ?_
  refine lv_iadd hx hb dL_law_298 ?_
  rw [nI_k1]
  refine va_sld hx hb hX hbl hbA hw.2 (vp_in_nI (by omega) (by omega)) dL_law_299 ?_
  refine x_ci (r := v) (I1 := I2) (X1 := X1) (x_runV (As := [.int (xs (nI (i + 1)).toNatClampNeg)]) (rest := [.int v]) C0 (c9_takeOut l E (n, K, len) fl X1 I1 q (xs (nI (i + 1)).toNatClampNeg) tq h9) hw 9 tq (by decide) rfl wd143 wd770 wd771 wd772 wd612 ⟨rfl, rfl⟩ hy9_takeOut ⟨Nat.le_of_ble_eq_true rfl, Nat.le_of_ble_eq_true rfl⟩ rfl hl.1 (Nat.le_of_ble_eq_true rfl) ⟨Nat.le_of_ble_eq_true rfl, Nat.le_of_ble_eq_true rfl⟩ dL_law_300) hw (fun H locs hw => ?_)
  refine lv_icmp_eq (tgt := 907) hx hb dL_law_303 (by decide) (fun _ => ?_) (fun q => absurd rfl q)
  exact kx _ _ H locs hw hrel2
set_option maxHeartbeats 4000000 in
set_option maxRecDepth 100000 in
theorem wl_move {p : Program} {l : Launch} {e : Env} {s : State} {m : MethodId} {below : List Frame} {meth : Method} {c : Code} {E : EN} {n : Nat} {K len : Nat → Nat} {I : Im} {X : Xm} {H : Heap} {locs : List Loc} {ls : Array Slot} {a b q L i : Nat} {xs : Nat → Int32} {Q : State → Prop} {Rel : Im → Xm → Prop} (fl : Nat) (hst : St_move fl len b q Rel) (C0 : CX p s m #[Value.ref a] meth c E cL_law RL 4) (hX : va_X a L xs s s.heap) (hbl : a < s.heap.size) (hBe : eB E = s.heap.size) (hi : i + 5 ≤ L) (hL : L ≤ 2560) (tb : okA E (n, K, len) 8 b) (tq : okA E (n, K, len) 9 q) (hw : WD E (n, K, len) I X s.heap H locs) (hrel : Rel I X) (hl : lv_has ls 4 [(0, .ref a), (1, .ref b), (2, .ref q), (3, .int (nI i))]) (kx : ∀ (I : Im) (X : Xm) (H : Heap) (locs : List Loc), WD E (n, K, len) I X s.heap H locs → Rel I X → W p l e room_1 s m #[Value.ref a] below meth c H locs 600000 7302250 Q (F0 m 907 ls [])) : W p l e room_1 s m #[Value.ref a] below meth c H locs 600000 7302250 Q (F0 m 308 ls []) := by
  have hx := C0.1; have hb := C0.2.1; have hml := C0.2.2.1; have hown := C0.2.2.2.1; have hts := C0.2.2.2.2.1
  have hbA : ¬ eA E a := by show ¬ eB E ≤ a; omega
  obtain ⟨v, I1, X1, I2, h8, h9, hrel2⟩ := hst I X (xs (nI (i + 1)).toNatClampNeg) (xs (nI (i + 2)).toNatClampNeg) hrel
  refine lv_aload_n hx hb dL_law_308 rfl (lv_at hl 1 rfl) ?_
  refine lv_aload_n hx hb dL_law_309 rfl (lv_at hl 0 rfl) ?_
  refine lv_iload_n hx hb dL_law_310 rfl (lv_at hl 3 rfl) ?_
  refine lv_iconst (v := (1 : Int32)) hx hb dL_law_311 (by decide) ?_
  refine lv_iadd hx hb dL_law_312 ?_
  rw [nI_k1]
  refine va_sld hx hb hX hbl hbA hw.2 (vp_in_nI (by omega) (by omega)) dL_law_313 ?_
  refine lv_aload_n hx hb dL_law_314 rfl (lv_at hl 0 rfl) ?_
  refine lv_iload_n hx hb dL_law_315 rfl (lv_at hl 3 rfl) ?_
  refine lv_iconst (v := (2 : Int32)) hx hb dL_law_316 (by decide) ?_
  refine lv_iadd hx hb dL_law_317 ?_
  rw [nI_k2]
  refine va_sld hx hb hX hbl hbA hw.2 (vp_in_nI (by omega) (by omega)) dL_law_318 ?_
  refine x_ci (r := v) (I1 := I1) (X1 := X1) (x_runV (As := [.int (xs (nI (i + 1)).toNatClampNeg), .int (xs (nI (i + 2)).toNatClampNeg)]) (rest := []) C0 (c8_move l E (n, K, len) fl X I b (xs (nI (i + 1)).toNatClampNeg) (xs (nI (i + 2)).toNatClampNeg) tb h8) hw 8 tb (by decide) rfl wd86 wd773 wd774 wd775 wd197 ⟨rfl, rfl⟩ hy8_move ⟨Nat.le_of_ble_eq_true rfl, Nat.le_of_ble_eq_true rfl⟩ rfl hl.1 (Nat.le_of_ble_eq_true rfl) ⟨Nat.le_of_ble_eq_true rfl, Nat.le_of_ble_eq_true rfl⟩ dL_law_319) hw (fun H locs hw => ?_)
  refine lv_aload_n hx hb dL_law_322 rfl (lv_at hl 2 rfl) ?_
  refine lv_aload_n hx hb dL_law_323 rfl (lv_at hl 0 rfl) ?_
  refine lv_iload_n hx hb dL_law_324 rfl (lv_at hl 3 rfl) ?_
  refine lv_iconst (v := (1 : Int32)) hx hb dL_law_325 (by decide) ?_
  refine lv_iadd hx hb dL_law_326 ?_
  rw [nI_k1]
  refine va_sld hx hb hX hbl hbA hw.2 (vp_in_nI (by omega) (by omega)) dL_law_327 ?_
  refine lv_aload_n hx hb dL_law_328 rfl (lv_at hl 0 rfl) ?_
  refine lv_iload_n hx hb dL_law_329 rfl (lv_at hl 3 rfl) ?_
  refine lv_iconst (v := (2 : Int32)) hx hb dL_law_330 (by decide) ?_
  refine lv_iadd hx hb dL_law_331 ?_
  rw [nI_k2]
  refine va_sld hx hb hX hbl hbA hw.2 (vp_in_nI (by omega) (by omega)) dL_law_332 ?_
  refine x_ci (r := v) (I1 := I2) (X1 := X1) (x_runV (As := [.int (xs (nI (i + 1)).toNatClampNeg), .int (xs (nI (i + 2)).toNatClampNeg)]) (rest := [.int v]) C0 (c9_move l E (n, K, len) fl X1 I1 q (xs (nI (i + 1)).toNatClampNeg) (xs (nI (i + 2)).toNatClampNeg) tq h9) hw 9 tq (by decide) rfl wd146 wd776 wd777 wd778 wd612 ⟨rfl, rfl⟩ hy9_move ⟨Nat.le_of_ble_eq_true rfl, Nat.le_of_ble_eq_true rfl⟩ rfl hl.1 (Nat.le_of_ble_eq_true rfl) ⟨Nat.le_of_ble_eq_true rfl, Nat.le_of_ble_eq_true rfl⟩ dL_law_333) hw (fun H locs hw => ?_)
  refine lv_icmp_eq (tgt := 907) hx hb dL_law_336 (by decide) (fun _ => ?_) (fun q => absurd rfl q)
  exact kx _ _ H locs hw hrel2
set_option maxHeartbeats 4000000 in
set_option maxRecDepth 100000 in
theorem wl_goal {p : Program} {l : Launch} {e : Env} {s : State} {m : MethodId} {below : List Frame} {meth : Method} {c : Code} {E : EN} {n : Nat} {K len : Nat → Nat} {I : Im} {X : Xm} {H : Heap} {locs : List Loc} {ls : Array Slot} {a b q L i : Nat} {xs : Nat → Int32} {Q : State → Prop} {Rel : Im → Xm → Prop} (fl : Nat) (hst : St_goal fl len b q Rel) (C0 : CX p s m #[Value.ref a] meth c E cL_law RL 4) (hX : va_X a L xs s s.heap) (hbl : a < s.heap.size) (hBe : eB E = s.heap.size) (hi : i + 5 ≤ L) (hL : L ≤ 2560) (tb : okA E (n, K, len) 8 b) (tq : okA E (n, K, len) 9 q) (hw : WD E (n, K, len) I X s.heap H locs) (hrel : Rel I X) (hl : lv_has ls 4 [(0, .ref a), (1, .ref b), (2, .ref q), (3, .int (nI i))]) (kx : ∀ (I : Im) (X : Xm) (H : Heap) (locs : List Loc), WD E (n, K, len) I X s.heap H locs → Rel I X → W p l e room_1 s m #[Value.ref a] below meth c H locs 600000 7302250 Q (F0 m 907 ls [])) : W p l e room_1 s m #[Value.ref a] below meth c H locs 600000 7302250 Q (F0 m 341 ls []) := by
  have hx := C0.1; have hb := C0.2.1; have hml := C0.2.2.1; have hown := C0.2.2.2.1; have hts := C0.2.2.2.2.1
  have hbA : ¬ eA E a := by show ¬ eB E ≤ a; omega
  obtain ⟨v, I1, X1, I2, h8, h9, hrel2⟩ := hst I X (xs (nI (i + 1)).toNatClampNeg) (xs (nI (i + 2)).toNatClampNeg) hrel
  refine lv_aload_n hx hb dL_law_341 rfl (lv_at hl 1 rfl) ?_
  refine lv_aload_n hx hb dL_law_342 rfl (lv_at hl 0 rfl) ?_
  refine lv_iload_n hx hb dL_law_343 rfl (lv_at hl 3 rfl) ?_
  refine lv_iconst (v := (1 : Int32)) hx hb dL_law_344 (by decide) ?_
  refine lv_iadd hx hb dL_law_345 ?_
  rw [nI_k1]
  refine va_sld hx hb hX hbl hbA hw.2 (vp_in_nI (by omega) (by omega)) dL_law_346 ?_
  refine lv_aload_n hx hb dL_law_347 rfl (lv_at hl 0 rfl) ?_
  refine lv_iload_n hx hb dL_law_348 rfl (lv_at hl 3 rfl) ?_
  refine lv_iconst (v := (2 : Int32)) hx hb dL_law_349 (by decide) ?_
  refine lv_iadd hx hb dL_law_350 ?_
  rw [nI_k2]
  refine va_sld hx hb hX hbl hbA hw.2 (vp_in_nI (by omega) (by omega)) dL_law_351 ?_
  refine x_ci (r := v) (I1 := I1) (X1 := X1) (x_runV (As := [.int (xs (nI (i + 1)).toNatClampNeg), .int (xs (nI (i + 2)).toNatClampNeg)]) (rest := []) C0 (c8_goal l E (n, K, len) fl X I b (xs (nI (i + 1)).toNatClampNeg) (xs (nI (i + 2)).toNatClampNeg) tb h8) hw 8 tb (by decide) rfl wd87 wd779 wd780 wd781 wd197 ⟨rfl, rfl⟩ hy8_goal ⟨Nat.le_of_ble_eq_true rfl, Nat.le_of_ble_eq_true rfl⟩ rfl hl.1 (Nat.le_of_ble_eq_true rfl) ⟨Nat.le_of_ble_eq_true rfl, Nat.le_of_ble_eq_true rfl⟩ dL_law_352) hw (fun H locs hw => ?_)
  refine lv_aload_n hx hb dL_law_355 rfl (lv_at hl 2 rfl) ?_
  refine lv_aload_n hx hb dL_law_356 rfl (lv_at hl 0 rfl) ?_
  refine lv_iload_n hx hb dL_law_357 rfl (lv_at hl 3 rfl) ?_
  refine lv_iconst (v := (1 : Int32)) hx hb dL_law_358 (by decide) ?_
  refine lv_iadd hx hb dL_law_359 ?_
  rw [nI_k1]
  refine va_sld hx hb hX hbl hbA hw.2 (vp_in_nI (by omega) (by omega)) dL_law_360 ?_
  refine lv_aload_n hx hb dL_law_361 rfl (lv_at hl 0 rfl) ?_
  refine lv_iload_n hx hb dL_law_362 rfl (lv_at hl 3 rfl) ?_
  refine lv_iconst (v := (2 : Int32)) hx hb dL_law_363 (by decide) ?_
  refine lv_iadd hx hb dL_law_364 ?_
  rw [nI_k2]
  refine va_sld hx hb hX hbl hbA hw.2 (vp_in_nI (by omega) (by omega)) dL_law_365 ?_
  refine x_ci (r := v) (I1 := I2) (X1 := X1) (x_runV (As := [.int (xs (nI (i + 1)).toNatClampNeg), .int (xs (nI (i + 2)).toNatClampNeg)]) (rest := [.int v]) C0 (c9_goal l E (n, K, len) fl X1 I1 q (xs (nI (i + 1)).toNatClampNeg) (xs (nI (i + 2)).toNatClampNeg) tq h9) hw 9 tq (by decide) rfl wd147 wd782 wd783 wd784 wd612 ⟨rfl, rfl⟩ hy9_goal ⟨Nat.le_of_ble_eq_true rfl, Nat.le_of_ble_eq_true rfl⟩ rfl hl.1 (Nat.le_of_ble_eq_true rfl) ⟨Nat.le_of_ble_eq_true rfl, Nat.le_of_ble_eq_true rfl⟩ dL_law_366) hw (fun H locs hw => ?_)
  refine lv_icmp_eq (tgt := 907) hx hb dL_law_369 (by decide) (fun _ => ?_) (fun q => absurd rfl q)
  exact kx _ _ H locs hw hrel2
set_option maxHeartbeats 4000000 in
set_option maxRecDepth 100000 in
theorem wl_begin {p : Program} {l : Launch} {e : Env} {s : State} {m : MethodId} {below : List Frame} {meth : Method} {c : Code} {E : EN} {n : Nat} {K len : Nat → Nat} {I : Im} {X : Xm} {H : Heap} {locs : List Loc} {ls : Array Slot} {a b q L i : Nat} {xs : Nat → Int32} {Q : State → Prop} {Rel : Im → Xm → Prop} (fl : Nat) (hst : St_begin fl len b q Rel) (C0 : CX p s m #[Value.ref a] meth c E cL_law RL 4) (hX : va_X a L xs s s.heap) (hbl : a < s.heap.size) (hBe : eB E = s.heap.size) (hi : i + 5 ≤ L) (hL : L ≤ 2560) (tb : okA E (n, K, len) 8 b) (tq : okA E (n, K, len) 9 q) (hw : WD E (n, K, len) I X s.heap H locs) (hrel : Rel I X) (hl : lv_has ls 4 [(0, .ref a), (1, .ref b), (2, .ref q), (3, .int (nI i))]) (kx : ∀ (I : Im) (X : Xm) (H : Heap) (locs : List Loc), WD E (n, K, len) I X s.heap H locs → Rel I X → W p l e room_1 s m #[Value.ref a] below meth c H locs 600000 7302250 Q (F0 m 907 ls [])) : W p l e room_1 s m #[Value.ref a] below meth c H locs 600000 7302250 Q (F0 m 374 ls []) := by
  have hx := C0.1; have hb := C0.2.1; have hml := C0.2.2.1; have hown := C0.2.2.2.1; have hts := C0.2.2.2.2.1
  have hbA : ¬ eA E a := by show ¬ eB E ≤ a; omega
  obtain ⟨v, I1, X1, I2, h8, h9, hrel2⟩ := hst I X  hrel
  refine lv_aload_n hx hb dL_law_374 rfl (lv_at hl 1 rfl) ?_
  refine x_ci (r := v) (I1 := I1) (X1 := X1) (x_runV (As := []) (rest := []) C0 (c8_begin l E (n, K, len) fl X I b  tb h8) hw 8 tb (by decide) rfl wd88 wd785 wd786 wd787 wd197 ⟨rfl, rfl⟩ hy8_begin ⟨Nat.le_of_ble_eq_true rfl, Nat.le_of_ble_eq_true rfl⟩ rfl hl.1 (Nat.le_of_ble_eq_true rfl) ⟨Nat.le_of_ble_eq_true rfl, Nat.le_of_ble_eq_true rfl⟩ dL_law_375) hw (fun H locs hw => ?_)
  refine lv_aload_n hx hb dL_law_378 rfl (lv_at hl 2 rfl) ?_
  refine x_ci (r := v) (I1 := I2) (X1 := X1) (x_runV (As := []) (rest := [.int v]) C0 (c9_begin l E (n, K, len) fl X1 I1 q  tq h9) hw 9 tq (by decide) rfl wd148 wd788 wd789 wd790 wd612 ⟨rfl, rfl⟩ hy9_begin ⟨Nat.le_of_ble_eq_true rfl, Nat.le_of_ble_eq_true rfl⟩ rfl hl.1 (Nat.le_of_ble_eq_true rfl) ⟨Nat.le_of_ble_eq_true rfl, Nat.le_of_ble_eq_true rfl⟩ dL_law_379) hw (fun H locs hw => ?_)
  refine lv_icmp_eq (tgt := 907) hx hb dL_law_382 (by decide) (fun _ => ?_) (fun q => absurd rfl q)
  exact kx _ _ H locs hw hrel2
set_option maxHeartbeats 4000000 in
set_option maxRecDepth 100000 in
theorem wl_pass {p : Program} {l : Launch} {e : Env} {s : State} {m : MethodId} {below : List Frame} {meth : Method} {c : Code} {E : EN} {n : Nat} {K len : Nat → Nat} {I : Im} {X : Xm} {H : Heap} {locs : List Loc} {ls : Array Slot} {a b q L i : Nat} {xs : Nat → Int32} {Q : State → Prop} {Rel : Im → Xm → Prop} (fl : Nat) (hst : St_pass fl len b q Rel) (C0 : CX p s m #[Value.ref a] meth c E cL_law RL 4) (hX : va_X a L xs s s.heap) (hbl : a < s.heap.size) (hBe : eB E = s.heap.size) (hi : i + 5 ≤ L) (hL : L ≤ 2560) (tb : okA E (n, K, len) 8 b) (tq : okA E (n, K, len) 9 q) (hw : WD E (n, K, len) I X s.heap H locs) (hrel : Rel I X) (hl : lv_has ls 4 [(0, .ref a), (1, .ref b), (2, .ref q), (3, .int (nI i))]) (kx : ∀ (I : Im) (X : Xm) (H : Heap) (locs : List Loc), WD E (n, K, len) I X s.heap H locs → Rel I X → W p l e room_1 s m #[Value.ref a] below meth c H locs 600000 7302250 Q (F0 m 907 ls [])) : W p l e room_1 s m #[Value.ref a] below meth c H locs 600000 7302250 Q (F0 m 387 ls []) := by
  have hx := C0.1; have hb := C0.2.1; have hml := C0.2.2.1; have hown := C0.2.2.2.1; have hts := C0.2.2.2.2.1
  have hbA : ¬ eA E a := by show ¬ eB E ≤ a; omega
  obtain ⟨v, I1, X1, I2, h8, h9, hrel2⟩ := hst I X (xs (nI (i + 1)).toNatClampNeg) hrel
  refine lv_aload_n hx hb dL_law_387 rfl (lv_at hl 1 rfl) ?_
  refine lv_aload_n hx hb dL_law_388 rfl (lv_at hl 0 rfl) ?_
  refine lv_iload_n hx hb dL_law_389 rfl (lv_at hl 3 rfl) ?_
  refine lv_iconst (v := (1 : Int32)) hx hb dL_law_390 (by decide) ?_
  refine lv_iadd hx hb dL_law_391 ?_
  rw [nI_k1]
  refine va_sld hx hb hX hbl hbA hw.2 (vp_in_nI (by omega) (by omega)) dL_law_392 ?_
  refine x_ci (r := v) (I1 := I1) (X1 := X1) (x_runV (As := [.int (xs (nI (i + 1)).toNatClampNeg)]) (rest := []) C0 (c8_pass l E (n, K, len) fl X I b (xs (nI (i + 1)).toNatClampNeg) tb h8) hw 8 tb (by decide) rfl wd89 wd791 wd792 wd793 wd197 ⟨rfl, rfl⟩ hy8_pass ⟨Nat.le_of_ble_eq_true rfl, Nat.le_of_ble_eq_true rfl⟩ rfl hl.1 (Nat.le_of_ble_eq_true rfl) ⟨Nat.le_of_ble_eq_true rfl, Nat.le_of_ble_eq_true rfl⟩ dL_law_393) hw (fun H locs hw => ?_)
  refine lv_aload_n hx hb dL_law_396 rfl (lv_at hl 2 rfl) ?_
  refine lv_aload_n hx hb dL_law_397 rfl (lv_at hl 0 rfl) ?_
  refine lv_iload_n hx hb dL_law_398 rfl (lv_at hl 3 rfl) ?_
  refine lv_iconst (v := (1 : Int32)) hx hb dL_law_399 (by decide) ?_
  refine lv_iadd hx hb dL_law_400 ?_
  rw [nI_k1]
  refine va_sld hx hb hX hbl hbA hw.2 (vp_in_nI (by omega) (by omega)) dL_law_401 ?_
  refine x_ci (r := v) (I1 := I2) (X1 := X1) (x_runV (As := [.int (xs (nI (i + 1)).toNatClampNeg)]) (rest := [.int v]) C0 (c9_pass l E (n, K, len) fl X1 I1 q (xs (nI (i + 1)).toNatClampNeg) tq h9) hw 9 tq (by decide) rfl wd149 wd794 wd736 wd737 wd612 ⟨rfl, rfl⟩ hy9_pass ⟨Nat.le_of_ble_eq_true rfl, Nat.le_of_ble_eq_true rfl⟩ rfl hl.1 (Nat.le_of_ble_eq_true rfl) ⟨Nat.le_of_ble_eq_true rfl, Nat.le_of_ble_eq_true rfl⟩ dL_law_402) hw (fun H locs hw => ?_)
  refine lv_icmp_eq (tgt := 907) hx hb dL_law_405 (by decide) (fun _ => ?_) (fun q => absurd rfl q)
  exact kx _ _ H locs hw hrel2
set_option maxHeartbeats 4000000 in
set_option maxRecDepth 100000 in
theorem wl_ofCue {p : Program} {l : Launch} {e : Env} {s : State} {m : MethodId} {below : List Frame} {meth : Method} {c : Code} {E : EN} {n : Nat} {K len : Nat → Nat} {I : Im} {X : Xm} {H : Heap} {locs : List Loc} {ls : Array Slot} {a b q L i : Nat} {xs : Nat → Int32} {Q : State → Prop} {Rel : Im → Xm → Prop} (fl : Nat) (hst : St_ofCue fl len b q Rel) (C0 : CX p s m #[Value.ref a] meth c E cL_law RL 4) (hX : va_X a L xs s s.heap) (hbl : a < s.heap.size) (hBe : eB E = s.heap.size) (hi : i + 5 ≤ L) (hL : L ≤ 2560) (tb : okA E (n, K, len) 8 b) (tq : okA E (n, K, len) 9 q) (hw : WD E (n, K, len) I X s.heap H locs) (hrel : Rel I X) (hl : lv_has ls 4 [(0, .ref a), (1, .ref b), (2, .ref q), (3, .int (nI i))]) (kx : ∀ (I : Im) (X : Xm) (H : Heap) (locs : List Loc), WD E (n, K, len) I X s.heap H locs → Rel I X → W p l e room_1 s m #[Value.ref a] below meth c H locs 600000 7302250 Q (F0 m 907 ls [])) : W p l e room_1 s m #[Value.ref a] below meth c H locs 600000 7302250 Q (F0 m 410 ls []) := by
  have hx := C0.1; have hb := C0.2.1; have hml := C0.2.2.1; have hown := C0.2.2.2.1; have hts := C0.2.2.2.2.1
  have hbA : ¬ eA E a := by show ¬ eB E ≤ a; omega
  obtain ⟨v, h8, h9, hrel2⟩ := hst I X (xs (nI (i + 1)).toNatClampNeg) (xs (nI (i + 2)).toNatClampNeg) hrel
  refine lv_aload_n hx hb dL_law_410 rfl (lv_at hl 1 rfl) ?_
  refine lv_aload_n hx hb dL_law_411 rfl (lv_at hl 0 rfl) ?_
  refine lv_iload_n hx hb dL_law_412 rfl (lv_at hl 3 rfl) ?_
  refine lv_iconst (v := (1 : Int32)) hx hb dL_law_413 (by decide) ?_
  refine lv_iadd hx hb dL_law_414 ?_
  rw [nI_k1]
  refine va_sld hx hb hX hbl hbA hw.2 (vp_in_nI (by omega) (by omega)) dL_law_415 ?_
  refine lv_aload_n hx hb dL_law_416 rfl (lv_at hl 0 rfl) ?_
  refine lv_iload_n hx hb dL_law_417 rfl (lv_at hl 3 rfl) ?_
  refine lv_iconst (v := (2 : Int32)) hx hb dL_law_418 (by decide) ?_
  refine lv_iadd hx hb dL_law_419 ?_
  rw [nI_k2]
  refine va_sld hx hb hX hbl hbA hw.2 (vp_in_nI (by omega) (by omega)) dL_law_420 ?_
  refine x_ci (r := v) (I1 := I) (X1 := X) (x_runV (As := [.int (xs (nI (i + 1)).toNatClampNeg), .int (xs (nI (i + 2)).toNatClampNeg)]) (rest := []) C0 (c8_ofCue l E (n, K, len) fl X I b (xs (nI (i + 1)).toNatClampNeg) (xs (nI (i + 2)).toNatClampNeg) tb h8) hw 8 tb (by decide) rfl wd90 wd795 wd796 wd797 wd197 ⟨rfl, rfl⟩ hy8_ofCue ⟨Nat.le_of_ble_eq_true rfl, Nat.le_of_ble_eq_true rfl⟩ rfl hl.1 (Nat.le_of_ble_eq_true rfl) ⟨Nat.le_of_ble_eq_true rfl, Nat.le_of_ble_eq_true rfl⟩ dL_law_421) hw (fun H locs hw => ?_)
  refine lv_aload_n hx hb dL_law_424 rfl (lv_at hl 2 rfl) ?_
  refine lv_aload_n hx hb dL_law_425 rfl (lv_at hl 0 rfl) ?_
  refine lv_iload_n hx hb dL_law_426 rfl (lv_at hl 3 rfl) ?_
  refine lv_iconst (v := (1 : Int32)) hx hb dL_law_427 (by decide) ?_
  refine lv_iadd hx hb dL_law_428 ?_
  rw [nI_k1]
  refine va_sld hx hb hX hbl hbA hw.2 (vp_in_nI (by omega) (by omega)) dL_law_429 ?_
  refine lv_aload_n hx hb dL_law_430 rfl (lv_at hl 0 rfl) ?_
  refine lv_iload_n hx hb dL_law_431 rfl (lv_at hl 3 rfl) ?_
  refine lv_iconst (v := (2 : Int32)) hx hb dL_law_432 (by decide) ?_
  refine lv_iadd hx hb dL_law_433 ?_
  rw [nI_k2]
  refine va_sld hx hb hX hbl hbA hw.2 (vp_in_nI (by omega) (by omega)) dL_law_434 ?_
  refine x_ci (r := v) (I1 := I) (X1 := X) (x_runV (As := [.int (xs (nI (i + 1)).toNatClampNeg), .int (xs (nI (i + 2)).toNatClampNeg)]) (rest := [.int v]) C0 (c9_ofCue l E (n, K, len) fl X I q (xs (nI (i + 1)).toNatClampNeg) (xs (nI (i + 2)).toNatClampNeg) tq h9) hw 9 tq (by decide) rfl wd150 wd798 wd799 wd800 wd612 ⟨rfl, rfl⟩ hy9_ofCue ⟨Nat.le_of_ble_eq_true rfl, Nat.le_of_ble_eq_true rfl⟩ rfl hl.1 (Nat.le_of_ble_eq_true rfl) ⟨Nat.le_of_ble_eq_true rfl, Nat.le_of_ble_eq_true rfl⟩ dL_law_435) hw (fun H locs hw => ?_)
  refine lv_icmp_eq (tgt := 907) hx hb dL_law_438 (by decide) (fun _ => ?_) (fun q => absurd rfl q)
  exact kx _ _ H locs hw hrel2
set_option maxHeartbeats 4000000 in
set_option maxRecDepth 100000 in
theorem wl_ofReel {p : Program} {l : Launch} {e : Env} {s : State} {m : MethodId} {below : List Frame} {meth : Method} {c : Code} {E : EN} {n : Nat} {K len : Nat → Nat} {I : Im} {X : Xm} {H : Heap} {locs : List Loc} {ls : Array Slot} {a b q L i : Nat} {xs : Nat → Int32} {Q : State → Prop} {Rel : Im → Xm → Prop} (fl : Nat) (hst : St_ofReel fl len b q Rel) (C0 : CX p s m #[Value.ref a] meth c E cL_law RL 4) (hX : va_X a L xs s s.heap) (hbl : a < s.heap.size) (hBe : eB E = s.heap.size) (hi : i + 5 ≤ L) (hL : L ≤ 2560) (tb : okA E (n, K, len) 8 b) (tq : okA E (n, K, len) 9 q) (hw : WD E (n, K, len) I X s.heap H locs) (hrel : Rel I X) (hl : lv_has ls 4 [(0, .ref a), (1, .ref b), (2, .ref q), (3, .int (nI i))]) (kx : ∀ (I : Im) (X : Xm) (H : Heap) (locs : List Loc), WD E (n, K, len) I X s.heap H locs → Rel I X → W p l e room_1 s m #[Value.ref a] below meth c H locs 600000 7302250 Q (F0 m 907 ls [])) : W p l e room_1 s m #[Value.ref a] below meth c H locs 600000 7302250 Q (F0 m 443 ls []) := by
  have hx := C0.1; have hb := C0.2.1; have hml := C0.2.2.1; have hown := C0.2.2.2.1; have hts := C0.2.2.2.2.1
  have hbA : ¬ eA E a := by show ¬ eB E ≤ a; omega
  obtain ⟨v, h8, h9, hrel2⟩ := hst I X (xs (nI (i + 1)).toNatClampNeg) (xs (nI (i + 2)).toNatClampNeg) hrel
  refine lv_aload_n hx hb dL_law_443 rfl (lv_at hl 1 rfl) ?_
  refine lv_aload_n hx hb dL_law_444 rfl (lv_at hl 0 rfl) ?_
  refine lv_iload_n hx hb dL_law_445 rfl (lv_at hl 3 rfl) ?_
  refine lv_iconst (v := (1 : Int32)) hx hb dL_law_446 (by decide) ?_
  refine lv_iadd hx hb dL_law_447 ?_
  rw [nI_k1]
  refine va_sld hx hb hX hbl hbA hw.2 (vp_in_nI (by omega) (by omega)) dL_law_448 ?_
  refine lv_aload_n hx hb dL_law_449 rfl (lv_at hl 0 rfl) ?_
  refine lv_iload_n hx hb dL_law_450 rfl (lv_at hl 3 rfl) ?_
  refine lv_iconst (v := (2 : Int32)) hx hb dL_law_451 (by decide) ?_
  refine lv_iadd hx hb dL_law_452 ?_
  rw [nI_k2]
  refine va_sld hx hb hX hbl hbA hw.2 (vp_in_nI (by omega) (by omega)) dL_law_453 ?_
  refine x_ci (r := v) (I1 := I) (X1 := X) (x_runV (As := [.int (xs (nI (i + 1)).toNatClampNeg), .int (xs (nI (i + 2)).toNatClampNeg)]) (rest := []) C0 (c8_ofReel l E (n, K, len) fl X I b (xs (nI (i + 1)).toNatClampNeg) (xs (nI (i + 2)).toNatClampNeg) tb h8) hw 8 tb (by decide) rfl wd91 wd801 wd802 wd803 wd197 ⟨rfl, rfl⟩ hy8_ofReel ⟨Nat.le_of_ble_eq_true rfl, Nat.le_of_ble_eq_true rfl⟩ rfl hl.1 (Nat.le_of_ble_eq_true rfl) ⟨Nat.le_of_ble_eq_true rfl, Nat.le_of_ble_eq_true rfl⟩ dL_law_454) hw (fun H locs hw => ?_)
  refine lv_aload_n hx hb dL_law_457 rfl (lv_at hl 2 rfl) ?_
  refine lv_aload_n hx hb dL_law_458 rfl (lv_at hl 0 rfl) ?_
  refine lv_iload_n hx hb dL_law_459 rfl (lv_at hl 3 rfl) ?_
  refine lv_iconst (v := (1 : Int32)) hx hb dL_law_460 (by decide) ?_
  refine lv_iadd hx hb dL_law_461 ?_
  rw [nI_k1]
  refine va_sld hx hb hX hbl hbA hw.2 (vp_in_nI (by omega) (by omega)) dL_law_462 ?_
  refine lv_aload_n hx hb dL_law_463 rfl (lv_at hl 0 rfl) ?_
  refine lv_iload_n hx hb dL_law_464 rfl (lv_at hl 3 rfl) ?_
  refine lv_iconst (v := (2 : Int32)) hx hb dL_law_465 (by decide) ?_
  refine lv_iadd hx hb dL_law_466 ?_
  rw [nI_k2]
  refine va_sld hx hb hX hbl hbA hw.2 (vp_in_nI (by omega) (by omega)) dL_law_467 ?_
  refine x_ci (r := v) (I1 := I) (X1 := X) (x_runV (As := [.int (xs (nI (i + 1)).toNatClampNeg), .int (xs (nI (i + 2)).toNatClampNeg)]) (rest := [.int v]) C0 (c9_ofReel l E (n, K, len) fl X I q (xs (nI (i + 1)).toNatClampNeg) (xs (nI (i + 2)).toNatClampNeg) tq h9) hw 9 tq (by decide) rfl wd151 wd804 wd805 wd806 wd612 ⟨rfl, rfl⟩ hy9_ofReel ⟨Nat.le_of_ble_eq_true rfl, Nat.le_of_ble_eq_true rfl⟩ rfl hl.1 (Nat.le_of_ble_eq_true rfl) ⟨Nat.le_of_ble_eq_true rfl, Nat.le_of_ble_eq_true rfl⟩ dL_law_468) hw (fun H locs hw => ?_)
  refine lv_icmp_eq (tgt := 907) hx hb dL_law_471 (by decide) (fun _ => ?_) (fun q => absurd rfl q)
  exact kx _ _ H locs hw hrel2
set_option maxHeartbeats 4000000 in
set_option maxRecDepth 100000 in
theorem wl_ofSound {p : Program} {l : Launch} {e : Env} {s : State} {m : MethodId} {below : List Frame} {meth : Method} {c : Code} {E : EN} {n : Nat} {K len : Nat → Nat} {I : Im} {X : Xm} {H : Heap} {locs : List Loc} {ls : Array Slot} {a b q L i : Nat} {xs : Nat → Int32} {Q : State → Prop} {Rel : Im → Xm → Prop} (fl : Nat) (hst : St_ofSound fl len b q Rel) (C0 : CX p s m #[Value.ref a] meth c E cL_law RL 4) (hX : va_X a L xs s s.heap) (hbl : a < s.heap.size) (hBe : eB E = s.heap.size) (hi : i + 5 ≤ L) (hL : L ≤ 2560) (tb : okA E (n, K, len) 8 b) (tq : okA E (n, K, len) 9 q) (hw : WD E (n, K, len) I X s.heap H locs) (hrel : Rel I X) (hl : lv_has ls 4 [(0, .ref a), (1, .ref b), (2, .ref q), (3, .int (nI i))]) (kx : ∀ (I : Im) (X : Xm) (H : Heap) (locs : List Loc), WD E (n, K, len) I X s.heap H locs → Rel I X → W p l e room_1 s m #[Value.ref a] below meth c H locs 600000 7302250 Q (F0 m 907 ls [])) : W p l e room_1 s m #[Value.ref a] below meth c H locs 600000 7302250 Q (F0 m 476 ls []) := by
  have hx := C0.1; have hb := C0.2.1; have hml := C0.2.2.1; have hown := C0.2.2.2.1; have hts := C0.2.2.2.2.1
  have hbA : ¬ eA E a := by show ¬ eB E ≤ a; omega
  obtain ⟨v, h8, h9, hrel2⟩ := hst I X (xs (nI (i + 1)).toNatClampNeg) (xs (nI (i + 2)).toNatClampNeg) (xs (nI (i + 3)).toNatClampNeg) hrel
  refine lv_aload_n hx hb dL_law_476 rfl (lv_at hl 1 rfl) ?_
  refine lv_aload_n hx hb dL_law_477 rfl (lv_at hl 0 rfl) ?_
  refine lv_iload_n hx hb dL_law_478 rfl (lv_at hl 3 rfl) ?_
  refine lv_iconst (v := (1 : Int32)) hx hb dL_law_479 (by decide) ?_
  refine lv_iadd hx hb dL_law_480 ?_
  rw [nI_k1]
  refine va_sld hx hb hX hbl hbA hw.2 (vp_in_nI (by omega) (by omega)) dL_law_481 ?_
  refine lv_aload_n hx hb dL_law_482 rfl (lv_at hl 0 rfl) ?_
  refine lv_iload_n hx hb dL_law_483 rfl (lv_at hl 3 rfl) ?_
  refine lv_iconst (v := (2 : Int32)) hx hb dL_law_484 (by decide) ?_
  refine lv_iadd hx hb dL_law_485 ?_
  rw [nI_k2]
  refine va_sld hx hb hX hbl hbA hw.2 (vp_in_nI (by omega) (by omega)) dL_law_486 ?_
  refine lv_aload_n hx hb dL_law_487 rfl (lv_at hl 0 rfl) ?_
  refine lv_iload_n hx hb dL_law_488 rfl (lv_at hl 3 rfl) ?_
  refine lv_iconst (v := (3 : Int32)) hx hb dL_law_489 (by decide) ?_
  refine lv_iadd hx hb dL_law_490 ?_
  rw [nI_k3]
  refine va_sld hx hb hX hbl hbA hw.2 (vp_in_nI (by omega) (by omega)) dL_law_491 ?_
  refine x_ci (r := v) (I1 := I) (X1 := X) (x_runV (As := [.int (xs (nI (i + 1)).toNatClampNeg), .int (xs (nI (i + 2)).toNatClampNeg), .int (xs (nI (i + 3)).toNatClampNeg)]) (rest := []) C0 (c8_ofSound l E (n, K, len) fl X I b (xs (nI (i + 1)).toNatClampNeg) (xs (nI (i + 2)).toNatClampNeg) (xs (nI (i + 3)).toNatClampNeg) tb h8) hw 8 tb (by decide) rfl wd92 wd807 wd808 wd809 wd197 ⟨rfl, rfl⟩ hy8_ofSound ⟨Nat.le_of_ble_eq_true rfl, Nat.le_of_ble_eq_true rfl⟩ rfl hl.1 (Nat.le_of_ble_eq_true rfl) ⟨Nat.le_of_ble_eq_true rfl, Nat.le_of_ble_eq_true rfl⟩ dL_law_492) hw (fun H locs hw => ?_)
  refine lv_aload_n hx hb dL_law_495 rfl (lv_at hl 2 rfl) ?_
  refine lv_aload_n hx hb dL_law_496 rfl (lv_at hl 0 rfl) ?_
  refine lv_iload_n hx hb dL_law_497 rfl (lv_at hl 3 rfl) ?_
  refine lv_iconst (v := (1 : Int32)) hx hb dL_law_498 (by decide) ?_
  refine lv_iadd hx hb dL_law_499 ?_
  rw [nI_k1]
  refine va_sld hx hb hX hbl hbA hw.2 (vp_in_nI (by omega) (by omega)) dL_law_500 ?_
  refine lv_aload_n hx hb dL_law_501 rfl (lv_at hl 0 rfl) ?_
  refine lv_iload_n hx hb dL_law_502 rfl (lv_at hl 3 rfl) ?_
  refine lv_iconst (v := (2 : Int32)) hx hb dL_law_503 (by decide) ?_
  refine lv_iadd hx hb dL_law_504 ?_
  rw [nI_k2]
  refine va_sld hx hb hX hbl hbA hw.2 (vp_in_nI (by omega) (by omega)) dL_law_505 ?_
  refine lv_aload_n hx hb dL_law_506 rfl (lv_at hl 0 rfl) ?_
  refine lv_iload_n hx hb dL_law_507 rfl (lv_at hl 3 rfl) ?_
  refine lv_iconst (v := (3 : Int32)) hx hb dL_law_508 (by decide) ?_
  refine lv_iadd hx hb dL_law_509 ?_
  rw [nI_k3]
  refine va_sld hx hb hX hbl hbA hw.2 (vp_in_nI (by omega) (by omega)) dL_law_510 ?_
  refine x_ci (r := v) (I1 := I) (X1 := X) (x_runV (As := [.int (xs (nI (i + 1)).toNatClampNeg), .int (xs (nI (i + 2)).toNatClampNeg), .int (xs (nI (i + 3)).toNatClampNeg)]) (rest := [.int v]) C0 (c9_ofSound l E (n, K, len) fl X I q (xs (nI (i + 1)).toNatClampNeg) (xs (nI (i + 2)).toNatClampNeg) (xs (nI (i + 3)).toNatClampNeg) tq h9) hw 9 tq (by decide) rfl wd152 wd810 wd811 wd812 wd612 ⟨rfl, rfl⟩ hy9_ofSound ⟨Nat.le_of_ble_eq_true rfl, Nat.le_of_ble_eq_true rfl⟩ rfl hl.1 (Nat.le_of_ble_eq_true rfl) ⟨Nat.le_of_ble_eq_true rfl, Nat.le_of_ble_eq_true rfl⟩ dL_law_511) hw (fun H locs hw => ?_)
  refine lv_icmp_eq (tgt := 907) hx hb dL_law_514 (by decide) (fun _ => ?_) (fun q => absurd rfl q)
  exact kx _ _ H locs hw hrel2
set_option maxHeartbeats 4000000 in
set_option maxRecDepth 100000 in
theorem wl_played {p : Program} {l : Launch} {e : Env} {s : State} {m : MethodId} {below : List Frame} {meth : Method} {c : Code} {E : EN} {n : Nat} {K len : Nat → Nat} {I : Im} {X : Xm} {H : Heap} {locs : List Loc} {ls : Array Slot} {a b q L i : Nat} {xs : Nat → Int32} {Q : State → Prop} {Rel : Im → Xm → Prop} (fl : Nat) (hst : St_played fl len b q Rel) (C0 : CX p s m #[Value.ref a] meth c E cL_law RL 4) (hX : va_X a L xs s s.heap) (hbl : a < s.heap.size) (hBe : eB E = s.heap.size) (hi : i + 5 ≤ L) (hL : L ≤ 2560) (tb : okA E (n, K, len) 8 b) (tq : okA E (n, K, len) 9 q) (hw : WD E (n, K, len) I X s.heap H locs) (hrel : Rel I X) (hl : lv_has ls 4 [(0, .ref a), (1, .ref b), (2, .ref q), (3, .int (nI i))]) (kx : ∀ (I : Im) (X : Xm) (H : Heap) (locs : List Loc), WD E (n, K, len) I X s.heap H locs → Rel I X → W p l e room_1 s m #[Value.ref a] below meth c H locs 600000 7302250 Q (F0 m 907 ls [])) : W p l e room_1 s m #[Value.ref a] below meth c H locs 600000 7302250 Q (F0 m 519 ls []) := by
  have hx := C0.1; have hb := C0.2.1; have hml := C0.2.2.1; have hown := C0.2.2.2.1; have hts := C0.2.2.2.2.1
  have hbA : ¬ eA E a := by show ¬ eB E ≤ a; omega
  obtain ⟨v, h8, h9, hrel2⟩ := hst I X (xs (nI (i + 1)).toNatClampNeg) (xs (nI (i + 2)).toNatClampNeg) hrel
  refine lv_aload_n hx hb dL_law_519 rfl (lv_at hl 1 rfl) ?_
  refine lv_aload_n hx hb dL_law_520 rfl (lv_at hl 0 rfl) ?_
  refine lv_iload_n hx hb dL_law_521 rfl (lv_at hl 3 rfl) ?_
  refine lv_iconst (v := (1 : Int32)) hx hb dL_law_522 (by decide) ?_
  refine lv_iadd hx hb dL_law_523 ?_
  rw [nI_k1]
  refine va_sld hx hb hX hbl hbA hw.2 (vp_in_nI (by omega) (by omega)) dL_law_524 ?_
  refine lv_aload_n hx hb dL_law_525 rfl (lv_at hl 0 rfl) ?_
  refine lv_iload_n hx hb dL_law_526 rfl (lv_at hl 3 rfl) ?_
  refine lv_iconst (v := (2 : Int32)) hx hb dL_law_527 (by decide) ?_
  refine lv_iadd hx hb dL_law_528 ?_
  rw [nI_k2]
  refine va_sld hx hb hX hbl hbA hw.2 (vp_in_nI (by omega) (by omega)) dL_law_529 ?_
  refine x_ci (r := v) (I1 := I) (X1 := X) (x_runV (As := [.int (xs (nI (i + 1)).toNatClampNeg), .int (xs (nI (i + 2)).toNatClampNeg)]) (rest := []) C0 (c8_played l E (n, K, len) fl X I b (xs (nI (i + 1)).toNatClampNeg) (xs (nI (i + 2)).toNatClampNeg) tb h8) hw 8 tb (by decide) rfl wd93 wd813 wd814 wd815 wd197 ⟨rfl, rfl⟩ hy8_played ⟨Nat.le_of_ble_eq_true rfl, Nat.le_of_ble_eq_true rfl⟩ rfl hl.1 (Nat.le_of_ble_eq_true rfl) ⟨Nat.le_of_ble_eq_true rfl, Nat.le_of_ble_eq_true rfl⟩ dL_law_530) hw (fun H locs hw => ?_)
  refine lv_aload_n hx hb dL_law_533 rfl (lv_at hl 2 rfl) ?_
  refine lv_aload_n hx hb dL_law_534 rfl (lv_at hl 0 rfl) ?_
  refine lv_iload_n hx hb dL_law_535 rfl (lv_at hl 3 rfl) ?_
  refine lv_iconst (v := (1 : Int32)) hx hb dL_law_536 (by decide) ?_
  refine lv_iadd hx hb dL_law_537 ?_
  rw [nI_k1]
  refine va_sld hx hb hX hbl hbA hw.2 (vp_in_nI (by omega) (by omega)) dL_law_538 ?_
  refine lv_aload_n hx hb dL_law_539 rfl (lv_at hl 0 rfl) ?_
  refine lv_iload_n hx hb dL_law_540 rfl (lv_at hl 3 rfl) ?_
  refine lv_iconst (v := (2 : Int32)) hx hb dL_law_541 (by decide) ?_
  refine lv_iadd hx hb dL_law_542 ?_
  rw [nI_k2]
  refine va_sld hx hb hX hbl hbA hw.2 (vp_in_nI (by omega) (by omega)) dL_law_543 ?_
  refine x_ci (r := v) (I1 := I) (X1 := X) (x_runV (As := [.int (xs (nI (i + 1)).toNatClampNeg), .int (xs (nI (i + 2)).toNatClampNeg)]) (rest := [.int v]) C0 (c9_played l E (n, K, len) fl X I q (xs (nI (i + 1)).toNatClampNeg) (xs (nI (i + 2)).toNatClampNeg) tq h9) hw 9 tq (by decide) rfl wd153 wd816 wd817 wd818 wd612 ⟨rfl, rfl⟩ hy9_played ⟨Nat.le_of_ble_eq_true rfl, Nat.le_of_ble_eq_true rfl⟩ rfl hl.1 (Nat.le_of_ble_eq_true rfl) ⟨Nat.le_of_ble_eq_true rfl, Nat.le_of_ble_eq_true rfl⟩ dL_law_544) hw (fun H locs hw => ?_)
  refine lv_icmp_eq (tgt := 907) hx hb dL_law_547 (by decide) (fun _ => ?_) (fun q => absurd rfl q)
  exact kx _ _ H locs hw hrel2
set_option maxHeartbeats 4000000 in
set_option maxRecDepth 100000 in
theorem wl_ofChannel {p : Program} {l : Launch} {e : Env} {s : State} {m : MethodId} {below : List Frame} {meth : Method} {c : Code} {E : EN} {n : Nat} {K len : Nat → Nat} {I : Im} {X : Xm} {H : Heap} {locs : List Loc} {ls : Array Slot} {a b q L i : Nat} {xs : Nat → Int32} {Q : State → Prop} {Rel : Im → Xm → Prop} (fl : Nat) (hst : St_ofChannel fl len b q Rel) (C0 : CX p s m #[Value.ref a] meth c E cL_law RL 4) (hX : va_X a L xs s s.heap) (hbl : a < s.heap.size) (hBe : eB E = s.heap.size) (hi : i + 5 ≤ L) (hL : L ≤ 2560) (tb : okA E (n, K, len) 8 b) (tq : okA E (n, K, len) 9 q) (hw : WD E (n, K, len) I X s.heap H locs) (hrel : Rel I X) (hl : lv_has ls 4 [(0, .ref a), (1, .ref b), (2, .ref q), (3, .int (nI i))]) (kx : ∀ (I : Im) (X : Xm) (H : Heap) (locs : List Loc), WD E (n, K, len) I X s.heap H locs → Rel I X → W p l e room_1 s m #[Value.ref a] below meth c H locs 600000 7302250 Q (F0 m 907 ls [])) : W p l e room_1 s m #[Value.ref a] below meth c H locs 600000 7302250 Q (F0 m 552 ls []) := by
  have hx := C0.1; have hb := C0.2.1; have hml := C0.2.2.1; have hown := C0.2.2.2.1; have hts := C0.2.2.2.2.1
  have hbA : ¬ eA E a := by show ¬ eB E ≤ a; omega
  obtain ⟨v, h8, h9, hrel2⟩ := hst I X (xs (nI (i + 1)).toNatClampNeg) (xs (nI (i + 2)).toNatClampNeg) hrel
  refine lv_aload_n hx hb dL_law_552 rfl (lv_at hl 1 rfl) ?_
  refine lv_aload_n hx hb dL_law_553 rfl (lv_at hl 0 rfl) ?_
  refine lv_iload_n hx hb dL_law_554 rfl (lv_at hl 3 rfl) ?_
  refine lv_iconst (v := (1 : Int32)) hx hb dL_law_555 (by decide) ?_
  refine lv_iadd hx hb dL_law_556 ?_
  rw [nI_k1]
  refine va_sld hx hb hX hbl hbA hw.2 (vp_in_nI (by omega) (by omega)) dL_law_557 ?_
  refine lv_aload_n hx hb dL_law_558 rfl (lv_at hl 0 rfl) ?_
  refine lv_iload_n hx hb dL_law_559 rfl (lv_at hl 3 rfl) ?_
  refine lv_iconst (v := (2 : Int32)) hx hb dL_law_560 (by decide) ?_
  refine lv_iadd hx hb dL_law_561 ?_
  rw [nI_k2]
  refine va_sld hx hb hX hbl hbA hw.2 (vp_in_nI (by omega) (by omega)) dL_law_562 ?_
  refine x_ci (r := v) (I1 := I) (X1 := X) (x_runV (As := [.int (xs (nI (i + 1)).toNatClampNeg), .int (xs (nI (i + 2)).toNatClampNeg)]) (rest := []) C0 (c8_ofChannel l E (n, K, len) fl X I b (xs (nI (i + 1)).toNatClampNeg) (xs (nI (i + 2)).toNatClampNeg) tb h8) hw 8 tb (by decide) rfl wd94 wd819 wd820 wd821 wd197 ⟨rfl, rfl⟩ hy8_ofChannel ⟨Nat.le_of_ble_eq_true rfl, Nat.le_of_ble_eq_true rfl⟩ rfl hl.1 (Nat.le_of_ble_eq_true rfl) ⟨Nat.le_of_ble_eq_true rfl, Nat.le_of_ble_eq_true rfl⟩ dL_law_563) hw (fun H locs hw => ?_)
  refine lv_aload_n hx hb dL_law_566 rfl (lv_at hl 2 rfl) ?_
  refine lv_aload_n hx hb dL_law_567 rfl (lv_at hl 0 rfl) ?_
  refine lv_iload_n hx hb dL_law_568 rfl (lv_at hl 3 rfl) ?_
  refine lv_iconst (v := (1 : Int32)) hx hb dL_law_569 (by decide) ?_
  refine lv_iadd hx hb dL_law_570 ?_
  rw [nI_k1]
  refine va_sld hx hb hX hbl hbA hw.2 (vp_in_nI (by omega) (by omega)) dL_law_571 ?_
  refine lv_aload_n hx hb dL_law_572 rfl (lv_at hl 0 rfl) ?_
  refine lv_iload_n hx hb dL_law_573 rfl (lv_at hl 3 rfl) ?_
  refine lv_iconst (v := (2 : Int32)) hx hb dL_law_574 (by decide) ?_
  refine lv_iadd hx hb dL_law_575 ?_
  rw [nI_k2]
  refine va_sld hx hb hX hbl hbA hw.2 (vp_in_nI (by omega) (by omega)) dL_law_576 ?_
  refine x_ci (r := v) (I1 := I) (X1 := X) (x_runV (As := [.int (xs (nI (i + 1)).toNatClampNeg), .int (xs (nI (i + 2)).toNatClampNeg)]) (rest := [.int v]) C0 (c9_ofChannel l E (n, K, len) fl X I q (xs (nI (i + 1)).toNatClampNeg) (xs (nI (i + 2)).toNatClampNeg) tq h9) hw 9 tq (by decide) rfl wd155 wd822 wd823 wd824 wd612 ⟨rfl, rfl⟩ hy9_ofChannel ⟨Nat.le_of_ble_eq_true rfl, Nat.le_of_ble_eq_true rfl⟩ rfl hl.1 (Nat.le_of_ble_eq_true rfl) ⟨Nat.le_of_ble_eq_true rfl, Nat.le_of_ble_eq_true rfl⟩ dL_law_577) hw (fun H locs hw => ?_)
  refine lv_icmp_eq (tgt := 907) hx hb dL_law_580 (by decide) (fun _ => ?_) (fun q => absurd rfl q)
  exact kx _ _ H locs hw hrel2
set_option maxHeartbeats 4000000 in
set_option maxRecDepth 100000 in
theorem wl_loud {p : Program} {l : Launch} {e : Env} {s : State} {m : MethodId} {below : List Frame} {meth : Method} {c : Code} {E : EN} {n : Nat} {K len : Nat → Nat} {I : Im} {X : Xm} {H : Heap} {locs : List Loc} {ls : Array Slot} {a b q L i : Nat} {xs : Nat → Int32} {Q : State → Prop} {Rel : Im → Xm → Prop} (fl : Nat) (hst : St_loud fl len b q Rel) (C0 : CX p s m #[Value.ref a] meth c E cL_law RL 4) (hX : va_X a L xs s s.heap) (hbl : a < s.heap.size) (hBe : eB E = s.heap.size) (hi : i + 5 ≤ L) (hL : L ≤ 2560) (tb : okA E (n, K, len) 8 b) (tq : okA E (n, K, len) 9 q) (hw : WD E (n, K, len) I X s.heap H locs) (hrel : Rel I X) (hl : lv_has ls 4 [(0, .ref a), (1, .ref b), (2, .ref q), (3, .int (nI i))]) (kx : ∀ (I : Im) (X : Xm) (H : Heap) (locs : List Loc), WD E (n, K, len) I X s.heap H locs → Rel I X → W p l e room_1 s m #[Value.ref a] below meth c H locs 600000 7302250 Q (F0 m 907 ls [])) : W p l e room_1 s m #[Value.ref a] below meth c H locs 600000 7302250 Q (F0 m 585 ls []) := by
  have hx := C0.1; have hb := C0.2.1; have hml := C0.2.2.1; have hown := C0.2.2.2.1; have hts := C0.2.2.2.2.1
  have hbA : ¬ eA E a := by show ¬ eB E ≤ a; omega
  obtain ⟨v, h8, h9, hrel2⟩ := hst I X (xs (nI (i + 1)).toNatClampNeg) hrel
  refine lv_aload_n hx hb dL_law_585 rfl (lv_at hl 1 rfl) ?_
  refine lv_aload_n hx hb dL_law_586 rfl (lv_at hl 0 rfl) ?_
  refine lv_iload_n hx hb dL_law_587 rfl (lv_at hl 3 rfl) ?_
  refine lv_iconst (v := (1 : Int32)) hx hb dL_law_588 (by decide) ?_
  refine lv_iadd hx hb dL_law_589 ?_
  rw [nI_k1]
  refine va_sld hx hb hX hbl hbA hw.2 (vp_in_nI (by omega) (by omega)) dL_law_590 ?_
  refine x_ci (r := v) (I1 := I) (X1 := X) (x_runV (As := [.int (xs (nI (i + 1)).toNatClampNeg)]) (rest := []) C0 (c8_loud l E (n, K, len) fl X I b (xs (nI (i + 1)).toNatClampNeg) tb h8) hw 8 tb (by decide) rfl wd95 wd825 wd826 wd827 wd197 ⟨rfl, rfl⟩ hy8_loud ⟨Nat.le_of_ble_eq_true rfl, Nat.le_of_ble_eq_true rfl⟩ rfl hl.1 (Nat.le_of_ble_eq_true rfl) ⟨Nat.le_of_ble_eq_true rfl, Nat.le_of_ble_eq_true rfl⟩ dL_law_591) hw (fun H locs hw => ?_)
  refine lv_aload_n hx hb dL_law_594 rfl (lv_at hl 2 rfl) ?_
  refine lv_aload_n hx hb dL_law_595 rfl (lv_at hl 0 rfl) ?_
  refine lv_iload_n hx hb dL_law_596 rfl (lv_at hl 3 rfl) ?_
  refine lv_iconst (v := (1 : Int32)) hx hb dL_law_597 (by decide) ?_
  refine lv_iadd hx hb dL_law_598 ?_
  rw [nI_k1]
  refine va_sld hx hb hX hbl hbA hw.2 (vp_in_nI (by omega) (by omega)) dL_law_599 ?_
  refine x_ci (r := v) (I1 := I) (X1 := X) (x_runV (As := [.int (xs (nI (i + 1)).toNatClampNeg)]) (rest := [.int v]) C0 (c9_loud l E (n, K, len) fl X I q (xs (nI (i + 1)).toNatClampNeg) tq h9) hw 9 tq (by decide) rfl wd156 wd828 wd829 wd830 wd612 ⟨rfl, rfl⟩ hy9_loud ⟨Nat.le_of_ble_eq_true rfl, Nat.le_of_ble_eq_true rfl⟩ rfl hl.1 (Nat.le_of_ble_eq_true rfl) ⟨Nat.le_of_ble_eq_true rfl, Nat.le_of_ble_eq_true rfl⟩ dL_law_600) hw (fun H locs hw => ?_)
  refine lv_icmp_eq (tgt := 907) hx hb dL_law_603 (by decide) (fun _ => ?_) (fun q => absurd rfl q)
  exact kx _ _ H locs hw hrel2
set_option maxHeartbeats 4000000 in
set_option maxRecDepth 100000 in
theorem wl_count {p : Program} {l : Launch} {e : Env} {s : State} {m : MethodId} {below : List Frame} {meth : Method} {c : Code} {E : EN} {n : Nat} {K len : Nat → Nat} {I : Im} {X : Xm} {H : Heap} {locs : List Loc} {ls : Array Slot} {a b q L i : Nat} {xs : Nat → Int32} {Q : State → Prop} {Rel : Im → Xm → Prop} (fl : Nat) (hst : St_count fl len b q Rel) (C0 : CX p s m #[Value.ref a] meth c E cL_law RL 4) (hX : va_X a L xs s s.heap) (hbl : a < s.heap.size) (hBe : eB E = s.heap.size) (hi : i + 5 ≤ L) (hL : L ≤ 2560) (tb : okA E (n, K, len) 8 b) (tq : okA E (n, K, len) 9 q) (hw : WD E (n, K, len) I X s.heap H locs) (hrel : Rel I X) (hl : lv_has ls 4 [(0, .ref a), (1, .ref b), (2, .ref q), (3, .int (nI i))]) (kx : ∀ (I : Im) (X : Xm) (H : Heap) (locs : List Loc), WD E (n, K, len) I X s.heap H locs → Rel I X → W p l e room_1 s m #[Value.ref a] below meth c H locs 600000 7302250 Q (F0 m 907 ls [])) : W p l e room_1 s m #[Value.ref a] below meth c H locs 600000 7302250 Q (F0 m 608 ls []) := by
  have hx := C0.1; have hb := C0.2.1; have hml := C0.2.2.1; have hown := C0.2.2.2.1; have hts := C0.2.2.2.2.1
  have hbA : ¬ eA E a := by show ¬ eB E ≤ a; omega
  obtain ⟨v, h8, h9, hrel2⟩ := hst I X (xs (nI (i + 1)).toNatClampNeg) hrel
  refine lv_aload_n hx hb dL_law_608 rfl (lv_at hl 1 rfl) ?_
  refine lv_aload_n hx hb dL_law_609 rfl (lv_at hl 0 rfl) ?_
  refine lv_iload_n hx hb dL_law_610 rfl (lv_at hl 3 rfl) ?_
  refine lv_iconst (v := (1 : Int32)) hx hb dL_law_611 (by decide) ?_
  refine lv_iadd hx hb dL_law_612 ?_
  rw [nI_k1]
  refine va_sld hx hb hX hbl hbA hw.2 (vp_in_nI (by omega) (by omega)) dL_law_613 ?_
  refine x_ci (r := v) (I1 := I) (X1 := X) (x_runV (As := [.int (xs (nI (i + 1)).toNatClampNeg)]) (rest := []) C0 (c8_count l E (n, K, len) fl X I b (xs (nI (i + 1)).toNatClampNeg) tb h8) hw 8 tb (by decide) rfl wd96 wd831 wd832 wd833 wd197 ⟨rfl, rfl⟩ hy8_count ⟨Nat.le_of_ble_eq_true rfl, Nat.le_of_ble_eq_true rfl⟩ rfl hl.1 (Nat.le_of_ble_eq_true rfl) ⟨Nat.le_of_ble_eq_true rfl, Nat.le_of_ble_eq_true rfl⟩ dL_law_614) hw (fun H locs hw => ?_)
  refine lv_aload_n hx hb dL_law_617 rfl (lv_at hl 2 rfl) ?_
  refine lv_aload_n hx hb dL_law_618 rfl (lv_at hl 0 rfl) ?_
  refine lv_iload_n hx hb dL_law_619 rfl (lv_at hl 3 rfl) ?_
  refine lv_iconst (v := (1 : Int32)) hx hb dL_law_620 (by decide) ?_
  refine lv_iadd hx hb dL_law_621 ?_
  rw [nI_k1]
  refine va_sld hx hb hX hbl hbA hw.2 (vp_in_nI (by omega) (by omega)) dL_law_622 ?_
  refine x_ci (r := v) (I1 := I) (X1 := X) (x_runV (As := [.int (xs (nI (i + 1)).toNatClampNeg)]) (rest := [.int v]) C0 (c9_count l E (n, K, len) fl X I q (xs (nI (i + 1)).toNatClampNeg) tq h9) hw 9 tq (by decide) rfl wd161 wd834 wd835 wd836 wd612 ⟨rfl, rfl⟩ hy9_count ⟨Nat.le_of_ble_eq_true rfl, Nat.le_of_ble_eq_true rfl⟩ rfl hl.1 (Nat.le_of_ble_eq_true rfl) ⟨Nat.le_of_ble_eq_true rfl, Nat.le_of_ble_eq_true rfl⟩ dL_law_623) hw (fun H locs hw => ?_)
  refine lv_icmp_eq (tgt := 907) hx hb dL_law_626 (by decide) (fun _ => ?_) (fun q => absurd rfl q)
  exact kx _ _ H locs hw hrel2
set_option maxHeartbeats 4000000 in
set_option maxRecDepth 100000 in
theorem wl_rest {p : Program} {l : Launch} {e : Env} {s : State} {m : MethodId} {below : List Frame} {meth : Method} {c : Code} {E : EN} {n : Nat} {K len : Nat → Nat} {I : Im} {X : Xm} {H : Heap} {locs : List Loc} {ls : Array Slot} {a b q L i : Nat} {xs : Nat → Int32} {Q : State → Prop} {Rel : Im → Xm → Prop} (fl : Nat) (hst : St_rest fl len b q Rel) (C0 : CX p s m #[Value.ref a] meth c E cL_law RL 4) (hX : va_X a L xs s s.heap) (hbl : a < s.heap.size) (hBe : eB E = s.heap.size) (hi : i + 5 ≤ L) (hL : L ≤ 2560) (tb : okA E (n, K, len) 8 b) (tq : okA E (n, K, len) 9 q) (hw : WD E (n, K, len) I X s.heap H locs) (hrel : Rel I X) (hl : lv_has ls 4 [(0, .ref a), (1, .ref b), (2, .ref q), (3, .int (nI i))]) (kx : ∀ (I : Im) (X : Xm) (H : Heap) (locs : List Loc), WD E (n, K, len) I X s.heap H locs → Rel I X → W p l e room_1 s m #[Value.ref a] below meth c H locs 600000 7302250 Q (F0 m 907 ls [])) : W p l e room_1 s m #[Value.ref a] below meth c H locs 600000 7302250 Q (F0 m 631 ls []) := by
  have hx := C0.1; have hb := C0.2.1; have hml := C0.2.2.1; have hown := C0.2.2.2.1; have hts := C0.2.2.2.2.1
  have hbA : ¬ eA E a := by show ¬ eB E ≤ a; omega
  obtain ⟨v, I1, I2, h8, h9, hrel2⟩ := hst I X (xs (nI (i + 1)).toNatClampNeg) hrel
  refine lv_aload_n hx hb dL_law_631 rfl (lv_at hl 1 rfl) ?_
  refine lv_aload_n hx hb dL_law_632 rfl (lv_at hl 0 rfl) ?_
  refine lv_iload_n hx hb dL_law_633 rfl (lv_at hl 3 rfl) ?_
  refine lv_iconst (v := (1 : Int32)) hx hb dL_law_634 (by decide) ?_
  refine lv_iadd hx hb dL_law_635 ?_
  rw [nI_k1]
  refine va_sld hx hb hX hbl hbA hw.2 (vp_in_nI (by omega) (by omega)) dL_law_636 ?_
  refine x_ci (r := v) (I1 := I1) (X1 := X) (x_runV (As := [.int (xs (nI (i + 1)).toNatClampNeg)]) (rest := []) C0 (c8_rest l E (n, K, len) fl X I b (xs (nI (i + 1)).toNatClampNeg) tb h8) hw 8 tb (by decide) rfl wd97 wd837 wd838 wd839 wd197 ⟨rfl, rfl⟩ hy8_rest ⟨Nat.le_of_ble_eq_true rfl, Nat.le_of_ble_eq_true rfl⟩ rfl hl.1 (Nat.le_of_ble_eq_true rfl) ⟨Nat.le_of_ble_eq_true rfl, Nat.le_of_ble_eq_true rfl⟩ dL_law_637) hw (fun H locs hw => ?_)
  refine lv_aload_n hx hb dL_law_640 rfl (lv_at hl 2 rfl) ?_
  refine lv_aload_n hx hb dL_law_641 rfl (lv_at hl 0 rfl) ?_
  refine lv_iload_n hx hb dL_law_642 rfl (lv_at hl 3 rfl) ?_
  refine lv_iconst (v := (1 : Int32)) hx hb dL_law_643 (by decide) ?_
  refine lv_iadd hx hb dL_law_644 ?_
  rw [nI_k1]
  refine va_sld hx hb hX hbl hbA hw.2 (vp_in_nI (by omega) (by omega)) dL_law_645 ?_
  refine x_ci (r := v) (I1 := I2) (X1 := X) (x_runV (As := [.int (xs (nI (i + 1)).toNatClampNeg)]) (rest := [.int v]) C0 (c9_rest l E (n, K, len) fl X I1 q (xs (nI (i + 1)).toNatClampNeg) tq h9) hw 9 tq (by decide) rfl wd163 wd840 wd841 wd842 wd612 ⟨rfl, rfl⟩ hy9_rest ⟨Nat.le_of_ble_eq_true rfl, Nat.le_of_ble_eq_true rfl⟩ rfl hl.1 (Nat.le_of_ble_eq_true rfl) ⟨Nat.le_of_ble_eq_true rfl, Nat.le_of_ble_eq_true rfl⟩ dL_law_646) hw (fun H locs hw => ?_)
  refine lv_icmp_eq (tgt := 907) hx hb dL_law_649 (by decide) (fun _ => ?_) (fun q => absurd rfl q)
  exact kx _ _ H locs hw hrel2
set_option maxHeartbeats 4000000 in
set_option maxRecDepth 100000 in
theorem wl_becomes {p : Program} {l : Launch} {e : Env} {s : State} {m : MethodId} {below : List Frame} {meth : Method} {c : Code} {E : EN} {n : Nat} {K len : Nat → Nat} {I : Im} {X : Xm} {H : Heap} {locs : List Loc} {ls : Array Slot} {a b q L i : Nat} {xs : Nat → Int32} {Q : State → Prop} {Rel : Im → Xm → Prop} (fl : Nat) (hst : St_becomes fl len b q Rel) (C0 : CX p s m #[Value.ref a] meth c E cL_law RL 4) (hX : va_X a L xs s s.heap) (hbl : a < s.heap.size) (hBe : eB E = s.heap.size) (hi : i + 5 ≤ L) (hL : L ≤ 2560) (tb : okA E (n, K, len) 8 b) (tq : okA E (n, K, len) 9 q) (hw : WD E (n, K, len) I X s.heap H locs) (hrel : Rel I X) (hl : lv_has ls 4 [(0, .ref a), (1, .ref b), (2, .ref q), (3, .int (nI i))]) (kx : ∀ (I : Im) (X : Xm) (H : Heap) (locs : List Loc), WD E (n, K, len) I X s.heap H locs → Rel I X → W p l e room_1 s m #[Value.ref a] below meth c H locs 600000 7302250 Q (F0 m 907 ls [])) : W p l e room_1 s m #[Value.ref a] below meth c H locs 600000 7302250 Q (F0 m 654 ls []) := by
  have hx := C0.1; have hb := C0.2.1; have hml := C0.2.2.1; have hown := C0.2.2.2.1; have hts := C0.2.2.2.2.1
  have hbA : ¬ eA E a := by show ¬ eB E ≤ a; omega
  obtain ⟨v, I1, I2, h8, h9, hrel2⟩ := hst I X (xs (nI (i + 1)).toNatClampNeg) hrel
  refine lv_aload_n hx hb dL_law_654 rfl (lv_at hl 1 rfl) ?_
  refine lv_aload_n hx hb dL_law_655 rfl (lv_at hl 0 rfl) ?_
  refine lv_iload_n hx hb dL_law_656 rfl (lv_at hl 3 rfl) ?_
  refine lv_iconst (v := (1 : Int32)) hx hb dL_law_657 (by decide) ?_
  refine lv_iadd hx hb dL_law_658 ?_
  rw [nI_k1]
  refine va_sld hx hb hX hbl hbA hw.2 (vp_in_nI (by omega) (by omega)) dL_law_659 ?_
  refine x_ci (r := v) (I1 := I1) (X1 := X) (x_runV (As := [.int (xs (nI (i + 1)).toNatClampNeg)]) (rest := []) C0 (c8_becomes l E (n, K, len) fl X I b (xs (nI (i + 1)).toNatClampNeg) tb h8) hw 8 tb (by decide) rfl wd99 wd843 wd844 wd845 wd197 ⟨rfl, rfl⟩ hy8_becomes ⟨Nat.le_of_ble_eq_true rfl, Nat.le_of_ble_eq_true rfl⟩ rfl hl.1 (Nat.le_of_ble_eq_true rfl) ⟨Nat.le_of_ble_eq_true rfl, Nat.le_of_ble_eq_true rfl⟩ dL_law_660) hw (fun H locs hw => ?_)
  refine lv_aload_n hx hb dL_law_663 rfl (lv_at hl 2 rfl) ?_
  refine lv_aload_n hx hb dL_law_664 rfl (lv_at hl 0 rfl) ?_
  refine lv_iload_n hx hb dL_law_665 rfl (lv_at hl 3 rfl) ?_
  refine lv_iconst (v := (1 : Int32)) hx hb dL_law_666 (by decide) ?_
  refine lv_iadd hx hb dL_law_667 ?_
  rw [nI_k1]
  refine va_sld hx hb hX hbl hbA hw.2 (vp_in_nI (by omega) (by omega)) dL_law_668 ?_
  refine x_ci (r := v) (I1 := I2) (X1 := X) (x_runV (As := [.int (xs (nI (i + 1)).toNatClampNeg)]) (rest := [.int v]) C0 (c9_becomes l E (n, K, len) fl X I1 q (xs (nI (i + 1)).toNatClampNeg) tq h9) hw 9 tq (by decide) rfl wd164 wd846 wd847 wd848 wd612 ⟨rfl, rfl⟩ hy9_becomes ⟨Nat.le_of_ble_eq_true rfl, Nat.le_of_ble_eq_true rfl⟩ rfl hl.1 (Nat.le_of_ble_eq_true rfl) ⟨Nat.le_of_ble_eq_true rfl, Nat.le_of_ble_eq_true rfl⟩ dL_law_669) hw (fun H locs hw => ?_)
  refine lv_icmp_eq (tgt := 907) hx hb dL_law_672 (by decide) (fun _ => ?_) (fun q => absurd rfl q)
  exact kx _ _ H locs hw hrel2
set_option maxHeartbeats 4000000 in
set_option maxRecDepth 100000 in
theorem wl_leastWind {p : Program} {l : Launch} {e : Env} {s : State} {m : MethodId} {below : List Frame} {meth : Method} {c : Code} {E : EN} {n : Nat} {K len : Nat → Nat} {I : Im} {X : Xm} {H : Heap} {locs : List Loc} {ls : Array Slot} {a b q L i : Nat} {xs : Nat → Int32} {Q : State → Prop} {Rel : Im → Xm → Prop} (fl : Nat) (hst : St_leastWind fl len b q Rel) (C0 : CX p s m #[Value.ref a] meth c E cL_law RL 4) (hX : va_X a L xs s s.heap) (hbl : a < s.heap.size) (hBe : eB E = s.heap.size) (hi : i + 5 ≤ L) (hL : L ≤ 2560) (tb : okA E (n, K, len) 8 b) (tq : okA E (n, K, len) 9 q) (hw : WD E (n, K, len) I X s.heap H locs) (hrel : Rel I X) (hl : lv_has ls 4 [(0, .ref a), (1, .ref b), (2, .ref q), (3, .int (nI i))]) (kx : ∀ (I : Im) (X : Xm) (H : Heap) (locs : List Loc), WD E (n, K, len) I X s.heap H locs → Rel I X → W p l e room_1 s m #[Value.ref a] below meth c H locs 600000 7302250 Q (F0 m 907 ls [])) : W p l e room_1 s m #[Value.ref a] below meth c H locs 600000 7302250 Q (F0 m 677 ls []) := by
  have hx := C0.1; have hb := C0.2.1; have hml := C0.2.2.1; have hown := C0.2.2.2.1; have hts := C0.2.2.2.2.1
  have hbA : ¬ eA E a := by show ¬ eB E ≤ a; omega
  obtain ⟨v, I1, I2, h8, h9, hrel2⟩ := hst I X  hrel
  refine lv_aload_n hx hb dL_law_677 rfl (lv_at hl 1 rfl) ?_
  refine x_ci (r := v) (I1 := I1) (X1 := X) (x_runV (As := []) (rest := []) C0 (c8_leastWind l E (n, K, len) fl X I b  tb h8) hw 8 tb (by decide) rfl wd101 wd849 wd850 wd851 wd197 ⟨rfl, rfl⟩ hy8_leastWind ⟨Nat.le_of_ble_eq_true rfl, Nat.le_of_ble_eq_true rfl⟩ rfl hl.1 (Nat.le_of_ble_eq_true rfl) ⟨Nat.le_of_ble_eq_true rfl, Nat.le_of_ble_eq_true rfl⟩ dL_law_678) hw (fun H locs hw => ?_)
  refine lv_aload_n hx hb dL_law_681 rfl (lv_at hl 2 rfl) ?_
  refine x_ci (r := v) (I1 := I2) (X1 := X) (x_runV (As := []) (rest := [.int v]) C0 (c9_leastWind l E (n, K, len) fl X I1 q  tq h9) hw 9 tq (by decide) rfl wd165 wd852 wd853 wd854 wd612 ⟨rfl, rfl⟩ hy9_leastWind ⟨Nat.le_of_ble_eq_true rfl, Nat.le_of_ble_eq_true rfl⟩ rfl hl.1 (Nat.le_of_ble_eq_true rfl) ⟨Nat.le_of_ble_eq_true rfl, Nat.le_of_ble_eq_true rfl⟩ dL_law_682) hw (fun H locs hw => ?_)
  refine lv_icmp_eq (tgt := 907) hx hb dL_law_685 (by decide) (fun _ => ?_) (fun q => absurd rfl q)
  exact kx _ _ H locs hw hrel2
set_option maxHeartbeats 4000000 in
set_option maxRecDepth 100000 in
theorem wl_ifMoved {p : Program} {l : Launch} {e : Env} {s : State} {m : MethodId} {below : List Frame} {meth : Method} {c : Code} {E : EN} {n : Nat} {K len : Nat → Nat} {I : Im} {X : Xm} {H : Heap} {locs : List Loc} {ls : Array Slot} {a b q L i : Nat} {xs : Nat → Int32} {Q : State → Prop} {Rel : Im → Xm → Prop} (fl : Nat) (hst : St_ifMoved fl len b q Rel) (C0 : CX p s m #[Value.ref a] meth c E cL_law RL 4) (hX : va_X a L xs s s.heap) (hbl : a < s.heap.size) (hBe : eB E = s.heap.size) (hi : i + 5 ≤ L) (hL : L ≤ 2560) (tb : okA E (n, K, len) 8 b) (tq : okA E (n, K, len) 9 q) (hw : WD E (n, K, len) I X s.heap H locs) (hrel : Rel I X) (hl : lv_has ls 4 [(0, .ref a), (1, .ref b), (2, .ref q), (3, .int (nI i))]) (kx : ∀ (I : Im) (X : Xm) (H : Heap) (locs : List Loc), WD E (n, K, len) I X s.heap H locs → Rel I X → W p l e room_1 s m #[Value.ref a] below meth c H locs 600000 7302250 Q (F0 m 907 ls [])) : W p l e room_1 s m #[Value.ref a] below meth c H locs 600000 7302250 Q (F0 m 690 ls []) := by
  have hx := C0.1; have hb := C0.2.1; have hml := C0.2.2.1; have hown := C0.2.2.2.1; have hts := C0.2.2.2.2.1
  have hbA : ¬ eA E a := by show ¬ eB E ≤ a; omega
  obtain ⟨v, I1, X1, I2, h8, h9, hrel2⟩ := hst I X (xs (nI (i + 1)).toNatClampNeg) (xs (nI (i + 2)).toNatClampNeg) hrel
  refine lv_aload_n hx hb dL_law_690 rfl (lv_at hl 1 rfl) ?_
  refine lv_aload_n hx hb dL_law_691 rfl (lv_at hl 0 rfl) ?_
  refine lv_iload_n hx hb dL_law_692 rfl (lv_at hl 3 rfl) ?_
  refine lv_iconst (v := (1 : Int32)) hx hb dL_law_693 (by decide) ?_
  refine lv_iadd hx hb dL_law_694 ?_
  rw [nI_k1]
  refine va_sld hx hb hX hbl hbA hw.2 (vp_in_nI (by omega) (by omega)) dL_law_695 ?_
  refine lv_aload_n hx hb dL_law_696 rfl (lv_at hl 0 rfl) ?_
  refine lv_iload_n hx hb dL_law_697 rfl (lv_at hl 3 rfl) ?_
  refine lv_iconst (v := (2 : Int32)) hx hb dL_law_698 (by decide) ?_
  refine lv_iadd hx hb dL_law_699 ?_
  rw [nI_k2]
  refine va_sld hx hb hX hbl hbA hw.2 (vp_in_nI (by omega) (by omega)) dL_law_700 ?_
  refine x_ci (r := v) (I1 := I1) (X1 := X1) (x_runV (As := [.int (xs (nI (i + 1)).toNatClampNeg), .int (xs (nI (i + 2)).toNatClampNeg)]) (rest := []) C0 (c8_ifMoved l E (n, K, len) fl X I b (xs (nI (i + 1)).toNatClampNeg) (xs (nI (i + 2)).toNatClampNeg) tb h8) hw 8 tb (by decide) rfl wd102 wd855 wd856 wd857 wd197 ⟨rfl, rfl⟩ hy8_ifMoved ⟨Nat.le_of_ble_eq_true rfl, Nat.le_of_ble_eq_true rfl⟩ rfl hl.1 (Nat.le_of_ble_eq_true rfl) ⟨Nat.le_of_ble_eq_true rfl, Nat.le_of_ble_eq_true rfl⟩ dL_law_701) hw (fun H locs hw => ?_)
  refine lv_aload_n hx hb dL_law_704 rfl (lv_at hl 2 rfl) ?_
  refine lv_aload_n hx hb dL_law_705 rfl (lv_at hl 0 rfl) ?_
  refine lv_iload_n hx hb dL_law_706 rfl (lv_at hl 3 rfl) ?_
  refine lv_iconst (v := (1 : Int32)) hx hb dL_law_707 (by decide) ?_
  refine lv_iadd hx hb dL_law_708 ?_
  rw [nI_k1]
  refine va_sld hx hb hX hbl hbA hw.2 (vp_in_nI (by omega) (by omega)) dL_law_709 ?_
  refine lv_aload_n hx hb dL_law_710 rfl (lv_at hl 0 rfl) ?_
  refine lv_iload_n hx hb dL_law_711 rfl (lv_at hl 3 rfl) ?_
  refine lv_iconst (v := (2 : Int32)) hx hb dL_law_712 (by decide) ?_
  refine lv_iadd hx hb dL_law_713 ?_
  rw [nI_k2]
  refine va_sld hx hb hX hbl hbA hw.2 (vp_in_nI (by omega) (by omega)) dL_law_714 ?_
  refine x_ci (r := v) (I1 := I2) (X1 := X1) (x_runV (As := [.int (xs (nI (i + 1)).toNatClampNeg), .int (xs (nI (i + 2)).toNatClampNeg)]) (rest := [.int v]) C0 (c9_ifMoved l E (n, K, len) fl X1 I1 q (xs (nI (i + 1)).toNatClampNeg) (xs (nI (i + 2)).toNatClampNeg) tq h9) hw 9 tq (by decide) rfl wd166 wd858 wd859 wd860 wd612 ⟨rfl, rfl⟩ hy9_ifMoved ⟨Nat.le_of_ble_eq_true rfl, Nat.le_of_ble_eq_true rfl⟩ rfl hl.1 (Nat.le_of_ble_eq_true rfl) ⟨Nat.le_of_ble_eq_true rfl, Nat.le_of_ble_eq_true rfl⟩ dL_law_715) hw (fun H locs hw => ?_)
  refine lv_icmp_eq (tgt := 907) hx hb dL_law_718 (by decide) (fun _ => ?_) (fun q => absurd rfl q)
  exact kx _ _ H locs hw hrel2
set_option maxHeartbeats 4000000 in
set_option maxRecDepth 100000 in
theorem wl_readyIn {p : Program} {l : Launch} {e : Env} {s : State} {m : MethodId} {below : List Frame} {meth : Method} {c : Code} {E : EN} {n : Nat} {K len : Nat → Nat} {I : Im} {X : Xm} {H : Heap} {locs : List Loc} {ls : Array Slot} {a b q L i : Nat} {xs : Nat → Int32} {Q : State → Prop} {Rel : Im → Xm → Prop} (fl : Nat) (hst : St_readyIn fl len b q Rel) (C0 : CX p s m #[Value.ref a] meth c E cL_law RL 4) (hX : va_X a L xs s s.heap) (hbl : a < s.heap.size) (hBe : eB E = s.heap.size) (hi : i + 5 ≤ L) (hL : L ≤ 2560) (tb : okA E (n, K, len) 8 b) (tq : okA E (n, K, len) 9 q) (hw : WD E (n, K, len) I X s.heap H locs) (hrel : Rel I X) (hl : lv_has ls 4 [(0, .ref a), (1, .ref b), (2, .ref q), (3, .int (nI i))]) (kx : ∀ (I : Im) (X : Xm) (H : Heap) (locs : List Loc), WD E (n, K, len) I X s.heap H locs → Rel I X → W p l e room_1 s m #[Value.ref a] below meth c H locs 600000 7302250 Q (F0 m 907 ls [])) : W p l e room_1 s m #[Value.ref a] below meth c H locs 600000 7302250 Q (F0 m 723 ls []) := by
  have hx := C0.1; have hb := C0.2.1; have hml := C0.2.2.1; have hown := C0.2.2.2.1; have hts := C0.2.2.2.2.1
  have hbA : ¬ eA E a := by show ¬ eB E ≤ a; omega
  obtain ⟨v, I2, h8, h9, hrel2⟩ := hst I X (xs (nI (i + 1)).toNatClampNeg) (xs (nI (i + 2)).toNatClampNeg) hrel
  refine lv_aload_n hx hb dL_law_723 rfl (lv_at hl 1 rfl) ?_
  refine lv_aload_n hx hb dL_law_724 rfl (lv_at hl 0 rfl) ?_
  refine lv_iload_n hx hb dL_law_725 rfl (lv_at hl 3 rfl) ?_
  refine lv_iconst (v := (1 : Int32)) hx hb dL_law_726 (by decide) ?_
  refine lv_iadd hx hb dL_law_727 ?_
  rw [nI_k1]
  refine va_sld hx hb hX hbl hbA hw.2 (vp_in_nI (by omega) (by omega)) dL_law_728 ?_
  refine lv_aload_n hx hb dL_law_729 rfl (lv_at hl 0 rfl) ?_
  refine lv_iload_n hx hb dL_law_730 rfl (lv_at hl 3 rfl) ?_
  refine lv_iconst (v := (2 : Int32)) hx hb dL_law_731 (by decide) ?_
  refine lv_iadd hx hb dL_law_732 ?_
  rw [nI_k2]
  refine va_sld hx hb hX hbl hbA hw.2 (vp_in_nI (by omega) (by omega)) dL_law_733 ?_
  refine x_ci (r := v) (I1 := I) (X1 := X) (x_runV (As := [.int (xs (nI (i + 1)).toNatClampNeg), .int (xs (nI (i + 2)).toNatClampNeg)]) (rest := []) C0 (c8_readyIn l E (n, K, len) fl X I b (xs (nI (i + 1)).toNatClampNeg) (xs (nI (i + 2)).toNatClampNeg) tb h8) hw 8 tb (by decide) rfl wd103 wd861 wd862 wd863 wd197 ⟨rfl, rfl⟩ hy8_readyIn ⟨Nat.le_of_ble_eq_true rfl, Nat.le_of_ble_eq_true rfl⟩ rfl hl.1 (Nat.le_of_ble_eq_true rfl) ⟨Nat.le_of_ble_eq_true rfl, Nat.le_of_ble_eq_true rfl⟩ dL_law_734) hw (fun H locs hw => ?_)
  refine lv_aload_n hx hb dL_law_737 rfl (lv_at hl 2 rfl) ?_
  refine lv_aload_n hx hb dL_law_738 rfl (lv_at hl 0 rfl) ?_
  refine lv_iload_n hx hb dL_law_739 rfl (lv_at hl 3 rfl) ?_
  refine lv_iconst (v := (1 : Int32)) hx hb dL_law_740 (by decide) ?_
  refine lv_iadd hx hb dL_law_741 ?_
  rw [nI_k1]
  refine va_sld hx hb hX hbl hbA hw.2 (vp_in_nI (by omega) (by omega)) dL_law_742 ?_
  refine lv_aload_n hx hb dL_law_743 rfl (lv_at hl 0 rfl) ?_
  refine lv_iload_n hx hb dL_law_744 rfl (lv_at hl 3 rfl) ?_
  refine lv_iconst (v := (2 : Int32)) hx hb dL_law_745 (by decide) ?_
  refine lv_iadd hx hb dL_law_746 ?_
  rw [nI_k2]
  refine va_sld hx hb hX hbl hbA hw.2 (vp_in_nI (by omega) (by omega)) dL_law_747 ?_
  refine x_ci (r := v) (I1 := I2) (X1 := X) (x_runV (As := [.int (xs (nI (i + 1)).toNatClampNeg), .int (xs (nI (i + 2)).toNatClampNeg)]) (rest := [.int v]) C0 (c9_readyIn l E (n, K, len) fl X I q (xs (nI (i + 1)).toNatClampNeg) (xs (nI (i + 2)).toNatClampNeg) tq h9) hw 9 tq (by decide) rfl wd167 wd864 wd865 wd866 wd612 ⟨rfl, rfl⟩ hy9_readyIn ⟨Nat.le_of_ble_eq_true rfl, Nat.le_of_ble_eq_true rfl⟩ rfl hl.1 (Nat.le_of_ble_eq_true rfl) ⟨Nat.le_of_ble_eq_true rfl, Nat.le_of_ble_eq_true rfl⟩ dL_law_748) hw (fun H locs hw => ?_)
  refine lv_icmp_eq (tgt := 907) hx hb dL_law_751 (by decide) (fun _ => ?_) (fun q => absurd rfl q)
  exact kx _ _ H locs hw hrel2
set_option maxHeartbeats 4000000 in
set_option maxRecDepth 100000 in
theorem wl_put {p : Program} {l : Launch} {e : Env} {s : State} {m : MethodId} {below : List Frame} {meth : Method} {c : Code} {E : EN} {n : Nat} {K len : Nat → Nat} {I : Im} {X : Xm} {H : Heap} {locs : List Loc} {ls : Array Slot} {a b q L i : Nat} {xs : Nat → Int32} {Q : State → Prop} {Rel : Im → Xm → Prop} (fl : Nat) (hst : St_put fl len b q Rel) (C0 : CX p s m #[Value.ref a] meth c E cL_law RL 4) (hX : va_X a L xs s s.heap) (hbl : a < s.heap.size) (hBe : eB E = s.heap.size) (hi : i + 5 ≤ L) (hL : L ≤ 2560) (tb : okA E (n, K, len) 8 b) (tq : okA E (n, K, len) 9 q) (hw : WD E (n, K, len) I X s.heap H locs) (hrel : Rel I X) (hl : lv_has ls 4 [(0, .ref a), (1, .ref b), (2, .ref q), (3, .int (nI i))]) (kx : ∀ (I : Im) (X : Xm) (H : Heap) (locs : List Loc), WD E (n, K, len) I X s.heap H locs → Rel I X → W p l e room_1 s m #[Value.ref a] below meth c H locs 600000 7302250 Q (F0 m 907 ls [])) : W p l e room_1 s m #[Value.ref a] below meth c H locs 600000 7302250 Q (F0 m 756 ls []) := by
  have hx := C0.1; have hb := C0.2.1; have hml := C0.2.2.1; have hown := C0.2.2.2.1; have hts := C0.2.2.2.2.1
  have hbA : ¬ eA E a := by show ¬ eB E ≤ a; omega
  obtain ⟨v, I1, I2, h8, h9, hrel2⟩ := hst I X (putArg (xs (nI (i + 1)).toNatClampNeg) (xs (nI (i + 2)).toNatClampNeg)) hrel
  refine lv_aload_n hx hb dL_law_756 rfl (lv_at hl 1 rfl) ?_
  refine lv_aload_n hx hb dL_law_757 rfl (lv_at hl 0 rfl) ?_
  refine lv_iload_n hx hb dL_law_758 rfl (lv_at hl 3 rfl) ?_
  refine lv_iconst (v := (1 : Int32)) hx hb dL_law_759 (by decide) ?_
  refine lv_iadd hx hb dL_law_760 ?_
  rw [nI_k1]
  refine va_sld hx hb hX hbl hbA hw.2 (vp_in_nI (by omega) (by omega)) dL_law_761 ?_
  refine lv_i2l hx hb dL_law_762 rfl ?_
  refine lv_bipush (v := (32 : Int32)) hx hb dL_law_763 (by decide) ?_
  refine lv_lshl hx hb dL_law_765 rfl ?_
  refine lv_aload_n hx hb dL_law_766 rfl (lv_at hl 0 rfl) ?_
  refine lv_iload_n hx hb dL_law_767 rfl (lv_at hl 3 rfl) ?_
  refine lv_iconst (v := (2 : Int32)) hx hb dL_law_768 (by decide) ?_
  refine lv_iadd hx hb dL_law_769 ?_
  rw [nI_k2]
  refine va_sld hx hb hX hbl hbA hw.2 (vp_in_nI (by omega) (by omega)) dL_law_770 ?_
  refine lv_i2l hx hb dL_law_771 rfl ?_
  refine lv_ldc2 (v := (4294967295 : Int64)) hx hb hown (hts _ wd748) dL_law_772 ?_
  refine lv_land hx hb dL_law_775 ?_
  refine lv_lor hx hb dL_law_776 ?_
  refine x_ci (r := v) (I1 := I1) (X1 := X) (x_runV (As := [.long (putArg (xs (nI (i + 1)).toNatClampNeg) (xs (nI (i + 2)).toNatClampNeg))]) (rest := []) C0 (c8_put l E (n, K, len) fl X I b (putArg (xs (nI (i + 1)).toNatClampNeg) (xs (nI (i + 2)).toNatClampNeg)) tb h8) hw 8 tb (by decide) rfl wd104 wd867 wd868 wd869 wd197 ⟨rfl, rfl⟩ hy8_put ⟨Nat.le_of_ble_eq_true rfl, Nat.le_of_ble_eq_true rfl⟩ rfl hl.1 (Nat.le_of_ble_eq_true rfl) ⟨Nat.le_of_ble_eq_true rfl, Nat.le_of_ble_eq_true rfl⟩ dL_law_777) hw (fun H locs hw => ?_)
  refine lv_aload_n hx hb dL_law_780 rfl (lv_at hl 2 rfl) ?_
  refine lv_aload_n hx hb dL_law_781 rfl (lv_at hl 0 rfl) ?_
  refine lv_iload_n hx hb dL_law_782 rfl (lv_at hl 3 rfl) ?_
  refine lv_iconst (v := (1 : Int32)) hx hb dL_law_783 (by decide) ?_
  refine lv_iadd hx hb dL_law_784 ?_
  rw [nI_k1]
  refine va_sld hx hb hX hbl hbA hw.2 (vp_in_nI (by omega) (by omega)) dL_law_785 ?_
  refine lv_i2l hx hb dL_law_786 rfl ?_
  refine lv_bipush (v := (32 : Int32)) hx hb dL_law_787 (by decide) ?_
  refine lv_lshl hx hb dL_law_789 rfl ?_
  refine lv_aload_n hx hb dL_law_790 rfl (lv_at hl 0 rfl) ?_
  refine lv_iload_n hx hb dL_law_791 rfl (lv_at hl 3 rfl) ?_
  refine lv_iconst (v := (2 : Int32)) hx hb dL_law_792 (by decide) ?_
  refine lv_iadd hx hb dL_law_793 ?_
  rw [nI_k2]
  refine va_sld hx hb hX hbl hbA hw.2 (vp_in_nI (by omega) (by omega)) dL_law_794 ?_
  refine lv_i2l hx hb dL_law_795 rfl ?_
  refine lv_ldc2 (v := (4294967295 : Int64)) hx hb hown (hts _ wd748) dL_law_796 ?_
  refine lv_land hx hb dL_law_799 ?_
  refine lv_lor hx hb dL_law_800 ?_
  refine x_ci (r := v) (I1 := I2) (X1 := X) (x_runV (As := [.long (putArg (xs (nI (i + 1)).toNatClampNeg) (xs (nI (i + 2)).toNatClampNeg))]) (rest := [.int v]) C0 (c9_put l E (n, K, len) fl X I1 q (putArg (xs (nI (i + 1)).toNatClampNeg) (xs (nI (i + 2)).toNatClampNeg)) tq h9) hw 9 tq (by decide) rfl wd168 wd870 wd871 wd872 wd612 ⟨rfl, rfl⟩ hy9_put ⟨Nat.le_of_ble_eq_true rfl, Nat.le_of_ble_eq_true rfl⟩ rfl hl.1 (Nat.le_of_ble_eq_true rfl) ⟨Nat.le_of_ble_eq_true rfl, Nat.le_of_ble_eq_true rfl⟩ dL_law_801) hw (fun H locs hw => ?_)
  refine lv_icmp_eq (tgt := 907) hx hb dL_law_804 (by decide) (fun _ => ?_) (fun q => absurd rfl q)
  exact kx _ _ H locs hw hrel2
set_option maxHeartbeats 4000000 in
set_option maxRecDepth 100000 in
theorem wl_wipe {p : Program} {l : Launch} {e : Env} {s : State} {m : MethodId} {below : List Frame} {meth : Method} {c : Code} {E : EN} {n : Nat} {K len : Nat → Nat} {I : Im} {X : Xm} {H : Heap} {locs : List Loc} {ls : Array Slot} {a b q L i : Nat} {xs : Nat → Int32} {Q : State → Prop} {Rel : Im → Xm → Prop} (fl : Nat) (hst : St_wipe fl len b q Rel) (C0 : CX p s m #[Value.ref a] meth c E cL_law RL 4) (hX : va_X a L xs s s.heap) (hbl : a < s.heap.size) (hBe : eB E = s.heap.size) (hi : i + 5 ≤ L) (hL : L ≤ 2560) (tb : okA E (n, K, len) 8 b) (tq : okA E (n, K, len) 9 q) (hw : WD E (n, K, len) I X s.heap H locs) (hrel : Rel I X) (hl : lv_has ls 4 [(0, .ref a), (1, .ref b), (2, .ref q), (3, .int (nI i))]) (kx : ∀ (I : Im) (X : Xm) (H : Heap) (locs : List Loc), WD E (n, K, len) I X s.heap H locs → Rel I X → W p l e room_1 s m #[Value.ref a] below meth c H locs 600000 7302250 Q (F0 m 907 ls [])) : W p l e room_1 s m #[Value.ref a] below meth c H locs 600000 7302250 Q (F0 m 809 ls []) := by
  have hx := C0.1; have hb := C0.2.1; have hml := C0.2.2.1; have hown := C0.2.2.2.1; have hts := C0.2.2.2.2.1
  have hbA : ¬ eA E a := by show ¬ eB E ≤ a; omega
  obtain ⟨v, I1, I2, h8, h9, hrel2⟩ := hst I X  hrel
  refine lv_aload_n hx hb dL_law_809 rfl (lv_at hl 1 rfl) ?_
  refine x_ci (r := v) (I1 := I1) (X1 := X) (x_runV (As := []) (rest := []) C0 (c8_wipe l E (n, K, len) fl X I b  tb h8) hw 8 tb (by decide) rfl wd105 wd873 wd874 wd875 wd197 ⟨rfl, rfl⟩ hy8_wipe ⟨Nat.le_of_ble_eq_true rfl, Nat.le_of_ble_eq_true rfl⟩ rfl hl.1 (Nat.le_of_ble_eq_true rfl) ⟨Nat.le_of_ble_eq_true rfl, Nat.le_of_ble_eq_true rfl⟩ dL_law_810) hw (fun H locs hw => ?_)
  refine lv_aload_n hx hb dL_law_813 rfl (lv_at hl 2 rfl) ?_
  refine x_ci (r := v) (I1 := I2) (X1 := X) (x_runV (As := []) (rest := [.int v]) C0 (c9_wipe l E (n, K, len) fl X I1 q  tq h9) hw 9 tq (by decide) rfl wd169 wd876 wd877 wd878 wd612 ⟨rfl, rfl⟩ hy9_wipe ⟨Nat.le_of_ble_eq_true rfl, Nat.le_of_ble_eq_true rfl⟩ rfl hl.1 (Nat.le_of_ble_eq_true rfl) ⟨Nat.le_of_ble_eq_true rfl, Nat.le_of_ble_eq_true rfl⟩ dL_law_814) hw (fun H locs hw => ?_)
  refine lv_icmp_eq (tgt := 907) hx hb dL_law_817 (by decide) (fun _ => ?_) (fun q => absurd rfl q)
  exact kx _ _ H locs hw hrel2
set_option maxHeartbeats 4000000 in
set_option maxRecDepth 100000 in
theorem wl_fault {p : Program} {l : Launch} {e : Env} {s : State} {m : MethodId} {below : List Frame} {meth : Method} {c : Code} {E : EN} {n : Nat} {K len : Nat → Nat} {I : Im} {X : Xm} {H : Heap} {locs : List Loc} {ls : Array Slot} {a b q L i : Nat} {xs : Nat → Int32} {Q : State → Prop} {Rel : Im → Xm → Prop} (fl : Nat) (hst : St_fault fl len b q Rel) (C0 : CX p s m #[Value.ref a] meth c E cL_law RL 4) (hX : va_X a L xs s s.heap) (hbl : a < s.heap.size) (hBe : eB E = s.heap.size) (hi : i + 5 ≤ L) (hL : L ≤ 2560) (tb : okA E (n, K, len) 8 b) (tq : okA E (n, K, len) 9 q) (hw : WD E (n, K, len) I X s.heap H locs) (hrel : Rel I X) (hl : lv_has ls 4 [(0, .ref a), (1, .ref b), (2, .ref q), (3, .int (nI i))]) (kx : ∀ (I : Im) (X : Xm) (H : Heap) (locs : List Loc), WD E (n, K, len) I X s.heap H locs → Rel I X → W p l e room_1 s m #[Value.ref a] below meth c H locs 600000 7302250 Q (F0 m 907 ls [])) : W p l e room_1 s m #[Value.ref a] below meth c H locs 600000 7302250 Q (F0 m 822 ls []) := by
  have hx := C0.1; have hb := C0.2.1; have hml := C0.2.2.1; have hown := C0.2.2.2.1; have hts := C0.2.2.2.2.1
  have hbA : ¬ eA E a := by show ¬ eB E ≤ a; omega
  obtain ⟨v, I1, I2, h8, h9, hrel2⟩ := hst I X  hrel
  refine lv_aload_n hx hb dL_law_822 rfl (lv_at hl 1 rfl) ?_
  refine x_ci (r := v) (I1 := I1) (X1 := X) (x_runV (As := []) (rest := []) C0 (c8_fault l E (n, K, len) fl X I b  tb h8) hw 8 tb (by decide) rfl wd106 wd879 wd880 wd881 wd197 ⟨rfl, rfl⟩ hy8_fault ⟨Nat.le_of_ble_eq_true rfl, Nat.le_of_ble_eq_true rfl⟩ rfl hl.1 (Nat.le_of_ble_eq_true rfl) ⟨Nat.le_of_ble_eq_true rfl, Nat.le_of_ble_eq_true rfl⟩ dL_law_823) hw (fun H locs hw => ?_)
  refine lv_aload_n hx hb dL_law_826 rfl (lv_at hl 2 rfl) ?_
  refine x_ci (r := v) (I1 := I2) (X1 := X) (x_runV (As := []) (rest := [.int v]) C0 (c9_fault l E (n, K, len) fl X I1 q  tq h9) hw 9 tq (by decide) rfl wd175 wd882 wd739 wd740 wd612 ⟨rfl, rfl⟩ hy9_fault ⟨Nat.le_of_ble_eq_true rfl, Nat.le_of_ble_eq_true rfl⟩ rfl hl.1 (Nat.le_of_ble_eq_true rfl) ⟨Nat.le_of_ble_eq_true rfl, Nat.le_of_ble_eq_true rfl⟩ dL_law_827) hw (fun H locs hw => ?_)
  refine lv_icmp_eq (tgt := 907) hx hb dL_law_830 (by decide) (fun _ => ?_) (fun q => absurd rfl q)
  exact kx _ _ H locs hw hrel2
set_option maxHeartbeats 4000000 in
set_option maxRecDepth 100000 in
theorem wl_carryOut {p : Program} {l : Launch} {e : Env} {s : State} {m : MethodId} {below : List Frame} {meth : Method} {c : Code} {E : EN} {n : Nat} {K len : Nat → Nat} {I : Im} {X : Xm} {H : Heap} {locs : List Loc} {ls : Array Slot} {a b q L i : Nat} {xs : Nat → Int32} {Q : State → Prop} {Rel : Im → Xm → Prop} (fl : Nat) (hst : St_carryOut fl len b q Rel) (C0 : CX p s m #[Value.ref a] meth c E cL_law RL 4) (hX : va_X a L xs s s.heap) (hbl : a < s.heap.size) (hBe : eB E = s.heap.size) (hi : i + 5 ≤ L) (hL : L ≤ 2560) (tb : okA E (n, K, len) 8 b) (tq : okA E (n, K, len) 9 q) (hw : WD E (n, K, len) I X s.heap H locs) (hrel : Rel I X) (hl : lv_has ls 4 [(0, .ref a), (1, .ref b), (2, .ref q), (3, .int (nI i))]) (kx : ∀ (I : Im) (X : Xm) (H : Heap) (locs : List Loc), WD E (n, K, len) I X s.heap H locs → Rel I X → W p l e room_1 s m #[Value.ref a] below meth c H locs 600000 7302250 Q (F0 m 907 ls [])) : W p l e room_1 s m #[Value.ref a] below meth c H locs 600000 7302250 Q (F0 m 835 ls []) := by
  have hx := C0.1; have hb := C0.2.1; have hml := C0.2.2.1; have hown := C0.2.2.2.1; have hts := C0.2.2.2.2.1
  have hbA : ¬ eA E a := by show ¬ eB E ≤ a; omega
  obtain ⟨v, I1, X1, I2, h8, h9, hrel2⟩ := hst I X  hrel
  refine lv_aload_n hx hb dL_law_835 rfl (lv_at hl 1 rfl) ?_
  refine x_ci (r := v) (I1 := I1) (X1 := X1) (x_runV (As := []) (rest := []) C0 (c8_carryOut l E (n, K, len) fl X I b  tb h8) hw 8 tb (by decide) rfl wd108 wd883 wd884 wd885 wd197 ⟨rfl, rfl⟩ hy8_carryOut ⟨Nat.le_of_ble_eq_true rfl, Nat.le_of_ble_eq_true rfl⟩ rfl hl.1 (Nat.le_of_ble_eq_true rfl) ⟨Nat.le_of_ble_eq_true rfl, Nat.le_of_ble_eq_true rfl⟩ dL_law_836) hw (fun H locs hw => ?_)
  refine lv_aload_n hx hb dL_law_839 rfl (lv_at hl 2 rfl) ?_
  refine x_ci (r := v) (I1 := I2) (X1 := X1) (x_runV (As := []) (rest := [.int v]) C0 (c9_carryOut l E (n, K, len) fl X1 I1 q  tq h9) hw 9 tq (by decide) rfl wd177 wd886 wd887 wd888 wd612 ⟨rfl, rfl⟩ hy9_carryOut ⟨Nat.le_of_ble_eq_true rfl, Nat.le_of_ble_eq_true rfl⟩ rfl hl.1 (Nat.le_of_ble_eq_true rfl) ⟨Nat.le_of_ble_eq_true rfl, Nat.le_of_ble_eq_true rfl⟩ dL_law_840) hw (fun H locs hw => ?_)
  refine lv_icmp_eq (tgt := 907) hx hb dL_law_843 (by decide) (fun _ => ?_) (fun q => absurd rfl q)
  exact kx _ _ H locs hw hrel2
set_option maxHeartbeats 4000000 in
set_option maxRecDepth 100000 in
theorem wl_undo {p : Program} {l : Launch} {e : Env} {s : State} {m : MethodId} {below : List Frame} {meth : Method} {c : Code} {E : EN} {n : Nat} {K len : Nat → Nat} {I : Im} {X : Xm} {H : Heap} {locs : List Loc} {ls : Array Slot} {a b q L i : Nat} {xs : Nat → Int32} {Q : State → Prop} {Rel : Im → Xm → Prop} (fl : Nat) (hst : St_undo fl len b q Rel) (C0 : CX p s m #[Value.ref a] meth c E cL_law RL 4) (hX : va_X a L xs s s.heap) (hbl : a < s.heap.size) (hBe : eB E = s.heap.size) (hi : i + 5 ≤ L) (hL : L ≤ 2560) (tb : okA E (n, K, len) 8 b) (tq : okA E (n, K, len) 9 q) (hw : WD E (n, K, len) I X s.heap H locs) (hrel : Rel I X) (hl : lv_has ls 4 [(0, .ref a), (1, .ref b), (2, .ref q), (3, .int (nI i))]) (kx : ∀ (I : Im) (X : Xm) (H : Heap) (locs : List Loc), WD E (n, K, len) I X s.heap H locs → Rel I X → W p l e room_1 s m #[Value.ref a] below meth c H locs 600000 7302250 Q (F0 m 907 ls [])) : W p l e room_1 s m #[Value.ref a] below meth c H locs 600000 7302250 Q (F0 m 848 ls []) := by
  have hx := C0.1; have hb := C0.2.1; have hml := C0.2.2.1; have hown := C0.2.2.2.1; have hts := C0.2.2.2.2.1
  have hbA : ¬ eA E a := by show ¬ eB E ≤ a; omega
  obtain ⟨v, I1, X1, I2, h8, h9, hrel2⟩ := hst I X  hrel
  refine lv_aload_n hx hb dL_law_848 rfl (lv_at hl 1 rfl) ?_
  refine x_ci (r := v) (I1 := I1) (X1 := X1) (x_runV (As := []) (rest := []) C0 (c8_undo l E (n, K, len) fl X I b  tb h8) hw 8 tb (by decide) rfl wd109 wd889 wd890 wd891 wd197 ⟨rfl, rfl⟩ hy8_undo ⟨Nat.le_of_ble_eq_true rfl, Nat.le_of_ble_eq_true rfl⟩ rfl hl.1 (Nat.le_of_ble_eq_true rfl) ⟨Nat.le_of_ble_eq_true rfl, Nat.le_of_ble_eq_true rfl⟩ dL_law_849) hw (fun H locs hw => ?_)
  refine lv_aload_n hx hb dL_law_852 rfl (lv_at hl 2 rfl) ?_
  refine x_ci (r := v) (I1 := I2) (X1 := X1) (x_runV (As := []) (rest := [.int v]) C0 (c9_undo l E (n, K, len) fl X1 I1 q  tq h9) hw 9 tq (by decide) rfl wd178 wd892 wd893 wd894 wd612 ⟨rfl, rfl⟩ hy9_undo ⟨Nat.le_of_ble_eq_true rfl, Nat.le_of_ble_eq_true rfl⟩ rfl hl.1 (Nat.le_of_ble_eq_true rfl) ⟨Nat.le_of_ble_eq_true rfl, Nat.le_of_ble_eq_true rfl⟩ dL_law_853) hw (fun H locs hw => ?_)
  refine lv_icmp_eq (tgt := 907) hx hb dL_law_856 (by decide) (fun _ => ?_) (fun q => absurd rfl q)
  exact kx _ _ H locs hw hrel2
set_option maxHeartbeats 4000000 in
set_option maxRecDepth 100000 in
theorem wl_save {p : Program} {l : Launch} {e : Env} {s : State} {m : MethodId} {below : List Frame} {meth : Method} {c : Code} {E : EN} {n : Nat} {K len : Nat → Nat} {I : Im} {X : Xm} {H : Heap} {locs : List Loc} {ls : Array Slot} {a b q L i : Nat} {xs : Nat → Int32} {Q : State → Prop} {Rel : Im → Xm → Prop} (fl : Nat) (hst : St_save fl len b q Rel) (C0 : CX p s m #[Value.ref a] meth c E cL_law RL 4) (hX : va_X a L xs s s.heap) (hbl : a < s.heap.size) (hBe : eB E = s.heap.size) (hi : i + 5 ≤ L) (hL : L ≤ 2560) (tb : okA E (n, K, len) 8 b) (tq : okA E (n, K, len) 9 q) (hw : WD E (n, K, len) I X s.heap H locs) (hrel : Rel I X) (hl : lv_has ls 4 [(0, .ref a), (1, .ref b), (2, .ref q), (3, .int (nI i))]) (kx : ∀ (I : Im) (X : Xm) (H : Heap) (locs : List Loc), WD E (n, K, len) I X s.heap H locs → Rel I X → W p l e room_1 s m #[Value.ref a] below meth c H locs 600000 7302250 Q (F0 m 907 ls [])) : W p l e room_1 s m #[Value.ref a] below meth c H locs 600000 7302250 Q (F0 m 861 ls []) := by
  have hx := C0.1; have hb := C0.2.1; have hml := C0.2.2.1; have hown := C0.2.2.2.1; have hts := C0.2.2.2.2.1
  have hbA : ¬ eA E a := by show ¬ eB E ≤ a; omega
  obtain ⟨v, I1, I2, h8, h9, hrel2⟩ := hst I X (xs (nI (i + 1)).toNatClampNeg) hrel
  refine lv_aload_n hx hb dL_law_861 rfl (lv_at hl 1 rfl) ?_
  refine lv_aload_n hx hb dL_law_862 rfl (lv_at hl 0 rfl) ?_
  refine lv_iload_n hx hb dL_law_863 rfl (lv_at hl 3 rfl) ?_
  refine lv_iconst (v := (1 : Int32)) hx hb dL_law_864 (by decide) ?_
  refine lv_iadd hx hb dL_law_865 ?_
  rw [nI_k1]
  refine va_sld hx hb hX hbl hbA hw.2 (vp_in_nI (by omega) (by omega)) dL_law_866 ?_
  refine x_ci (r := v) (I1 := I1) (X1 := X) (x_runV (As := [.int (xs (nI (i + 1)).toNatClampNeg)]) (rest := []) C0 (c8_save l E (n, K, len) fl X I b (xs (nI (i + 1)).toNatClampNeg) tb h8) hw 8 tb (by decide) rfl wd110 wd895 wd896 wd897 wd197 ⟨rfl, rfl⟩ hy8_save ⟨Nat.le_of_ble_eq_true rfl, Nat.le_of_ble_eq_true rfl⟩ rfl hl.1 (Nat.le_of_ble_eq_true rfl) ⟨Nat.le_of_ble_eq_true rfl, Nat.le_of_ble_eq_true rfl⟩ dL_law_867) hw (fun H locs hw => ?_)
  refine lv_aload_n hx hb dL_law_870 rfl (lv_at hl 2 rfl) ?_
  refine lv_aload_n hx hb dL_law_871 rfl (lv_at hl 0 rfl) ?_
  refine lv_iload_n hx hb dL_law_872 rfl (lv_at hl 3 rfl) ?_
  refine lv_iconst (v := (1 : Int32)) hx hb dL_law_873 (by decide) ?_
  refine lv_iadd hx hb dL_law_874 ?_
  rw [nI_k1]
  refine va_sld hx hb hX hbl hbA hw.2 (vp_in_nI (by omega) (by omega)) dL_law_875 ?_
  refine x_ci (r := v) (I1 := I2) (X1 := X) (x_runV (As := [.int (xs (nI (i + 1)).toNatClampNeg)]) (rest := [.int v]) C0 (c9_save l E (n, K, len) fl X I1 q (xs (nI (i + 1)).toNatClampNeg) tq h9) hw 9 tq (by decide) rfl wd179 wd898 wd899 wd900 wd612 ⟨rfl, rfl⟩ hy9_save ⟨Nat.le_of_ble_eq_true rfl, Nat.le_of_ble_eq_true rfl⟩ rfl hl.1 (Nat.le_of_ble_eq_true rfl) ⟨Nat.le_of_ble_eq_true rfl, Nat.le_of_ble_eq_true rfl⟩ dL_law_876) hw (fun H locs hw => ?_)
  refine lv_icmp_eq (tgt := 907) hx hb dL_law_879 (by decide) (fun _ => ?_) (fun q => absurd rfl q)
  exact kx _ _ H locs hw hrel2
set_option maxHeartbeats 4000000 in
set_option maxRecDepth 100000 in
theorem wl_restore {p : Program} {l : Launch} {e : Env} {s : State} {m : MethodId} {below : List Frame} {meth : Method} {c : Code} {E : EN} {n : Nat} {K len : Nat → Nat} {I : Im} {X : Xm} {H : Heap} {locs : List Loc} {ls : Array Slot} {a b q L i : Nat} {xs : Nat → Int32} {Q : State → Prop} {Rel : Im → Xm → Prop} (fl : Nat) (hst : St_restore fl len b q Rel) (C0 : CX p s m #[Value.ref a] meth c E cL_law RL 4) (hX : va_X a L xs s s.heap) (hbl : a < s.heap.size) (hBe : eB E = s.heap.size) (hi : i + 5 ≤ L) (hL : L ≤ 2560) (tb : okA E (n, K, len) 8 b) (tq : okA E (n, K, len) 9 q) (hw : WD E (n, K, len) I X s.heap H locs) (hrel : Rel I X) (hl : lv_has ls 4 [(0, .ref a), (1, .ref b), (2, .ref q), (3, .int (nI i))]) (kx : ∀ (I : Im) (X : Xm) (H : Heap) (locs : List Loc), WD E (n, K, len) I X s.heap H locs → Rel I X → W p l e room_1 s m #[Value.ref a] below meth c H locs 600000 7302250 Q (F0 m 907 ls [])) : W p l e room_1 s m #[Value.ref a] below meth c H locs 600000 7302250 Q (F0 m 884 ls []) := by
  have hx := C0.1; have hb := C0.2.1; have hml := C0.2.2.1; have hown := C0.2.2.2.1; have hts := C0.2.2.2.2.1
  have hbA : ¬ eA E a := by show ¬ eB E ≤ a; omega
  obtain ⟨v, I1, X1, I2, h8, h9, hrel2⟩ := hst I X (xs (nI (i + 1)).toNatClampNeg) hrel
  refine lv_aload_n hx hb dL_law_884 rfl (lv_at hl 1 rfl) ?_
  refine lv_aload_n hx hb dL_law_885 rfl (lv_at hl 0 rfl) ?_
  refine lv_iload_n hx hb dL_law_886 rfl (lv_at hl 3 rfl) ?_
  refine lv_iconst (v := (1 : Int32)) hx hb dL_law_887 (by decide) ?_
  refine lv_iadd hx hb dL_law_888 ?_
  rw [nI_k1]
  refine va_sld hx hb hX hbl hbA hw.2 (vp_in_nI (by omega) (by omega)) dL_law_889 ?_
  refine x_ci (r := v) (I1 := I1) (X1 := X1) (x_runV (As := [.int (xs (nI (i + 1)).toNatClampNeg)]) (rest := []) C0 (c8_restore l E (n, K, len) fl X I b (xs (nI (i + 1)).toNatClampNeg) tb h8) hw 8 tb (by decide) rfl wd111 wd901 wd902 wd903 wd197 ⟨rfl, rfl⟩ hy8_restore ⟨Nat.le_of_ble_eq_true rfl, Nat.le_of_ble_eq_true rfl⟩ rfl hl.1 (Nat.le_of_ble_eq_true rfl) ⟨Nat.le_of_ble_eq_true rfl, Nat.le_of_ble_eq_true rfl⟩ dL_law_890) hw (fun H locs hw => ?_)
  refine lv_aload_n hx hb dL_law_893 rfl (lv_at hl 2 rfl) ?_
  refine lv_aload_n hx hb dL_law_894 rfl (lv_at hl 0 rfl) ?_
  refine lv_iload_n hx hb dL_law_895 rfl (lv_at hl 3 rfl) ?_
  refine lv_iconst (v := (1 : Int32)) hx hb dL_law_896 (by decide) ?_
  refine lv_iadd hx hb dL_law_897 ?_
  rw [nI_k1]
  refine va_sld hx hb hX hbl hbA hw.2 (vp_in_nI (by omega) (by omega)) dL_law_898 ?_
  refine x_ci (r := v) (I1 := I2) (X1 := X1) (x_runV (As := [.int (xs (nI (i + 1)).toNatClampNeg)]) (rest := [.int v]) C0 (c9_restore l E (n, K, len) fl X1 I1 q (xs (nI (i + 1)).toNatClampNeg) tq h9) hw 9 tq (by decide) rfl wd180 wd904 wd905 wd906 wd612 ⟨rfl, rfl⟩ hy9_restore ⟨Nat.le_of_ble_eq_true rfl, Nat.le_of_ble_eq_true rfl⟩ rfl hl.1 (Nat.le_of_ble_eq_true rfl) ⟨Nat.le_of_ble_eq_true rfl, Nat.le_of_ble_eq_true rfl⟩ dL_law_899) hw (fun H locs hw => ?_)
  refine lv_icmp_eq (tgt := 907) hx hb dL_law_902 (by decide) (fun _ => ?_) (fun q => absurd rfl q)
  exact kx _ _ H locs hw hrel2
