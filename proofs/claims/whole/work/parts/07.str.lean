/-! ===== the String methods: length, isEmpty, charAt ===== -/
section XSTR
variable {p : Program} {l : Launch} {e : Env} {R : Room} {s : State} {m : MethodId} {args : Array Value} {below : List Frame} {meth : Method} {c : Code} {H : Heap} {locs : List Loc} {cells slots : Nat} {Q : State → Prop}
variable {cc : ByteArray} {pc : Nat} {ls : Array Slot} {rest : List Value} {E : EN} {own : String} {nL : Nat} {G : GM} {I : Im} {X : Xm}
def CX.st (C0 : CX p s m args meth c E cc own nL) : ST E s s.heap := C0.2.2.2.2.2.2.2.2.2.2.2
theorem x_runVS (C0 : CX p s m args meth c E cc own nL) {y : MethodName} {bytes : ByteArray} {maxL n index : Nat} {ret : Option FieldType} {rm : Room} {Qc : Array Value → State → Outcome → State → Prop} {mc ms i : Nat} {As : List Value} (hM : MT l y bytes maxL ret rm E G I X (.ref (eK E i) :: As) Qc mc ms) (hw : WD E G I X s.heap H locs) (hi : i < 6)
    (hcode : Cond.code y bytes maxL ret ∈ GT) (hl : Cond.methodLink own index y ∈ GT) (hin : Cond.instanceMethod y ∈ GT) (hsel : Cond.selects "java/lang/String" y y ∈ GT) (hini : Cond.initialized "java/lang/String" ∈ GT) (hrm : rm.cells = mc ∧ rm.slots = ms)
    (hy : y.cls = "java/lang/String" ∧ y.cls ≠ "java/lang/invoke/MethodHandle" ∧ y.cls ≠ "java/lang/invoke/VarHandle" ∧ (parseMethodDescriptor y.desc).map (fun d => d.parameters.length) = some n) (hR : rm.frames + 1 ≤ R.frames ∧ 8 + (maxL + 11) + rm.locals ≤ R.locals)
    (hn : As.length = n) (hsz : ls.size = nL) (hcat : (rest.map fun v => v.category).sum ≤ 8) (hf : cells + mc ≤ R.cells ∧ slots + ms ≤ R.slots) (hd : decode cc pc = .ok (.invokevirtual index, 3)) :
    va_Run p l e R s m args below meth c H locs cells slots mc ms (F0 m pc ls (As.reverse ++ .ref (eK E i) :: rest)) rest (Qc (Value.ref (eK E i) :: As).toArray) (eA E) := by
  have hST := C0.st
  obtain ⟨hx, hb, hml, hown, hts, -, hS⟩ := C0
  have hT : GoodIn GT (wsV own index "java/lang/String" y (WS y bytes maxL ret)) := fun w hw => by
    rcases List.mem_append.mp hw with h | h
    · refine gt_GoodIn w ?_
      simp only [List.mem_cons, List.not_mem_nil, or_false] at h
      rcases h with rfl | rfl | rfl | rfl <;> assumption
    · exact ws_good hcode w h
  exact va_runV (As := As) (rest := rest) (Ts := GT) ⟨hx, hb, hml, hown, hts⟩ hM (cwV n hts hT rfl hrm.1 hrm.2 hy hR) ⟨PC_blind _ _ _ _ _, vk_recv hST.2.2.2.2 hi hw.2, PC_go hS hw⟩ rfl hn hsz rfl (lv_room hcat) hd hf
end XSTR
theorem hyJ0_coder : yJ0_coder_7d493.cls = "java/lang/String" ∧ yJ0_coder_7d493.cls ≠ "java/lang/invoke/MethodHandle" ∧ yJ0_coder_7d493.cls ≠ "java/lang/invoke/VarHandle" ∧ (parseMethodDescriptor yJ0_coder_7d493.desc).map (fun d => d.parameters.length) = some 0 := ⟨rfl, by decide +kernel, by decide +kernel, by decide +kernel⟩
set_option maxHeartbeats 4000000 in
set_option maxRecDepth 100000 in
theorem cJ_coder (l : Launch) (E : EN) (G : GM) (I : Im) (X : Xm) {i : Nat} (hi : i < 6) : MT l yJ0_coder_7d493 cJ0_coder_7d493 1 (some .byte) ({ frames := 0, cells := 0, slots := 0, locals := 0 } : Room) E G I X [.ref (eK E i)] (QI E G 0 I X) 0 0 := by
  refine Met.ofW (cc := cJ0_coder_7d493) (maxL := 1) (ret := (some .byte)) (by decide +kernel) rfl ?_
  intro p e s m args below meth c s₁ B hml hv
  obtain ⟨rfl, hw0, hSE⟩ := hv
  have C0 : CX p s m ([.ref (eK E i)] : List Value).toArray meth c E cJ0_coder_7d493 "java/lang/String" 1 := ⟨B.exec, B.bytes, hml, findClass_of_methodNamed B.named, fun w hw => atoms_spec (ws := WS yJ0_coder_7d493 cJ0_coder_7d493 1 (some .byte)) B.pre w (List.mem_cons_of_mem _ hw), B.notSynchronized, hSE⟩
  have hw : WD E G I X s.heap s.heap [] := ⟨hw0, va_S.rf⟩
  have hr := B.returns
  have hx := C0.1; have hb := C0.2.1; have hml := C0.2.2.1; have hown := C0.2.2.2.1; have hts := C0.2.2.2.2.1; have hT := C0.st
  have hl := lv_entry ([.ref (eK E i)]) (n := 1) (Nat.le_of_ble_eq_true rfl)
  rw [lg_entry_eq]
  generalize (lg_sl ([.ref (eK E i)]) ++ List.replicate (1 - (lg_sl ([.ref (eK E i)])).length) Slot.unset).toArray = ls at hl ⊢
  have hl : lv_has ls 1 [(0, .ref (eK E i))] := hl
  refine va_gets hx hb hT.2.2.1 hw.2 hown (hts _ wd221) (fun _ h => h) dJ0_coder_7d493_0 ?_
  refine lv_if_eq (tgt := 13) hx hb dJ0_coder_7d493_3 (by decide) (fun q => absurd q (by decide)) (fun _ => ?_)
  refine lv_aload_n hx hb dJ0_coder_7d493_6 rfl (lv_at hl 0 rfl) ?_
  refine vk_getf hx hb (hT.2.2.2.2.1 i hi).2.1 hw.2 hown (hts _ wd222) (fun _ h => h) dJ0_coder_7d493_7 ?_
  refine lv_goto (tgt := 14) hx hb dJ0_coder_7d493_10 (by decide) ?_
  exact x_zret C0 hr rfl hw dJ0_coder_7d493_14
theorem hyJ0_length : yJ0_length_8abf5.cls = "java/lang/String" ∧ yJ0_length_8abf5.cls ≠ "java/lang/invoke/MethodHandle" ∧ yJ0_length_8abf5.cls ≠ "java/lang/invoke/VarHandle" ∧ (parseMethodDescriptor yJ0_length_8abf5.desc).map (fun d => d.parameters.length) = some 0 := ⟨rfl, by decide +kernel, by decide +kernel, by decide +kernel⟩
set_option maxHeartbeats 4000000 in
set_option maxRecDepth 100000 in
theorem cJ_length (l : Launch) (E : EN) (G : GM) (I : Im) (X : Xm) {i : Nat} (hi : i < 6) : MT l yJ0_length_8abf5 cJ0_length_8abf5 1 (some .int) ({ frames := 1, cells := 0, slots := 0, locals := 20 } : Room) E G I X [.ref (eK E i)] (QI E G (nI (strN.getD i 0)) I X) 0 0 := by
  refine Met.ofW (cc := cJ0_length_8abf5) (maxL := 1) (ret := (some .int)) (by decide +kernel) rfl ?_
  intro p e s m args below meth c s₁ B hml hv
  obtain ⟨rfl, hw0, hSE⟩ := hv
  have C0 : CX p s m ([.ref (eK E i)] : List Value).toArray meth c E cJ0_length_8abf5 "java/lang/String" 1 := ⟨B.exec, B.bytes, hml, findClass_of_methodNamed B.named, fun w hw => atoms_spec (ws := WS yJ0_length_8abf5 cJ0_length_8abf5 1 (some .int)) B.pre w (List.mem_cons_of_mem _ hw), B.notSynchronized, hSE⟩
  have hw : WD E G I X s.heap s.heap [] := ⟨hw0, va_S.rf⟩
  have hr := B.returns
  have hx := C0.1; have hb := C0.2.1; have hml := C0.2.2.1; have hown := C0.2.2.2.1; have hts := C0.2.2.2.2.1; have hT := C0.st
  have hl := lv_entry ([.ref (eK E i)]) (n := 1) (Nat.le_of_ble_eq_true rfl)
  rw [lg_entry_eq]
  generalize (lg_sl ([.ref (eK E i)]) ++ List.replicate (1 - (lg_sl ([.ref (eK E i)])).length) Slot.unset).toArray = ls at hl ⊢
  have hl : lv_has ls 1 [(0, .ref (eK E i))] := hl
  refine lv_aload_n hx hb dJ0_length_8abf5_0 rfl (lv_at hl 0 rfl) ?_
  refine vk_getf hx hb (hT.2.2.2.2.1 i hi).2.2.1 hw.2 hown (hts _ wd220) (fun _ h => h) dJ0_length_8abf5_1 ?_
  refine va_tlen hx hb (hT.2.2.2.2.1 i hi).2.2.2 hw.2 rfl dJ0_length_8abf5_4 ?_
  refine lv_aload_n hx hb dJ0_length_8abf5_5 rfl (lv_at hl 0 rfl) ?_
  refine x_ci (r := 0) (I1 := I) (X1 := X) (x_runVS (As := []) (rest := [.int (Int32.ofNat (strN.getD i 0))]) C0 (cJ_coder l E G I X hi) hw hi wd16 wd223 wd224 wd225 wd226 ⟨rfl, rfl⟩ hyJ0_coder ⟨Nat.le_of_ble_eq_true rfl, Nat.le_of_ble_eq_true rfl⟩ rfl hl.1 (Nat.le_of_ble_eq_true rfl) ⟨Nat.zero_le _, Nat.zero_le _⟩ dJ0_length_8abf5_6) hw (fun H locs hw => ?_)
  refine lv_ishr hx hb dJ0_length_8abf5_9 ?_
  have e : (Int32.ofNat (strN.getD i 0)) >>> ((0 : Int32) &&& 31) = nI (strN.getD i 0) := by
    have : i = 0 ∨ i = 1 ∨ i = 2 ∨ i = 3 ∨ i = 4 ∨ i = 5 := by omega
    rcases this with rfl | rfl | rfl | rfl | rfl | rfl <;> decide
  rw [e]
  exact x_iret C0 hr hw dJ0_length_8abf5_10
theorem hyJ0_isEmpty : yJ0_isEmpty_aae02.cls = "java/lang/String" ∧ yJ0_isEmpty_aae02.cls ≠ "java/lang/invoke/MethodHandle" ∧ yJ0_isEmpty_aae02.cls ≠ "java/lang/invoke/VarHandle" ∧ (parseMethodDescriptor yJ0_isEmpty_aae02.desc).map (fun d => d.parameters.length) = some 0 := ⟨rfl, by decide +kernel, by decide +kernel, by decide +kernel⟩
set_option maxHeartbeats 4000000 in
set_option maxRecDepth 100000 in
theorem cJ_isEmpty (l : Launch) (E : EN) (G : GM) (I : Im) (X : Xm) {i : Nat} (hi : i < 6) : MT l yJ0_isEmpty_aae02 cJ0_isEmpty_aae02 1 (some .boolean) ({ frames := 0, cells := 0, slots := 0, locals := 0 } : Room) E G I X [.ref (eK E i)] (QI E G (if strN.getD i 0 = 0 then (1 : Int32) else 0) I X) 0 0 := by
  refine Met.ofW (cc := cJ0_isEmpty_aae02) (maxL := 1) (ret := (some .boolean)) (by decide +kernel) rfl ?_
  intro p e s m args below meth c s₁ B hml hv
  obtain ⟨rfl, hw0, hSE⟩ := hv
  have C0 : CX p s m ([.ref (eK E i)] : List Value).toArray meth c E cJ0_isEmpty_aae02 "java/lang/String" 1 := ⟨B.exec, B.bytes, hml, findClass_of_methodNamed B.named, fun w hw => atoms_spec (ws := WS yJ0_isEmpty_aae02 cJ0_isEmpty_aae02 1 (some .boolean)) B.pre w (List.mem_cons_of_mem _ hw), B.notSynchronized, hSE⟩
  have hw : WD E G I X s.heap s.heap [] := ⟨hw0, va_S.rf⟩
  have hr := B.returns
  have hx := C0.1; have hb := C0.2.1; have hml := C0.2.2.1; have hown := C0.2.2.2.1; have hts := C0.2.2.2.2.1; have hT := C0.st
  have hl := lv_entry ([.ref (eK E i)]) (n := 1) (Nat.le_of_ble_eq_true rfl)
  rw [lg_entry_eq]
  generalize (lg_sl ([.ref (eK E i)]) ++ List.replicate (1 - (lg_sl ([.ref (eK E i)])).length) Slot.unset).toArray = ls at hl ⊢
  have hl : lv_has ls 1 [(0, .ref (eK E i))] := hl
  have hn : (Int32.ofNat (strN.getD i 0) = 0) ↔ (strN.getD i 0 = 0) := by
    have : i = 0 ∨ i = 1 ∨ i = 2 ∨ i = 3 ∨ i = 4 ∨ i = 5 := by omega
    rcases this with rfl | rfl | rfl | rfl | rfl | rfl <;> decide
  refine lv_aload_n hx hb dJ0_isEmpty_aae02_0 rfl (lv_at hl 0 rfl) ?_
  refine vk_getf hx hb (hT.2.2.2.2.1 i hi).2.2.1 hw.2 hown (hts _ wd220) (fun _ h => h) dJ0_isEmpty_aae02_1 ?_
  refine va_tlen hx hb (hT.2.2.2.2.1 i hi).2.2.2 hw.2 rfl dJ0_isEmpty_aae02_4 ?_
  refine lv_if_ne (tgt := 12) hx hb dJ0_isEmpty_aae02_5 (by decide) (fun q => ?_) (fun q => ?_)
  · refine lv_iconst (v := (0 : Int32)) hx hb dJ0_isEmpty_aae02_12 (by decide) ?_
    rw [if_neg (fun z => q (hn.mpr z))]
    exact x_zret C0 hr rfl hw dJ0_isEmpty_aae02_13
  · refine lv_iconst (v := (1 : Int32)) hx hb dJ0_isEmpty_aae02_8 (by decide) ?_
    refine lv_goto (tgt := 13) hx hb dJ0_isEmpty_aae02_9 (by decide) ?_
    rw [if_pos (hn.mp q)]
    exact x_zret C0 hr rfl hw dJ0_isEmpty_aae02_13
theorem hyJ0_isLatin1 : yJ0_isLatin1_aae02.cls = "java/lang/String" ∧ yJ0_isLatin1_aae02.cls ≠ "java/lang/invoke/MethodHandle" ∧ yJ0_isLatin1_aae02.cls ≠ "java/lang/invoke/VarHandle" ∧ (parseMethodDescriptor yJ0_isLatin1_aae02.desc).map (fun d => d.parameters.length) = some 0 := ⟨rfl, by decide +kernel, by decide +kernel, by decide +kernel⟩
set_option maxHeartbeats 4000000 in
set_option maxRecDepth 100000 in
theorem cJ_isLatin1 (l : Launch) (E : EN) (G : GM) (I : Im) (X : Xm) {i : Nat} (hi : i < 6) : MT l yJ0_isLatin1_aae02 cJ0_isLatin1_aae02 1 (some .boolean) ({ frames := 0, cells := 0, slots := 0, locals := 0 } : Room) E G I X [.ref (eK E i)] (QI E G 1 I X) 0 0 := by
  refine Met.ofW (cc := cJ0_isLatin1_aae02) (maxL := 1) (ret := (some .boolean)) (by decide +kernel) rfl ?_
  intro p e s m args below meth c s₁ B hml hv
  obtain ⟨rfl, hw0, hSE⟩ := hv
  have C0 : CX p s m ([.ref (eK E i)] : List Value).toArray meth c E cJ0_isLatin1_aae02 "java/lang/String" 1 := ⟨B.exec, B.bytes, hml, findClass_of_methodNamed B.named, fun w hw => atoms_spec (ws := WS yJ0_isLatin1_aae02 cJ0_isLatin1_aae02 1 (some .boolean)) B.pre w (List.mem_cons_of_mem _ hw), B.notSynchronized, hSE⟩
  have hw : WD E G I X s.heap s.heap [] := ⟨hw0, va_S.rf⟩
  have hr := B.returns
  have hx := C0.1; have hb := C0.2.1; have hml := C0.2.2.1; have hown := C0.2.2.2.1; have hts := C0.2.2.2.2.1; have hT := C0.st
  have hl := lv_entry ([.ref (eK E i)]) (n := 1) (Nat.le_of_ble_eq_true rfl)
  rw [lg_entry_eq]
  generalize (lg_sl ([.ref (eK E i)]) ++ List.replicate (1 - (lg_sl ([.ref (eK E i)])).length) Slot.unset).toArray = ls at hl ⊢
  have hl : lv_has ls 1 [(0, .ref (eK E i))] := hl
  refine va_gets hx hb hT.2.2.1 hw.2 hown (hts _ wd221) (fun _ h => h) dJ0_isLatin1_aae02_0 ?_
  refine lv_if_eq (tgt := 17) hx hb dJ0_isLatin1_aae02_3 (by decide) (fun q => absurd q (by decide)) (fun _ => ?_)
  refine lv_aload_n hx hb dJ0_isLatin1_aae02_6 rfl (lv_at hl 0 rfl) ?_
  refine vk_getf hx hb (hT.2.2.2.2.1 i hi).2.1 hw.2 hown (hts _ wd222) (fun _ h => h) dJ0_isLatin1_aae02_7 ?_
  refine lv_if_ne (tgt := 17) hx hb dJ0_isLatin1_aae02_10 (by decide) (fun q => absurd rfl q) (fun _ => ?_)
  refine lv_iconst (v := (1 : Int32)) hx hb dJ0_isLatin1_aae02_13 (by decide) ?_
  refine lv_goto (tgt := 18) hx hb dJ0_isLatin1_aae02_14 (by decide) ?_
  exact x_zret C0 hr rfl hw dJ0_isLatin1_aae02_18
theorem hyJ3_checkIndex : yJ3_checkIndex_8e157.cls ≠ "java/lang/invoke/MethodHandle" ∧ yJ3_checkIndex_8e157.cls ≠ "java/lang/invoke/VarHandle" ∧ (parseMethodDescriptor yJ3_checkIndex_8e157.desc).map (fun d => d.parameters.length) = some 3 := ⟨by decide +kernel, by decide +kernel, by decide +kernel⟩
theorem hyJ0_checkIndex : yJ0_checkIndex_df160.cls ≠ "java/lang/invoke/MethodHandle" ∧ yJ0_checkIndex_df160.cls ≠ "java/lang/invoke/VarHandle" ∧ (parseMethodDescriptor yJ0_checkIndex_df160.desc).map (fun d => d.parameters.length) = some 2 := ⟨by decide +kernel, by decide +kernel, by decide +kernel⟩
theorem hyJ1_charAt : yJ1_charAt_3b067.cls ≠ "java/lang/invoke/MethodHandle" ∧ yJ1_charAt_3b067.cls ≠ "java/lang/invoke/VarHandle" ∧ (parseMethodDescriptor yJ1_charAt_3b067.desc).map (fun d => d.parameters.length) = some 2 := ⟨by decide +kernel, by decide +kernel, by decide +kernel⟩
set_option maxHeartbeats 4000000 in
set_option maxRecDepth 100000 in
theorem cJ_check3N (l : Launch) (E : EN) (G : GM) (I : Im) (X : Xm) {a b : Int32} (h1 : ¬ a < 0) (h2 : a < b) : MT l yJ3_checkIndex_8e157 cJ3_checkIndex_8e157 3 (some .int) ({ frames := 0, cells := 0, slots := 0, locals := 0 } : Room) E G I X [.int a, .int b, .null] (QI E G a I X) 0 0 := by
  refine Met.ofW (cc := cJ3_checkIndex_8e157) (maxL := 3) (ret := (some .int)) (by decide +kernel) rfl ?_
  intro p e s m args below meth c s₁ B hml hv
  obtain ⟨rfl, hw0, hSE⟩ := hv
  have C0 : CX p s m ([.int a, .int b, .null] : List Value).toArray meth c E cJ3_checkIndex_8e157 "jdk/internal/util/Preconditions" 3 := ⟨B.exec, B.bytes, hml, findClass_of_methodNamed B.named, fun w hw => atoms_spec (ws := WS yJ3_checkIndex_8e157 cJ3_checkIndex_8e157 3 (some .int)) B.pre w (List.mem_cons_of_mem _ hw), B.notSynchronized, hSE⟩
  have hw : WD E G I X s.heap s.heap [] := ⟨hw0, va_S.rf⟩
  have hr := B.returns
  have hx := C0.1; have hb := C0.2.1; have hml := C0.2.2.1; have hown := C0.2.2.2.1; have hts := C0.2.2.2.2.1; have hT := C0.st
  have hl := lv_entry ([.int a, .int b, .null]) (n := 3) (Nat.le_of_ble_eq_true rfl)
  rw [lg_entry_eq]
  generalize (lg_sl ([.int a, .int b, .null]) ++ List.replicate (3 - (lg_sl ([.int a, .int b, .null])).length) Slot.unset).toArray = ls at hl ⊢
  have hl : lv_has ls 3 [(0, .int a), (1, .int b), (2, .null)] := hl
  refine lv_iload_n hx hb dJ3_checkIndex_8e157_0 rfl (lv_at hl 0 rfl) ?_
  refine lv_if_lt (tgt := 9) hx hb dJ3_checkIndex_8e157_1 (by decide) (fun q => absurd q h1) (fun _ => ?_)
  refine lv_iload_n hx hb dJ3_checkIndex_8e157_4 rfl (lv_at hl 0 rfl) ?_
  refine lv_iload_n hx hb dJ3_checkIndex_8e157_5 rfl (lv_at hl 1 rfl) ?_
  refine lv_icmp_lt (tgt := 16) hx hb dJ3_checkIndex_8e157_6 (by decide) (fun _ => ?_) (fun q => absurd h2 q)
  refine lv_iload_n hx hb dJ3_checkIndex_8e157_16 rfl (lv_at hl 0 rfl) ?_
  exact x_iret C0 hr hw dJ3_checkIndex_8e157_17
set_option maxHeartbeats 4000000 in
set_option maxRecDepth 100000 in
theorem cJ_check3R (l : Launch) (E : EN) (G : GM) (I : Im) (X : Xm) {a b : Int32} {o : Nat} (h1 : ¬ a < 0) (h2 : a < b) : MT l yJ3_checkIndex_8e157 cJ3_checkIndex_8e157 3 (some .int) ({ frames := 0, cells := 0, slots := 0, locals := 0 } : Room) E G I X [.int a, .int b, .ref o] (QI E G a I X) 0 0 := by
  refine Met.ofW (cc := cJ3_checkIndex_8e157) (maxL := 3) (ret := (some .int)) (by decide +kernel) rfl ?_
  intro p e s m args below meth c s₁ B hml hv
  obtain ⟨rfl, hw0, hSE⟩ := hv
  have C0 : CX p s m ([.int a, .int b, .ref o] : List Value).toArray meth c E cJ3_checkIndex_8e157 "jdk/internal/util/Preconditions" 3 := ⟨B.exec, B.bytes, hml, findClass_of_methodNamed B.named, fun w hw => atoms_spec (ws := WS yJ3_checkIndex_8e157 cJ3_checkIndex_8e157 3 (some .int)) B.pre w (List.mem_cons_of_mem _ hw), B.notSynchronized, hSE⟩
  have hw : WD E G I X s.heap s.heap [] := ⟨hw0, va_S.rf⟩
  have hr := B.returns
  have hx := C0.1; have hb := C0.2.1; have hml := C0.2.2.1; have hown := C0.2.2.2.1; have hts := C0.2.2.2.2.1; have hT := C0.st
  have hl := lv_entry ([.int a, .int b, .ref o]) (n := 3) (Nat.le_of_ble_eq_true rfl)
  rw [lg_entry_eq]
  generalize (lg_sl ([.int a, .int b, .ref o]) ++ List.replicate (3 - (lg_sl ([.int a, .int b, .ref o])).length) Slot.unset).toArray = ls at hl ⊢
  have hl : lv_has ls 3 [(0, .int a), (1, .int b), (2, .ref o)] := hl
  refine lv_iload_n hx hb dJ3_checkIndex_8e157_0 rfl (lv_at hl 0 rfl) ?_
  refine lv_if_lt (tgt := 9) hx hb dJ3_checkIndex_8e157_1 (by decide) (fun q => absurd q h1) (fun _ => ?_)
  refine lv_iload_n hx hb dJ3_checkIndex_8e157_4 rfl (lv_at hl 0 rfl) ?_
  refine lv_iload_n hx hb dJ3_checkIndex_8e157_5 rfl (lv_at hl 1 rfl) ?_
  refine lv_icmp_lt (tgt := 16) hx hb dJ3_checkIndex_8e157_6 (by decide) (fun _ => ?_) (fun q => absurd h2 q)
  refine lv_iload_n hx hb dJ3_checkIndex_8e157_16 rfl (lv_at hl 0 rfl) ?_
  exact x_iret C0 hr hw dJ3_checkIndex_8e157_17
theorem cJ_check3 (l : Launch) (E : EN) (G : GM) (I : Im) (X : Xm) {a b : Int32} {o : Option Nat} (h1 : ¬ a < 0) (h2 : a < b) : MT l yJ3_checkIndex_8e157 cJ3_checkIndex_8e157 3 (some .int) ({ frames := 0, cells := 0, slots := 0, locals := 0 } : Room) E G I X [.int a, .int b, va_rf o] (QI E G a I X) 0 0 := by
  cases o with
  | none => exact cJ_check3N l E G I X h1 h2
  | some t => exact cJ_check3R l E G I X h1 h2
set_option maxHeartbeats 4000000 in
set_option maxRecDepth 100000 in
theorem cJ_check2 (l : Launch) (E : EN) (G : GM) (I : Im) (X : Xm) {a b : Int32} (h1 : ¬ a < 0) (h2 : a < b) : MT l yJ0_checkIndex_df160 cJ0_checkIndex_df160 2 none ({ frames := 1, cells := 0, slots := 0, locals := 22 } : Room) E G I X [.int a, .int b] (QV E G I X) 0 0 := by
  refine Met.ofW (cc := cJ0_checkIndex_df160) (maxL := 2) (ret := none) (by decide +kernel) rfl ?_
  intro p e s m args below meth c s₁ B hml hv
  obtain ⟨rfl, hw0, hSE⟩ := hv
  have C0 : CX p s m ([.int a, .int b] : List Value).toArray meth c E cJ0_checkIndex_df160 "java/lang/String" 2 := ⟨B.exec, B.bytes, hml, findClass_of_methodNamed B.named, fun w hw => atoms_spec (ws := WS yJ0_checkIndex_df160 cJ0_checkIndex_df160 2 none) B.pre w (List.mem_cons_of_mem _ hw), B.notSynchronized, hSE⟩
  have hw : WD E G I X s.heap s.heap [] := ⟨hw0, va_S.rf⟩
  have hr := B.returns
  have hx := C0.1; have hb := C0.2.1; have hml := C0.2.2.1; have hown := C0.2.2.2.1; have hts := C0.2.2.2.2.1; have hT := C0.st
  have hl := lv_entry ([.int a, .int b]) (n := 2) (Nat.le_of_ble_eq_true rfl)
  rw [lg_entry_eq]
  generalize (lg_sl ([.int a, .int b]) ++ List.replicate (2 - (lg_sl ([.int a, .int b])).length) Slot.unset).toArray = ls at hl ⊢
  have hl : lv_has ls 2 [(0, .int a), (1, .int b)] := hl
  refine lv_iload_n hx hb dJ0_checkIndex_df160_0 rfl (lv_at hl 0 rfl) ?_
  refine lv_iload_n hx hb dJ0_checkIndex_df160_1 rfl (lv_at hl 1 rfl) ?_
  have hZ : ∃ o : Option Nat, va_Z "jdk/internal/util/Preconditions" "SIOOBE_FORMATTER" "Ljava/util/function/BiFunction;" (va_rf o) (eA E) s s.heap := by
    rcases hT.2.2.2.1 with h | ⟨t, h⟩
    · exact ⟨none, h⟩
    · exact ⟨some t, h⟩
  obtain ⟨o, hZ⟩ := hZ
  refine va_gets hx hb hZ hw.2 hown (hts _ wd227) (fun _ h => h) dJ0_checkIndex_df160_2 ?_
  refine x_ci (r := a) (I1 := I) (X1 := X) (x_runSX (As := [.int a, .int b, va_rf o]) (rest := []) C0 (cJ_check3 l E G I X h1 h2) hw wd19 wd228 wd229 wd230 ⟨rfl, rfl⟩ hyJ3_checkIndex ⟨Nat.le_of_ble_eq_true rfl, Nat.le_of_ble_eq_true rfl⟩ rfl hl.1 (Nat.le_of_ble_eq_true rfl) ⟨Nat.zero_le _, Nat.zero_le _⟩ dJ0_checkIndex_df160_5) hw (fun H locs hw => ?_)
  refine lv_pop hx hb dJ0_checkIndex_df160_8 rfl ?_
  exact x_vret C0 hr hw dJ0_checkIndex_df160_9
set_option maxHeartbeats 4000000 in
set_option maxRecDepth 100000 in
theorem cJ_chLat (l : Launch) (E : EN) (G : GM) (I : Im) (X : Xm) {i : Nat} (hi : i < 6) {j : Int32} (hj : inb j (strN.getD i 0) = true) : MT l yJ1_charAt_3b067 cJ1_charAt_3b067 2 (some .char) ({ frames := 2, cells := 0, slots := 0, locals := 43 } : Room) E G I X [.ref (eV E i), .int j] (QI E G ((strB.getD i []).getD j.toNatClampNeg 0) I X) 0 0 := by
  refine Met.ofW (cc := cJ1_charAt_3b067) (maxL := 2) (ret := (some .char)) (by decide +kernel) rfl ?_
  intro p e s m args below meth c s₁ B hml hv
  obtain ⟨rfl, hw0, hSE⟩ := hv
  have C0 : CX p s m ([.ref (eV E i), .int j] : List Value).toArray meth c E cJ1_charAt_3b067 "java/lang/StringLatin1" 2 := ⟨B.exec, B.bytes, hml, findClass_of_methodNamed B.named, fun w hw => atoms_spec (ws := WS yJ1_charAt_3b067 cJ1_charAt_3b067 2 (some .char)) B.pre w (List.mem_cons_of_mem _ hw), B.notSynchronized, hSE⟩
  have hw : WD E G I X s.heap s.heap [] := ⟨hw0, va_S.rf⟩
  have hr := B.returns
  have hx := C0.1; have hb := C0.2.1; have hml := C0.2.2.1; have hown := C0.2.2.2.1; have hts := C0.2.2.2.2.1; have hT := C0.st
  have hl := lv_entry ([.ref (eV E i), .int j]) (n := 2) (Nat.le_of_ble_eq_true rfl)
  rw [lg_entry_eq]
  generalize (lg_sl ([.ref (eV E i), .int j]) ++ List.replicate (2 - (lg_sl ([.ref (eV E i), .int j])).length) Slot.unset).toArray = ls at hl ⊢
  have hl : lv_has ls 2 [(0, .ref (eV E i)), (1, .int j)] := hl
  have hj0 := inb_in hj
  have hj1 := of_decide_eq_true hj
  have hs : strN.getD i 0 ≤ 5 := by
    have : i = 0 ∨ i = 1 ∨ i = 2 ∨ i = 3 ∨ i = 4 ∨ i = 5 := by omega
    rcases this with rfl | rfl | rfl | rfl | rfl | rfl <;> decide
  have g1 : ¬ j < 0 := by rw [Int32.lt_iff_toInt_lt, Int32.toInt_zero]; omega
  have g2 : j < Int32.ofNat (strN.getD i 0) := by
    rw [Int32.lt_iff_toInt_lt, show (Int32.ofNat (strN.getD i 0)) = nI (strN.getD i 0) from rfl, nI_toInt (by omega)]; omega
  refine lv_iload_n hx hb dJ1_charAt_3b067_0 rfl (lv_at hl 1 rfl) ?_
  refine lv_aload_n hx hb dJ1_charAt_3b067_1 rfl (lv_at hl 0 rfl) ?_
  refine va_tlen hx hb (hT.2.2.2.2.1 i hi).2.2.2 hw.2 rfl dJ1_charAt_3b067_2 ?_
  refine x_cv (I1 := I) (X1 := X) (x_runSX (As := [.int j, .int (Int32.ofNat (strN.getD i 0))]) (rest := []) C0 (cJ_check2 l E G I X g1 g2) hw wd20 wd231 wd232 wd226 ⟨rfl, rfl⟩ hyJ0_checkIndex ⟨Nat.le_of_ble_eq_true rfl, Nat.le_of_ble_eq_true rfl⟩ rfl hl.1 (Nat.le_of_ble_eq_true rfl) ⟨Nat.zero_le _, Nat.zero_le _⟩ dJ1_charAt_3b067_3) hw (fun H locs hw => ?_)
  refine lv_aload_n hx hb dJ1_charAt_3b067_6 rfl (lv_at hl 0 rfl) ?_
  refine lv_iload_n hx hb dJ1_charAt_3b067_7 rfl (lv_at hl 1 rfl) ?_
  refine va_tb hx hb (hT.2.2.2.2.1 i hi).2.2.2 hw.2 hj0 rfl dJ1_charAt_3b067_8 ?_
  refine lv_sipush (v := (255 : Int32)) hx hb dJ1_charAt_3b067_9 (by decide) ?_
  refine lv_iand hx hb dJ1_charAt_3b067_12 ?_
  have hjn : j.toNatClampNeg < strN.getD i 0 := by
    rw [← Int32.toNat_toInt]; omega
  have e : ((((strB.getD i []).getD j.toNatClampNeg 0) &&& 255).toUInt32 % 65536).toInt32 = (strB.getD i []).getD j.toNatClampNeg 0 ∧ narrow .char (.int ((strB.getD i []).getD j.toNatClampNeg 0)) = .int ((strB.getD i []).getD j.toNatClampNeg 0) := by
    have hL : ∀ i < 6, ∀ n < strN.getD i 0, ((((strB.getD i []).getD n 0) &&& 255).toUInt32 % 65536).toInt32 = (strB.getD i []).getD n 0 ∧ narrow .char (.int ((strB.getD i []).getD n 0)) = .int ((strB.getD i []).getD n 0) := by decide
    exact hL i hi _ hjn
  refine lv_i2c hx hb dJ1_charAt_3b067_13 e.1 ?_
  exact x_zret C0 hr e.2 hw dJ1_charAt_3b067_14
theorem hyJ0_charAt : yJ0_charAt_5068e.cls = "java/lang/String" ∧ yJ0_charAt_5068e.cls ≠ "java/lang/invoke/MethodHandle" ∧ yJ0_charAt_5068e.cls ≠ "java/lang/invoke/VarHandle" ∧ (parseMethodDescriptor yJ0_charAt_5068e.desc).map (fun d => d.parameters.length) = some 1 := ⟨rfl, by decide +kernel, by decide +kernel, by decide +kernel⟩
set_option maxHeartbeats 4000000 in
set_option maxRecDepth 100000 in
theorem cJ_charAt (l : Launch) (E : EN) (G : GM) (I : Im) (X : Xm) {i : Nat} (hi : i < 6) {j : Int32} (hj : inb j (strN.getD i 0) = true) : MT l yJ0_charAt_5068e cJ0_charAt_5068e 2 (some .char) ({ frames := 3, cells := 0, slots := 0, locals := 64 } : Room) E G I X [.ref (eK E i), .int j] (QI E G ((strB.getD i []).getD j.toNatClampNeg 0) I X) 0 0 := by
  refine Met.ofW (cc := cJ0_charAt_5068e) (maxL := 2) (ret := (some .char)) (by decide +kernel) rfl ?_
  intro p e s m args below meth c s₁ B hml hv
  obtain ⟨rfl, hw0, hSE⟩ := hv
  have C0 : CX p s m ([.ref (eK E i), .int j] : List Value).toArray meth c E cJ0_charAt_5068e "java/lang/String" 2 := ⟨B.exec, B.bytes, hml, findClass_of_methodNamed B.named, fun w hw => atoms_spec (ws := WS yJ0_charAt_5068e cJ0_charAt_5068e 2 (some .char)) B.pre w (List.mem_cons_of_mem _ hw), B.notSynchronized, hSE⟩
  have hw : WD E G I X s.heap s.heap [] := ⟨hw0, va_S.rf⟩
  have hr := B.returns
  have hx := C0.1; have hb := C0.2.1; have hml := C0.2.2.1; have hown := C0.2.2.2.1; have hts := C0.2.2.2.2.1; have hT := C0.st
  have hl := lv_entry ([.ref (eK E i), .int j]) (n := 2) (Nat.le_of_ble_eq_true rfl)
  rw [lg_entry_eq]
  generalize (lg_sl ([.ref (eK E i), .int j]) ++ List.replicate (2 - (lg_sl ([.ref (eK E i), .int j])).length) Slot.unset).toArray = ls at hl ⊢
  have hl : lv_has ls 2 [(0, .ref (eK E i)), (1, .int j)] := hl
  have hjn : j.toNatClampNeg < strN.getD i 0 := by
    have hj1 := of_decide_eq_true hj
    rw [← Int32.toNat_toInt]; omega
  have e : narrow .char (.int ((strB.getD i []).getD j.toNatClampNeg 0)) = .int ((strB.getD i []).getD j.toNatClampNeg 0) := by
    have hL : ∀ i < 6, ∀ n < strN.getD i 0, narrow .char (.int ((strB.getD i []).getD n 0)) = .int ((strB.getD i []).getD n 0) := by decide
    exact hL i hi _ hjn
  refine lv_aload_n hx hb dJ0_charAt_5068e_0 rfl (lv_at hl 0 rfl) ?_
  refine x_ci (r := 1) (I1 := I) (X1 := X) (x_runVS (As := []) (rest := []) C0 (cJ_isLatin1 l E G I X hi) hw hi wd18 wd244 wd245 wd246 wd226 ⟨rfl, rfl⟩ hyJ0_isLatin1 ⟨Nat.le_of_ble_eq_true rfl, Nat.le_of_ble_eq_true rfl⟩ rfl hl.1 (Nat.le_of_ble_eq_true rfl) ⟨Nat.zero_le _, Nat.zero_le _⟩ dJ0_charAt_5068e_1) hw (fun H locs hw => ?_)
  refine lv_if_eq (tgt := 16) hx hb dJ0_charAt_5068e_4 (by decide) (fun q => absurd q (by decide)) (fun _ => ?_)
  refine lv_aload_n hx hb dJ0_charAt_5068e_7 rfl (lv_at hl 0 rfl) ?_
  refine vk_getf hx hb (hT.2.2.2.2.1 i hi).2.2.1 hw.2 hown (hts _ wd220) (fun _ h => h) dJ0_charAt_5068e_8 ?_
  refine lv_iload_n hx hb dJ0_charAt_5068e_11 rfl (lv_at hl 1 rfl) ?_
  refine x_ci (r := (strB.getD i []).getD j.toNatClampNeg 0) (I1 := I) (X1 := X) (x_runSX (As := [.ref (eV E i), .int j]) (rest := []) C0 (cJ_chLat l E G I X hi hj) hw wd21 wd247 wd248 wd249 ⟨rfl, rfl⟩ hyJ1_charAt ⟨Nat.le_of_ble_eq_true rfl, Nat.le_of_ble_eq_true rfl⟩ rfl hl.1 (Nat.le_of_ble_eq_true rfl) ⟨Nat.zero_le _, Nat.zero_le _⟩ dJ0_charAt_5068e_12) hw (fun H locs hw => ?_)
  exact x_zret C0 hr e hw dJ0_charAt_5068e_15
section XSTR2
variable {p : Program} {l : Launch} {e : Env} {R : Room} {s : State} {m : MethodId} {args : Array Value} {below : List Frame} {meth : Method} {c : Code} {H : Heap} {locs : List Loc} {cells slots : Nat} {Q : State → Prop}
variable {cc : ByteArray} {pc : Nat} {ls : Array Slot} {rest : List Value} {E : EN} {nL : Nat} {G : GM} {I : Im} {X : Xm}
theorem x_strLength (C0 : CX p s m args meth c E cc RX3 nL) (hw : WD E G I X s.heap H locs) {v : Nat} (hi : v < 6) (hsz : ls.size = nL) (h1 : 2 ≤ R.frames) (h2 : 40 ≤ R.locals) (hcat : (rest.map fun v => v.category).sum ≤ 8) (hc : cells ≤ R.cells ∧ slots ≤ R.slots) (hd : decode cc pc = .ok (.invokevirtual 52, 3))
    (kk : ∀ (H : Heap) (locs : List Loc), WD E G I X s.heap H locs → W p l e R s m args below meth c H locs cells slots Q (F0 m (pc + 3) ls (.int (nI (strN.getD v 0)) :: rest))) : W p l e R s m args below meth c H locs cells slots Q (F0 m pc ls (.ref (eK E v) :: rest)) :=
  x_ci (I1 := I) (X1 := X) (x_runVS (As := []) (rest := rest) C0 (cJ_length l E G I X hi) hw hi wd17 wd270 wd271 wd272 wd226 ⟨rfl, rfl⟩ hyJ0_length ⟨h1, h2⟩ rfl hsz hcat hc hd) hw kk
theorem x_strEmpty (C0 : CX p s m args meth c E cc RX3 nL) (hw : WD E G I X s.heap H locs) {v : Nat} (hi : v < 6) (hsz : ls.size = nL) (h1 : 1 ≤ R.frames) (h2 : 20 ≤ R.locals) (hcat : (rest.map fun v => v.category).sum ≤ 8) (hc : cells ≤ R.cells ∧ slots ≤ R.slots) (hd : decode cc pc = .ok (.invokevirtual 44, 3))
    (kk : ∀ (H : Heap) (locs : List Loc), WD E G I X s.heap H locs → W p l e R s m args below meth c H locs cells slots Q (F0 m (pc + 3) ls (.int (if strN.getD v 0 = 0 then (1 : Int32) else 0) :: rest))) : W p l e R s m args below meth c H locs cells slots Q (F0 m pc ls (.ref (eK E v) :: rest)) :=
  x_ci (I1 := I) (X1 := X) (x_runVS (As := []) (rest := rest) C0 (cJ_isEmpty l E G I X hi) hw hi wd15 wd267 wd268 wd269 wd226 ⟨rfl, rfl⟩ hyJ0_isEmpty ⟨h1, h2⟩ rfl hsz hcat hc hd) hw kk
theorem x_strCharAt (C0 : CX p s m args meth c E cc RX3 nL) (hw : WD E G I X s.heap H locs) {v : Nat} (hi : v < 6) {j : Int32} (hj : inb j (strN.getD v 0) = true) (hl : Cond.methodLink RX3 55 yJ0_charAt_5068e ∈ GT) (hsz : ls.size = nL) (h1 : 4 ≤ R.frames) (h2 : 85 ≤ R.locals) (hcat : (rest.map fun v => v.category).sum ≤ 8) (hc : cells ≤ R.cells ∧ slots ≤ R.slots) (hd : decode cc pc = .ok (.invokevirtual 55, 3))
    (kk : ∀ (H : Heap) (locs : List Loc), WD E G I X s.heap H locs → W p l e R s m args below meth c H locs cells slots Q (F0 m (pc + 3) ls (.int ((strB.getD v []).getD j.toNatClampNeg 0) :: rest))) : W p l e R s m args below meth c H locs cells slots Q (F0 m pc ls (.int j :: .ref (eK E v) :: rest)) :=
  x_ci (I1 := I) (X1 := X) (x_runVS (As := [.int j]) (rest := rest) C0 (cJ_charAt l E G I X hi hj) hw hi wd26 hl wd274 wd275 wd226 ⟨rfl, rfl⟩ hyJ0_charAt ⟨h1, h2⟩ rfl hsz hcat hc hd) hw kk
end XSTR2
