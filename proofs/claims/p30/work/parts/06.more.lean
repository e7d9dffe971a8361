/-! ===== small checks and the rows that use them ===== -/
def isch (v : Int32) : Bool := decide (0 ≤ v.toInt ∧ v.toInt < 65536)
def isbl (v : Int32) : Bool := decide (v = 0 ∨ v = 1)
def cpok (sp dp n : Int32) (l0 l1 : Nat) : Bool := decide (0 ≤ sp.toInt ∧ 0 ≤ dp.toInt ∧ 0 ≤ n.toInt ∧ sp.toNatClampNeg + n.toNatClampNeg ≤ l0 ∧ dp.toNatClampNeg + n.toNatClampNeg ≤ l1)
theorem isch_eq {v : Int32} (h : isch v = true) : ∃ q : Nat, q < 65536 ∧ v = nI q := by
  have h := of_decide_eq_true h
  refine ⟨v.toInt.toNat, by omega, Int32.toInt_inj.mp ?_⟩
  rw [nI_toInt (by omega)]
  omega
theorem isch_nar {v : Int32} (h : isch v = true) : narrow .char (.int v) = .int v := by
  obtain ⟨q, hq, rfl⟩ := isch_eq h
  exact (pk_charN hq).1
theorem isch_fit {v : Int32} (h : isch v = true) : fits .char (.int v) = true := by
  obtain ⟨q, hq, rfl⟩ := isch_eq h
  exact (pk_charN hq).2
theorem isch_vp {v : Int32} (h : isch v = true) : vp_nar .char v = v := by
  have e := isch_nar h
  unfold vp_nar
  rw [e]
theorem isbl_nar {v : Int32} (h : isbl v = true) : narrow .boolean (.int v) = .int v := by
  have h := of_decide_eq_true h
  rcases h with rfl | rfl <;> decide
theorem isbl_fit {v : Int32} (h : isbl v = true) : fits .boolean (.int v) = true := by
  have h := of_decide_eq_true h
  rcases h with rfl | rfl <;> decide
theorem va_rf_cat (o : Option Nat) : (va_rf o).category = 1 := by cases o <;> rfl
theorem tsw_ne {x : Int32} (k : Int32) (h : ¬ x = k) {a : Int} (hk : k.toInt = a) : ¬ x.toInt = a := fun q => h (Int32.toInt_inj.mp (q.trans hk.symm))
section XM
variable {p : Program} {l : Launch} {e : Env} {R : Room} {s : State} {m : MethodId} {args : Array Value} {below : List Frame} {meth : Method} {c : Code} {H : Heap} {locs : List Loc} {cells slots : Nat} {Q : State → Prop}
variable {cc : ByteArray} {pc : Nat} {ls : Array Slot} {rest : List Value} {E : EN} {own : String} {nL : Nat} {G : GM} {I : Im} {X : Xm}
theorem x_copy (C0 : CX p s m args meth c E cc own nL) (hz : s.heap.size + cells ≤ eB E + G.1) (hw : WD E G I X s.heap H locs) {a0 a index : Nat} {I1 : Im} (ta0 : okA E G 11 a0) (ta : okA E G 11 a) {sp dp n : Int32} (hc : cpok sp dp n (G.2.2 a0) (G.2.2 a) = true) (hml : c.maxLocals = ls.size) (hl : Cond.methodLink own index arraycopyName ∈ GT) (hfr : 1 ≤ R.frames) (hlo : (rest.map fun v => v.category).sum + (nativeFrameWords "java/lang/System" "arraycopy" 5 + 11) ≤ R.locals)
    (hd : decode cc pc = .ok (.invokestatic index, 3)) (eI : I1 = pAr I a (va_cpy (gA I a0) (gA I a) sp.toNatClampNeg dp.toNatClampNeg n.toNatClampNeg)) (kk : ∀ (H : Heap) (locs : List Loc), WD E G I1 X s.heap H locs → W p l e R s m args below meth c H locs cells slots Q (F0 m (pc + 3) ls rest)) : W p l e R s m args below meth c H locs cells slots Q (F0 m pc ls (.int n :: .int dp :: .ref a :: .int sp :: .ref a0 :: rest)) := by
  obtain ⟨h1, h2, h3, h4, h5⟩ := of_decide_eq_true hc
  have hts := C0.2.2.2.2.1
  subst eI
  refine va_copyi C0.1 C0.2.1 hml C0.2.2.2.1 (hts _ hl) (hts _ wd121) (hts _ wd122) (hts _ wd123) C0.2.2.2.2.2.2.1 hw.1.1 (wpl_D E G I X) hw.2 (a0 - eB E) (a - eB E) 1 1 (wpl_i ta0 (by decide) (by decide)) (wpl_i ta (by decide) (by decide)) rfl rfl (by decide) ?_ ?_ ?_ h4 h5 (fun _ _ => rfl) hfr hlo hd fun H1 locs1 hP _ hS1 => ?_
  · rw [Int32.lt_iff_toInt_lt, Int32.toInt_zero]; omega
  · rw [Int32.lt_iff_toInt_lt, Int32.toInt_zero]; omega
  · rw [Int32.lt_iff_toInt_lt, Int32.toInt_zero]; omega
  · exact x_behind (I1 := pAr I a (va_cpy (gA I a0) (gA I a) sp.toNatClampNeg dp.toNatClampNeg n.toNatClampNeg)) (X1 := X) hz ta.pos hw.1.2.2 (wpl_setA ta (by decide) (by decide)) hP hS1 kk
theorem x_astore_n (C0 : CX p s m args meth c E cc own nL) {k : Fin 4} {i nl : Nat} {o : Option Nat} {lv lv' : List (Nat × Value)} (hd : decode cc pc = .ok (.astore_n k, 1)) (hi : (k : Nat) = i) (h : lv_has ls nl lv) (hn : i < nl) (hl : (i, va_rf o) :: lv.filter (fun q => !(q.1 == i) && !(q.1 + 1 == i && q.2.category == 2)) = lv')
    (kk : ∀ ls' : Array Slot, lv_has ls' nl lv' → W p l e R s m args below meth c H locs cells slots Q (F0 m (pc + 1) ls' rest)) : W p l e R s m args below meth c H locs cells slots Q (F0 m pc ls (va_rf o :: rest)) := by
  cases o with
  | none => exact lv_astore_nN C0.1 C0.2.1 hd hi h hn hl kk
  | some a => exact lv_astore_n C0.1 C0.2.1 hd hi h hn hl kk
theorem x_astore (C0 : CX p s m args meth c E cc own nL) {i nl : Nat} {o : Option Nat} {lv lv' : List (Nat × Value)} (hd : decode cc pc = .ok (.astore i, 2)) (h : lv_has ls nl lv) (hn : i < nl) (hl : (i, va_rf o) :: lv.filter (fun q => !(q.1 == i) && !(q.1 + 1 == i && q.2.category == 2)) = lv')
    (kk : ∀ ls' : Array Slot, lv_has ls' nl lv' → W p l e R s m args below meth c H locs cells slots Q (F0 m (pc + 2) ls' rest)) : W p l e R s m args below meth c H locs cells slots Q (F0 m pc ls (va_rf o :: rest)) := by
  cases o with
  | none => exact lv_astoreN C0.1 C0.2.1 hd h hn hl kk
  | some a => exact lv_astore C0.1 C0.2.1 hd h hn hl kk
theorem x_runSX (C0 : CX p s m args meth c E cc own nL) {y : MethodName} {bytes : ByteArray} {maxL n index : Nat} {ret : Option FieldType} {rm : Room} {Qc : Array Value → State → Outcome → State → Prop} {mc ms : Nat} {As : List Value} (hM : MT l y bytes maxL ret rm E G I X As Qc mc ms) (hw : WD E G I X s.heap H locs)
    (hcode : Cond.code y bytes maxL ret ∈ GT) (hl : Cond.methodLink own index y ∈ GT) (hst : Cond.static y ∈ GT) (hini : Cond.initialized y.cls ∈ GT) (hrm : rm.cells = mc ∧ rm.slots = ms)
    (hy : y.cls ≠ "java/lang/invoke/MethodHandle" ∧ y.cls ≠ "java/lang/invoke/VarHandle" ∧ (parseMethodDescriptor y.desc).map (fun d => d.parameters.length) = some n) (hR : rm.frames + 1 ≤ R.frames ∧ 8 + (maxL + 11) + rm.locals ≤ R.locals)
    (hn : As.length = n) (hsz : ls.size = nL) (hcat : (rest.map fun v => v.category).sum ≤ 8) (hf : cells + mc ≤ R.cells ∧ slots + ms ≤ R.slots) (hd : decode cc pc = .ok (.invokestatic index, 3)) :
    va_Run p l e R s m args below meth c H locs cells slots mc ms (F0 m pc ls (As.reverse ++ rest)) rest (Qc As.toArray) (eA E) := by
  obtain ⟨hx, hb, hml, hown, hts, -, hS⟩ := C0
  exact va_runS (As := As) (rest := rest) (Ts := GT) ⟨hx, hb, hml, hown, hts⟩ hM ⟨callB_of n hts (ws_good hcode) rfl hrm.1 hrm.2 (hts _ hini) (hts _ hl) hy hR, hts _ hst⟩ ⟨PC_blind _ _ _ _ _, PC_go hS hw⟩ rfl hn hsz rfl (lv_room hcat) hd hf
end XM
