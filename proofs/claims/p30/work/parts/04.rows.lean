/-! ===== what a method's entry gives: nest words, statics, String constants ===== -/
def nwM : List (String × Nat × MethodName × String) := [("RadioCues", 32, yX3_init, "RadioCues"), ("RadioCues$Channel", 18, yX8_nearer, "RadioCues"), ("RadioCues$Play", 229, yX8_nearer, "RadioCues"), ("RadioCues$Play", 36, yX2_init, "RadioCues"), ("RadioCues$Play", 48, yX0_init, "RadioCues"), ("RadioCues$Play", 88, yX8_within, "RadioCues"), ("RadioCues$Reel", 21, yX7_init, "RadioCues"), ("RadioCues$Script", 17, yX1_init, "RadioCues")]
def nwF : List (String × Nat × String × String × String × String) := [("RadioCues$Play", 82, "RadioCues", "LEAST_SETTING", "[I", "RadioCues"), ("RadioCues$Play", 85, "RadioCues", "MOST_SETTING", "[I", "RadioCues")]
def aoL : List String := ["RadioCues$Channel", "RadioCues$Cue", "RadioCues$Play", "RadioCues$Reel", "RadioCues$Sound"]
def leastS : List Int32 := [1, 1, 1, 10]
def mostS : List Int32 := [20, 9, 100, 400]
def va_Zi (n : String) (L : List Int32) (A : Nat → Prop) (U : State) (H : Heap) : Prop := ∃ t : Nat, va_Z "RadioCues" n "[I" (.ref t) A U H ∧ va_T .int t 4 (fun j => .int (L.getD j 0)) A U H
def ST (E : EN) (U : State) (H : Heap) : Prop := va_Zi "LEAST_SETTING" leastS (eA E) U H ∧ va_Zi "MOST_SETTING" mostS (eA E) U H ∧ va_T .int (eS E).1 (eS E).2 (fun j => .int (eXs E j)) (eA E) U H
def SE (E : EN) (U : State) (H : Heap) : Prop := va_K (eD E) vwCl (tysL (eC E)) U ∧ (∀ q ∈ nwM, va_Nw (.methodLinkNest q.1 q.2.1 q.2.2.1 q.2.2.2) U) ∧ (∀ q ∈ nwF, va_Nw (.fieldLinkNest q.1 q.2.1 q.2.2.1 q.2.2.2.1 q.2.2.2.2.1 q.2.2.2.2.2) U) ∧ (∀ C ∈ aoL, va_AO C U) ∧ True ∧ ST E U H
theorem va_Zi.moved {n : String} {L : List Int32} {A : Nat → Prop} {u U : State} {H : Heap} (hvm : u.vm.Alike U.vm) (h : va_Zi n L A u H) : va_Zi n L A U H := by
  obtain ⟨t, h1, h2⟩ := h
  exact ⟨t, h1.moved hvm, h2.moved hvm⟩
theorem va_Zi.kept {n : String} {L : List Int32} {A : Nat → Prop} {U : State} {H H1 : Heap} (h : va_Zi n L A U H) (hq : ∀ a : Nat, a < H.size → ¬ A a → H1[a]? = H[a]?) : va_Zi n L A U H1 := by
  obtain ⟨t, h1, h2⟩ := h
  exact ⟨t, h1.kept hq, h2.kept hq⟩
theorem ST.moved {E : EN} {u U : State} {H : Heap} (hvm : u.vm.Alike U.vm) (h : ST E u H) : ST E U H := ⟨h.1.moved hvm, h.2.1.moved hvm, h.2.2.moved hvm⟩
theorem ST.kept {E : EN} {U : State} {H H1 : Heap} (h : ST E U H) (hq : ∀ a : Nat, a < H.size → ¬ eA E a → H1[a]? = H[a]?) : ST E U H1 := ⟨h.1.kept hq, h.2.1.kept hq, h.2.2.kept hq⟩
theorem SE.go {E : EN} {s U : State} {H : Heap} {locs : List Loc} (h : SE E s s.heap) (hS : va_S (eA E) s.heap H locs) (hU : U.heap = H) (hW : s.WarmedH U.vm) : SE E U U.heap := by
  obtain ⟨h1, h2, h3, h4, h5, h6⟩ := h
  exact ⟨va_K.moved hW.alike h1, fun q hq => (h2 q hq).warmM hW, fun q hq => (h3 q hq).warmF hW, fun C hC => (h4 C hC).moved hW.alike, trivial, by rw [hU]; exact (h6.kept hS.2.1).moved hW.alike⟩
theorem SE.blind {E : EN} {a : Array Value} {U : State} {g : JFrame} {mk : MethodId} (h : SE E U U.heap) : SE E (U.calling g mk a) (U.calling g mk a).heap := by
  obtain ⟨h1, h2, h3, h4, h5, h6⟩ := h
  exact ⟨va_K.moved (u := U) (U := U.calling g mk a) (Vm.Alike.refl U.vm) h1, fun q hq => (h2 q hq).same rfl rfl, fun q hq => (h3 q hq).same rfl rfl, fun C hC => va_AO.moved (u := U) (U := U.calling g mk a) (Vm.Alike.refl U.vm) (h4 C hC), trivial, ST.moved (u := U) (U := U.calling g mk a) (Vm.Alike.refl U.vm) h6⟩
/-- the fixed facts of a walk -/
def CX (p : Program) (s : State) (m : MethodId) (args : Array Value) (meth : Method) (c : Code) (E : EN) (cc : ByteArray) (own : String) (nL : Nat) : Prop :=
  p.tables.exec = Jvm.exec ∧ c.code = cc ∧ c.maxLocals = nL ∧ s.vm.findClass own = some m.cls ∧ (∀ w ∈ GT, w.before args s = true) ∧ meth.locks = false ∧ SE E s s.heap
/-! contracts -/
def PC (E : EN) (G : GM) (I : Im) (X : Xm) (av : List Value) : Array Value → State → Prop := va_Pc av (fun U => WH E G I X U.heap ∧ SE E U U.heap)
def QI (E : EN) (G : GM) (r : Int32) (I : Im) (X : Xm) : Array Value → State → Outcome → State → Prop := va_Qi (fun (r' : Int32) (u : Im × Xm) => r' = r ∧ u = (I, X)) (fun u t => WH E G u.1 u.2 t.heap) (eA E)
def QV (E : EN) (G : GM) (I : Im) (X : Xm) : Array Value → State → Outcome → State → Prop := va_Qv (fun (u : Im × Xm) => u = (I, X)) (fun u t => WH E G u.1 u.2 t.heap) (eA E)
def QO (E : EN) (G : GM) (k : Nat) (r : Option Nat) (I : Im) (X : Xm) : Array Value → State → Outcome → State → Prop := va_Qq (fun (r' : Option Nat) (u : Im × Xm) => r' = r ∧ u = (I, X) ∧ ∀ a, r = some a → okA E G k a) (fun u t => WH E G u.1 u.2 t.heap) (eA E)
def WS (y : MethodName) (cc : ByteArray) (n : Nat) (ret : Option FieldType) : List Cond := Cond.code y cc n ret :: GT
def MT (l : Launch) (y : MethodName) (cc : ByteArray) (n : Nat) (ret : Option FieldType) (rm : Room) (E : EN) (G : GM) (I : Im) (X : Xm) (av : List Value) (Qc : Array Value → State → Outcome → State → Prop) (mc ms : Nat) : Prop := Met l y (WS y cc n ret) rm (PC E G I X av) Qc mc ms (eA E)
theorem ws_good {y : MethodName} {cc : ByteArray} {n : Nat} {ret : Option FieldType} (h : Cond.code y cc n ret ∈ GT) : GoodIn GT (WS y cc n ret) := fun w hw => by
  rcases List.mem_cons.mp hw with rfl | hw
  · exact gt_GoodIn _ h
  · exact gt_GoodIn w hw
theorem PC_blind (E : EN) (G : GM) (I : Im) (X : Xm) (av : List Value) : FrameBlind (PC E G I X av) := fun a U g mk q => ⟨q.1, q.2.1, q.2.2.blind⟩
theorem PC_go {E : EN} {G : GM} {I : Im} {X : Xm} {av : List Value} {s : State} {H : Heap} {locs : List Loc} (hs : SE E s s.heap) (hw : WD E G I X s.heap H locs) : ∀ U : State, U.heap = H → s.WarmedH U.vm → PC E G I X av av.toArray U :=
  fun U hU hW => ⟨rfl, by rw [hU]; exact hw.1, SE.go hs hw.2 hU hW⟩
theorem wh_of {E : EN} {G : GM} {I : Im} {X : Xm} {t : State} {H : Heap} (ht : t.heap = H) (h : WH E G I X H) : WH E G I X t.heap := by rw [ht]; exact h
section XR
variable {p : Program} {l : Launch} {e : Env} {R : Room} {s : State} {m : MethodId} {args : Array Value} {below : List Frame} {meth : Method} {c : Code} {H : Heap} {locs : List Loc} {cells slots : Nat} {Q : State → Prop}
variable {cc : ByteArray} {pc : Nat} {ls : Array Slot} {rest : List Value} {E : EN} {own : String} {nL : Nat} {G : GM} {I : Im} {X : Xm}
theorem W_sz {g : JFrame} (k : H.size ≤ s.heap.size + cells → W p l e R s m args below meth c H locs cells slots Q g) : W p l e R s m args below meth c H locs cells slots Q g := by
  intro T hT X
  have h : T.heap.size ≤ s.heap.size + cells := X.same.2.2.1
  rw [hT] at h
  exact k h T hT X
/-- behind a write: the new memory stands -/
theorem x_behind {H1 : Heap} {locs1 : List Loc} {g : JFrame} {w : va_W} {I1 : Im} {X1 : Xm} (hz : s.heap.size + cells ≤ eB E + G.1) (hn : 0 < G.1) (hwt : WT E G X1) (he : w = wpl E G I1 X1) (hP : va_P (eD E) vwCl w H1) (hS : va_S (eA E) s.heap H1 locs1)
    (kk : ∀ (H : Heap) (locs : List Loc), WD E G I1 X1 s.heap H locs → W p l e R s m args below meth c H locs cells slots Q g) : W p l e R s m args below meth c H1 locs1 cells slots Q g := by
  subst he
  refine W_sz fun hle => ?_
  have hge := wpl_ge hP hn
  exact kk H1 locs1 ⟨⟨hP, by omega, hwt⟩, hS⟩
theorem okA.pos {k a : Nat} (h : okA E G k a) : 0 < G.1 := by
  have := h.1
  have := h.2.1
  omega
theorem x_getI (C0 : CX p s m args meth c E cc own nL) (hw : WD E G I X s.heap H locs) {a index : Nat} (k i : Nat) (ta : okA E G k a) {C : String} {T : u_T} {N : Nat} (hc : vwCl[k]? = some (C, T, N)) (hin : ∀ w ∈ u_ws C T N, w ∈ GT) (hi : i < N) (hi2 : i < nfk k) (hk : k < 10) (hr : tgf (16 * k + i) = 99)
    (hl : Cond.fieldLink own index (T i).1 (T i).2.1 (T i).2.2.1 ∈ GT) (hd : decode cc pc = .ok (.getfield index, 3)) (kk : W p l e R s m args below meth c H locs cells slots Q (F0 m (pc + 3) ls (.int (gF I (16 * k + i) a) :: rest))) : W p l e R s m args below meth c H locs cells slots Q (F0 m pc ls (.ref a :: rest)) := by
  obtain ⟨hx, hb, -, hown, hts, -, hS⟩ := C0
  exact va_get (ref := (T i).1) hx hb hts hin hown hS.1 hw.1.1 (a - eB E) (wpl_o ta hk) hc i hi (hts _ hl) (fun _ h => h) (by rw [flds_at hi2, fv_i hr]) hd kk
theorem x_getR (C0 : CX p s m args meth c E cc own nL) (hw : WD E G I X s.heap H locs) {a b index : Nat} (k i : Nat) (ta : okA E G k a) {C : String} {T : u_T} {N : Nat} (hc : vwCl[k]? = some (C, T, N)) (hin : ∀ w ∈ u_ws C T N, w ∈ GT) (hi : i < N) (hi2 : i < nfk k) (hk : k < 10) (hr : tgf (16 * k + i) ≠ 99)
    (hl : Cond.fieldLink own index (T i).1 (T i).2.1 (T i).2.2.1 ∈ GT) (hb2 : gR X (16 * k + i) a = some b) (hd : decode cc pc = .ok (.getfield index, 3)) (kk : W p l e R s m args below meth c H locs cells slots Q (F0 m (pc + 3) ls (.ref b :: rest))) : W p l e R s m args below meth c H locs cells slots Q (F0 m pc ls (.ref a :: rest)) := by
  obtain ⟨hx, hb, -, hown, hts, -, hS⟩ := C0
  exact va_get (ref := (T i).1) hx hb hts hin hown hS.1 hw.1.1 (a - eB E) (wpl_o ta hk) hc i hi (hts _ hl) (fun _ h => h) (by rw [flds_at hi2, fv_r hr, hb2]; rfl) hd kk
theorem x_putI (C0 : CX p s m args meth c E cc own nL) (hz : s.heap.size + cells ≤ eB E + G.1) (hw : WD E G I X s.heap H locs) {a index : Nat} {v : Int32} {I1 : Im} (k i : Nat) (ta : okA E G k a) {C : String} {T : u_T} {N : Nat} (hc : vwCl[k]? = some (C, T, N)) (hin : ∀ w ∈ u_ws C T N, w ∈ GT) (ty : Nat → FieldType) (hty : ∀ k, k < N → parseFieldDescriptor (T k).2.2.1 = some (ty k)) (hnm : ∀ a, a < N → ∀ b, b < N → a ≠ b → (T a).2.1 ≠ (T b).2.1) (hi : i < N) (hi2 : i < nfk k) (hk : k < 10) (hr : tgf (16 * k + i) = 99) (hfin : (T i).2.2.2 = false) (hn : narrow (ty i) (.int v) = .int v) (hfit : fits (ty i) (.int v) = true)
    (hl : Cond.fieldLink own index (T i).1 (T i).2.1 (T i).2.2.1 ∈ GT) (hd : decode cc pc = .ok (.putfield index, 3)) (eM : I1 = pF I (16 * k + i) a v) (kk : ∀ (H : Heap) (locs : List Loc), WD E G I1 X s.heap H locs → W p l e R s m args below meth c H locs cells slots Q (F0 m (pc + 3) ls rest)) : W p l e R s m args below meth c H locs cells slots Q (F0 m pc ls (.int v :: .ref a :: rest)) := by
  obtain ⟨hx, hb, -, hown, hts, -, hS⟩ := C0
  subst eM
  refine va_put (ref := (T i).1) hx hb hts hin ty hty hnm hown hS.1 hw.1.1 (wpl_D E G I X) hw.2 (a - eB E) (wpl_o ta hk) hc i hi (hts _ hl) (fun _ h => h) hfin (hty i hi) hn hfit (by rw [flds_len]; exact hi2) hd fun H1 locs1 hP _ hS1 => ?_
  exact x_behind (I1 := pF I (16 * k + i) a v) (X1 := X) hz ta.pos hw.1.2.2 (wpl_setF ta hk hi2 hr) hP hS1 kk
theorem x_putR (C0 : CX p s m args meth c E cc own nL) (hz : s.heap.size + cells ≤ eB E + G.1) (hw : WD E G I X s.heap H locs) {a b index : Nat} {X1 : Xm} (k i : Nat) (ta : okA E G k a) {C : String} {T : u_T} {N : Nat} (hc : vwCl[k]? = some (C, T, N)) (hin : ∀ w ∈ u_ws C T N, w ∈ GT) (ty : Nat → FieldType) (hty : ∀ k, k < N → parseFieldDescriptor (T k).2.2.1 = some (ty k)) (hnm : ∀ a, a < N → ∀ b, b < N → a ≠ b → (T a).2.1 ≠ (T b).2.1) (hi : i < N) (hi2 : i < nfk k) (hk : k < 10) (hr : tgf (16 * k + i) ≠ 99) (hfin : (T i).2.2.2 = false) (hn : narrow (ty i) (.ref b) = .ref b) (hfit : fits (ty i) (.ref b) = true) (tb : okA E G (tgf (16 * k + i)) b)
    (hl : Cond.fieldLink own index (T i).1 (T i).2.1 (T i).2.2.1 ∈ GT) (hd : decode cc pc = .ok (.putfield index, 3)) (eM : X1 = pR X (16 * k + i) a (some b)) (kk : ∀ (H : Heap) (locs : List Loc), WD E G I X1 s.heap H locs → W p l e R s m args below meth c H locs cells slots Q (F0 m (pc + 3) ls rest)) : W p l e R s m args below meth c H locs cells slots Q (F0 m pc ls (.ref b :: .ref a :: rest)) := by
  obtain ⟨hx, hb, -, hown, hts, -, hS⟩ := C0
  subst eM
  refine va_put (ref := (T i).1) hx hb hts hin ty hty hnm hown hS.1 hw.1.1 (wpl_D E G I X) hw.2 (a - eB E) (wpl_o ta hk) hc i hi (hts _ hl) (fun _ h => h) hfin (hty i hi) hn hfit (by rw [flds_len]; exact hi2) hd fun H1 locs1 hP _ hS1 => ?_
  exact x_behind (I1 := I) hz ta.pos (wt_pR hw.1.2.2 tb) (wpl_setR (v := some b) ta hk hi2 hr) hP hS1 kk
theorem x_putRF (C0 : CX p s m args meth c E cc own nL) (hz : s.heap.size + cells ≤ eB E + G.1) (hw : WD E G I X s.heap H locs) {a b index : Nat} {X1 : Xm} (k i : Nat) (ta : okA E G k a) {C : String} {T : u_T} {N : Nat} (hc : vwCl[k]? = some (C, T, N)) (hin : ∀ w ∈ u_ws C T N, w ∈ GT) (ty : Nat → FieldType) (hty : ∀ k, k < N → parseFieldDescriptor (T k).2.2.1 = some (ty k)) (hnm : ∀ a, a < N → ∀ b, b < N → a ≠ b → (T a).2.1 ≠ (T b).2.1) (hi : i < N) (hi2 : i < nfk k) (hk : k < 10) (hr : tgf (16 * k + i) ≠ 99) (hfin : (T i).2.2.2 = true) (hin2 : meth.name = "<init>") (hdecl : (T i).1 = own) (hn : narrow (ty i) (.ref b) = .ref b) (hfit : fits (ty i) (.ref b) = true) (tb : okA E G (tgf (16 * k + i)) b)
    (hl : Cond.fieldLink own index (T i).1 (T i).2.1 (T i).2.2.1 ∈ GT) (hd : decode cc pc = .ok (.putfield index, 3)) (eM : X1 = pR X (16 * k + i) a (some b)) (kk : ∀ (H : Heap) (locs : List Loc), WD E G I X1 s.heap H locs → W p l e R s m args below meth c H locs cells slots Q (F0 m (pc + 3) ls rest)) : W p l e R s m args below meth c H locs cells slots Q (F0 m pc ls (.ref b :: .ref a :: rest)) := by
  obtain ⟨hx, hb, -, hown, hts, -, hS⟩ := C0
  subst eM
  refine va_putF (ref := (T i).1) hx hb hts hin ty hty hnm hown hS.1 hw.1.1 (wpl_D E G I X) hw.2 (a - eB E) (wpl_o ta hk) hc i hi (hts _ hl) (fun _ h => h) hfin hin2 hdecl (hty i hi) hn hfit (by rw [flds_len]; exact hi2) hd fun H1 locs1 hP _ hS1 => ?_
  exact x_behind (I1 := I) hz ta.pos (wt_pR hw.1.2.2 tb) (wpl_setR (v := some b) ta hk hi2 hr) hP hS1 kk
/-! arrays -/
theorem x_iald (C0 : CX p s m args meth c E cc own nL) (hw : WD E G I X s.heap H locs) {a : Nat} (ta : okA E G 11 a) {i : Int32} (hi : inb i (G.2.2 a) = true) (hd : decode cc pc = .ok (.iaload, 1))
    (kk : W p l e R s m args below meth c H locs cells slots Q (F0 m (pc + 1) ls (.int (gA I a i.toNatClampNeg) :: rest))) : W p l e R s m args below meth c H locs cells slots Q (F0 m pc ls (.int i :: .ref a :: rest)) :=
  va_iald C0.1 C0.2.1 C0.2.2.2.2.2.2.1 hw.1.1 (a - eB E) 1 (wpl_i ta (by decide) (by decide)) rfl (inb_in hi) hd kk
theorem x_cald (C0 : CX p s m args meth c E cc own nL) (hw : WD E G I X s.heap H locs) {a : Nat} (ta : okA E G 10 a) {i : Int32} (hi : inb i (G.2.2 a) = true) (hd : decode cc pc = .ok (.caload, 1))
    (kk : W p l e R s m args below meth c H locs cells slots Q (F0 m (pc + 1) ls (.int (gA I a i.toNatClampNeg) :: rest))) : W p l e R s m args below meth c H locs cells slots Q (F0 m pc ls (.int i :: .ref a :: rest)) :=
  va_cald C0.1 C0.2.1 C0.2.2.2.2.2.2.1 hw.1.1 (a - eB E) 0 (wpl_i ta (by decide) (by decide)) rfl (inb_in hi) hd kk
theorem x_zald (C0 : CX p s m args meth c E cc own nL) (hw : WD E G I X s.heap H locs) {a : Nat} (ta : okA E G 12 a) {i : Int32} (hi : inb i (G.2.2 a) = true) (hd : decode cc pc = .ok (.baload, 1))
    (kk : W p l e R s m args below meth c H locs cells slots Q (F0 m (pc + 1) ls (.int (gA I a i.toNatClampNeg) :: rest))) : W p l e R s m args below meth c H locs cells slots Q (F0 m pc ls (.int i :: .ref a :: rest)) :=
  va_zald C0.1 C0.2.1 C0.2.2.2.2.2.2.1 hw.1.1 (a - eB E) 2 (wpl_i ta (by decide) (by decide)) rfl (inb_in hi) hd kk
theorem x_iast (C0 : CX p s m args meth c E cc own nL) (hz : s.heap.size + cells ≤ eB E + G.1) (hw : WD E G I X s.heap H locs) {a : Nat} {I1 : Im} (ta : okA E G 11 a) {i v : Int32} (hi : inb i (G.2.2 a) = true) (hd : decode cc pc = .ok (.iastore, 1)) (eM : I1 = pA I a i.toNatClampNeg v)
    (kk : ∀ (H : Heap) (locs : List Loc), WD E G I1 X s.heap H locs → W p l e R s m args below meth c H locs cells slots Q (F0 m (pc + 1) ls rest)) : W p l e R s m args below meth c H locs cells slots Q (F0 m pc ls (.int v :: .int i :: .ref a :: rest)) := by
  subst eM
  refine va_iast C0.1 C0.2.1 C0.2.2.2.2.2.2.1 hw.1.1 (wpl_D E G I X) hw.2 (a - eB E) 1 (wpl_i ta (by decide) (by decide)) rfl (inb_in hi) hd fun H1 locs1 hP _ hS1 => ?_
  exact x_behind (I1 := pA I a i.toNatClampNeg v) (X1 := X) hz ta.pos hw.1.2.2 (by rw [← pA_upd]; exact wpl_setA ta (by decide) (by decide)) hP hS1 kk
theorem x_cast (C0 : CX p s m args meth c E cc own nL) (hz : s.heap.size + cells ≤ eB E + G.1) (hw : WD E G I X s.heap H locs) {a : Nat} {I1 : Im} (ta : okA E G 10 a) {i v : Int32} (hi : inb i (G.2.2 a) = true) (hv : vp_nar .char v = v) (hd : decode cc pc = .ok (.castore, 1)) (eM : I1 = pA I a i.toNatClampNeg v)
    (kk : ∀ (H : Heap) (locs : List Loc), WD E G I1 X s.heap H locs → W p l e R s m args below meth c H locs cells slots Q (F0 m (pc + 1) ls rest)) : W p l e R s m args below meth c H locs cells slots Q (F0 m pc ls (.int v :: .int i :: .ref a :: rest)) := by
  subst eM
  refine va_cast C0.1 C0.2.1 C0.2.2.2.2.2.2.1 hw.1.1 (wpl_D E G I X) hw.2 (a - eB E) 0 (wpl_i ta (by decide) (by decide)) rfl (inb_in hi) hd fun H1 locs1 hP _ hS1 => ?_
  rw [hv] at hP
  exact x_behind (I1 := pA I a i.toNatClampNeg v) (X1 := X) hz ta.pos hw.1.2.2 (by rw [← pA_upd]; exact wpl_setA ta (by decide) (by decide)) hP hS1 kk
theorem x_zast (C0 : CX p s m args meth c E cc own nL) (hz : s.heap.size + cells ≤ eB E + G.1) (hw : WD E G I X s.heap H locs) {a : Nat} {I1 : Im} (ta : okA E G 12 a) {i v : Int32} (hi : inb i (G.2.2 a) = true) (hv : vp_nar .boolean v = v) (hd : decode cc pc = .ok (.bastore, 1)) (eM : I1 = pA I a i.toNatClampNeg v)
    (kk : ∀ (H : Heap) (locs : List Loc), WD E G I1 X s.heap H locs → W p l e R s m args below meth c H locs cells slots Q (F0 m (pc + 1) ls rest)) : W p l e R s m args below meth c H locs cells slots Q (F0 m pc ls (.int v :: .int i :: .ref a :: rest)) := by
  subst eM
  refine va_zast C0.1 C0.2.1 C0.2.2.2.2.2.2.1 hw.1.1 (wpl_D E G I X) hw.2 (a - eB E) 2 (wpl_i ta (by decide) (by decide)) rfl (inb_in hi) hd fun H1 locs1 hP _ hS1 => ?_
  rw [hv] at hP
  exact x_behind (I1 := pA I a i.toNatClampNeg v) (X1 := X) hz ta.pos hw.1.2.2 (by rw [← pA_upd]; exact wpl_setA ta (by decide) (by decide)) hP hS1 kk
theorem x_qald (C0 : CX p s m args meth c E cc own nL) (hw : WD E G I X s.heap H locs) {a b : Nat} (k : Nat) (ta : okA E G k a) (hk : 13 ≤ k) {C : String} (hC : (tysL (eC E))[k - 10]? = some (eC E k, .object C)) {i : Int32} (hi : inb i (G.2.2 a) = true) (hb2 : gQ X a i.toNatClampNeg = some b) (hd : decode cc pc = .ok (.aaload, 1))
    (kk : W p l e R s m args below meth c H locs cells slots Q (F0 m (pc + 1) ls (.ref b :: rest))) : W p l e R s m args below meth c H locs cells slots Q (F0 m pc ls (.int i :: .ref a :: rest)) := by
  refine va_aldq C0.1 C0.2.1 C0.2.2.2.2.2.2.1 hw.1.1 (a - eB E) (k - 10) (wpl_q ta hk) hC (inb_in hi) hd ?_
  rw [hb2]
  exact kk
theorem x_qast (C0 : CX p s m args meth c E cc own nL) (hz : s.heap.size + cells ≤ eB E + G.1) (hw : WD E G I X s.heap H locs) {a b : Nat} {X1 : Xm} (k : Nat) (ta : okA E G k a) (hk : 13 ≤ k) (tb : okA E G (elk k) b) (hb10 : elk k < 10) {r : vw_C} (hC : (tysL (eC E))[k - 10]? = some (eC E k, .object r.1)) (hc : vwCl[elk k]? = some r) {i : Int32} (hi : inb i (G.2.2 a) = true) (hd : decode cc pc = .ok (.aastore, 1)) (eM : X1 = pQ X a i.toNatClampNeg (some b))
    (kk : ∀ (H : Heap) (locs : List Loc), WD E G I X1 s.heap H locs → W p l e R s m args below meth c H locs cells slots Q (F0 m (pc + 1) ls rest)) : W p l e R s m args below meth c H locs cells slots Q (F0 m pc ls (.ref b :: .int i :: .ref a :: rest)) := by
  subst eM
  refine va_astq C0.1 C0.2.1 C0.2.2.2.2.2.2.1 hw.1.1 (wpl_D E G I X) hw.2 (a - eB E) (k - 10) (b - eB E) (elk k) (wpl_q ta hk) hC (wpl_o tb hb10) hc (inb_in hi) hd fun H1 locs1 hP _ hS1 => ?_
  exact x_behind (I1 := I) hz ta.pos (wt_pQ hw.1.2.2 ta tb) (wpl_setQ ta hk) hP hS1 kk
theorem x_alen (C0 : CX p s m args meth c E cc own nL) (hw : WD E G I X s.heap H locs) {a : Nat} (k : Nat) (ta : okA E G k a) (hk : 10 ≤ k) {ty : FieldType} (hC : (tysL (eC E))[k - 10]? = some (eC E k, ty)) (hd : decode cc pc = .ok (.arraylength, 1))
    (kk : W p l e R s m args below meth c H locs cells slots Q (F0 m (pc + 1) ls (.int (nI (G.2.2 a)) :: rest))) : W p l e R s m args below meth c H locs cells slots Q (F0 m pc ls (.ref a :: rest)) := by
  by_cases h : k < 13
  · exact va_alen C0.1 C0.2.1 C0.2.2.2.2.2.2.1 hw.1.1 (a - eB E) (k - 10) (wpl_i ta hk h) hC rfl hd kk
  · exact va_alen C0.1 C0.2.1 C0.2.2.2.2.2.2.1 hw.1.1 (a - eB E) (k - 10) (wpl_q ta (by omega)) hC rfl hd kk
/-! ends -/
theorem x_iret (C0 : CX p s m args meth c E cc own nL) (hr : meth.sig.returnType = some .int) {r : Int32} (hw : WD E G I X s.heap H locs) (hd : decode cc pc = .ok (.ireturn, 1)) : W p l e R s m args below meth c H locs cells slots (MQ below (QI E G r I X) args s cells slots (eA E)) (F0 m pc ls [.int r]) :=
  W.iret C0.1 C0.2.1 hr (fun t ht hW => ⟨⟨r, (I, X), rfl, ⟨rfl, rfl⟩, wh_of ht hw.1⟩, hw.2.F ht⟩) hw.2.2.2 hd C0.2.2.2.2.2.1
theorem x_zret (C0 : CX p s m args meth c E cc own nL) {ty : FieldType} (hr : meth.sig.returnType = some ty) {r : Int32} (hn : narrow ty (.int r) = .int r) (hw : WD E G I X s.heap H locs) (hd : decode cc pc = .ok (.ireturn, 1)) : W p l e R s m args below meth c H locs cells slots (MQ below (QI E G r I X) args s cells slots (eA E)) (F0 m pc ls [.int r]) :=
  W.zret C0.1 C0.2.1 hr hn (fun t ht hW => ⟨⟨r, (I, X), rfl, ⟨rfl, rfl⟩, wh_of ht hw.1⟩, hw.2.F ht⟩) hw.2.2.2 hd C0.2.2.2.2.2.1
theorem x_vret (C0 : CX p s m args meth c E cc own nL) (hr : meth.sig.returnType = none) (hw : WD E G I X s.heap H locs) (hd : decode cc pc = .ok (.return_, 1)) : W p l e R s m args below meth c H locs cells slots (MQ below (QV E G I X) args s cells slots (eA E)) (F0 m pc ls []) :=
  W.vret C0.1 C0.2.1 hr (fun t ht hW => ⟨⟨(I, X), rfl, rfl, wh_of ht hw.1⟩, hw.2.F ht⟩) hw.2.2.2 hd C0.2.2.2.2.2.1
theorem x_oret (C0 : CX p s m args meth c E cc own nL) {n : String} (hr : meth.sig.returnType = some (.object n)) {k : Nat} {r : Option Nat} (tr : ∀ a, r = some a → okA E G k a) (hw : WD E G I X s.heap H locs) (hd : decode cc pc = .ok (.areturn, 1)) : W p l e R s m args below meth c H locs cells slots (MQ below (QO E G k r I X) args s cells slots (eA E)) (F0 m pc ls [va_rf r]) :=
  W.aret C0.1 C0.2.1 hr (Or.inl ⟨n, rfl⟩) (va_rf_or r) (fun t ht hW => ⟨⟨r, (I, X), rfl, ⟨rfl, rfl, tr⟩, wh_of ht hw.1⟩, hw.2.F ht⟩) hw.2.2.2 hd C0.2.2.2.2.2.1
/-! calls -/
theorem x_runV (C0 : CX p s m args meth c E cc own nL) {y : MethodName} {bytes : ByteArray} {maxL n index : Nat} {ret : Option FieldType} {rm : Room} {Qc : Array Value → State → Outcome → State → Prop} {mc ms b : Nat} {As : List Value} (hM : MT l y bytes maxL ret rm E G I X (.ref b :: As) Qc mc ms) (hw : WD E G I X s.heap H locs) (k : Nat) (tb : okA E G k b) (hk : k < 10) {C : String} {T : u_T} {N : Nat} (hc : vwCl[k]? = some (C, T, N))
    (hcode : Cond.code y bytes maxL ret ∈ GT) (hl : Cond.methodLink own index y ∈ GT) (hin : Cond.instanceMethod y ∈ GT) (hsel : Cond.selects C y y ∈ GT) (hini : Cond.initialized C ∈ GT) (hrm : rm.cells = mc ∧ rm.slots = ms)
    (hy : y.cls = C ∧ y.cls ≠ "java/lang/invoke/MethodHandle" ∧ y.cls ≠ "java/lang/invoke/VarHandle" ∧ (parseMethodDescriptor y.desc).map (fun d => d.parameters.length) = some n) (hR : rm.frames + 1 ≤ R.frames ∧ 8 + (maxL + 11) + rm.locals ≤ R.locals)
    (hn : As.length = n) (hsz : ls.size = nL) (hcat : (rest.map fun v => v.category).sum ≤ 8) (hf : cells + mc ≤ R.cells ∧ slots + ms ≤ R.slots) (hd : decode cc pc = .ok (.invokevirtual index, 3)) :
    va_Run p l e R s m args below meth c H locs cells slots mc ms (F0 m pc ls (As.reverse ++ .ref b :: rest)) rest (Qc (Value.ref b :: As).toArray) (eA E) := by
  obtain ⟨hx, hb, hml, hown, hts, -, hS⟩ := C0
  have hT : GoodIn GT (wsV own index C y (WS y bytes maxL ret)) := fun w hw => by
    rcases List.mem_append.mp hw with h | h
    · refine gt_GoodIn w ?_
      simp only [List.mem_cons, List.not_mem_nil, or_false] at h
      rcases h with rfl | rfl | rfl | rfl <;> assumption
    · exact ws_good hcode w h
  exact va_runV (As := As) (rest := rest) (Ts := GT) ⟨hx, hb, hml, hown, hts⟩ hM (cwV n hts hT rfl hrm.1 hrm.2 hy hR) ⟨PC_blind _ _ _ _ _, va_recv hS.1 hw.1.1 hc (wpl_o tb hk), PC_go hS hw⟩ rfl hn hsz rfl (lv_room hcat) hd hf
theorem x_runS (C0 : CX p s m args meth c E cc own nL) {y : MethodName} {bytes : ByteArray} {maxL n index : Nat} {ret : Option FieldType} {rm : Room} {Qc : Array Value → State → Outcome → State → Prop} {mc ms : Nat} {As : List Value} (hM : MT l y bytes maxL ret rm E G I X As Qc mc ms) (hw : WD E G I X s.heap H locs)
    (hcode : Cond.code y bytes maxL ret ∈ GT) (hl : Cond.methodLink own index y ∈ GT) (hst : Cond.static y ∈ GT) (hini : Cond.initialized own ∈ GT) (hrm : rm.cells = mc ∧ rm.slots = ms)
    (hy : y.cls = own ∧ y.cls ≠ "java/lang/invoke/MethodHandle" ∧ y.cls ≠ "java/lang/invoke/VarHandle" ∧ (parseMethodDescriptor y.desc).map (fun d => d.parameters.length) = some n) (hR : rm.frames + 1 ≤ R.frames ∧ 8 + (maxL + 11) + rm.locals ≤ R.locals)
    (hn : As.length = n) (hsz : ls.size = nL) (hcat : (rest.map fun v => v.category).sum ≤ 8) (hf : cells + mc ≤ R.cells ∧ slots + ms ≤ R.slots) (hd : decode cc pc = .ok (.invokestatic index, 3)) :
    va_Run p l e R s m args below meth c H locs cells slots mc ms (F0 m pc ls (As.reverse ++ rest)) rest (Qc As.toArray) (eA E) := by
  obtain ⟨hx, hb, hml, hown, hts, -, hS⟩ := C0
  have hT : GoodIn GT (wsS own index y (WS y bytes maxL ret)) := fun w hw => by
    rcases List.mem_append.mp hw with h | h
    · refine gt_GoodIn w ?_
      simp only [List.mem_cons, List.not_mem_nil, or_false] at h
      rcases h with rfl | rfl | rfl <;> assumption
    · exact ws_good hcode w h
  exact va_runS (As := As) (rest := rest) (Ts := GT) ⟨hx, hb, hml, hown, hts⟩ hM (cwS n hts hT rfl hrm.1 hrm.2 hy hR) ⟨PC_blind _ _ _ _ _, PC_go hS hw⟩ rfl hn hsz rfl (lv_room hcat) hd hf
theorem x_runSN (C0 : CX p s m args meth c E cc own nL) {y : MethodName} {bytes : ByteArray} {maxL n index : Nat} {ret : Option FieldType} {rm : Room} {Qc : Array Value → State → Outcome → State → Prop} {mc ms : Nat} {As : List Value} {host : String} (hM : MT l y bytes maxL ret rm E G I X As Qc mc ms) (hw : WD E G I X s.heap H locs)
    (hcode : Cond.code y bytes maxL ret ∈ GT) (hl : (own, index, y, host) ∈ nwM) (hst : Cond.static y ∈ GT) (hini : Cond.initialized y.cls ∈ GT) (hrm : rm.cells = mc ∧ rm.slots = ms)
    (hy : y.cls ≠ "java/lang/invoke/MethodHandle" ∧ y.cls ≠ "java/lang/invoke/VarHandle" ∧ (parseMethodDescriptor y.desc).map (fun d => d.parameters.length) = some n) (hR : rm.frames + 1 ≤ R.frames ∧ 8 + (maxL + 11) + rm.locals ≤ R.locals)
    (hn : As.length = n) (hsz : ls.size = nL) (hcat : (rest.map fun v => v.category).sum ≤ 8) (hf : cells + mc ≤ R.cells ∧ slots + ms ≤ R.slots) (hd : decode cc pc = .ok (.invokestatic index, 3)) :
    va_Run p l e R s m args below meth c H locs cells slots mc ms (F0 m pc ls (As.reverse ++ rest)) rest (Qc As.toArray) (eA E) := by
  obtain ⟨hx, hb, hml, hown, hts, -, hS⟩ := C0
  exact va_runSN (As := As) (rest := rest) (Ts := GT) (host := host) ⟨hx, hb, hml, hown, hts⟩ hM ⟨va_cnB n hts (ws_good hcode) rfl hrm.1 hrm.2 (hS.2.1 _ hl) (hts _ hini) hy hR, hts _ hst, trivial⟩ ⟨PC_blind _ _ _ _ _, PC_go hS hw⟩ rfl hn hsz rfl (lv_room hcat) hd hf
theorem x_runI (C0 : CX p s m args meth c E cc own nL) {y : MethodName} {bytes : ByteArray} {maxL n index : Nat} {rm : Room} {Qc : Array Value → State → Outcome → State → Prop} {mc ms b : Nat} {As : List Value} (hM : MT l y bytes maxL none rm E G I X (.ref b :: As) Qc mc ms) (hw : WD E G I X s.heap H locs)
    (hcode : Cond.code y bytes maxL none ∈ GT) (hl : Cond.methodLink own index y ∈ GT) (hin : Cond.instanceMethod y ∈ GT) (hini : Cond.initialized y.cls ∈ GT) (hy1 : y.name = "<init>") (hrm : rm.cells = mc ∧ rm.slots = ms)
    (hy : y.cls ≠ "java/lang/invoke/MethodHandle" ∧ y.cls ≠ "java/lang/invoke/VarHandle" ∧ (parseMethodDescriptor y.desc).map (fun d => d.parameters.length) = some n) (hR : rm.frames + 1 ≤ R.frames ∧ 8 + (maxL + 11) + rm.locals ≤ R.locals)
    (hn : As.length = n) (hsz : ls.size = nL) (hcat : (rest.map fun v => v.category).sum ≤ 8) (hf : cells + mc ≤ R.cells ∧ slots + ms ≤ R.slots) (hd : decode cc pc = .ok (.invokespecial index, 3)) :
    va_Run p l e R s m args below meth c H locs cells slots mc ms (F0 m pc ls (As.reverse ++ .ref b :: rest)) rest (Qc (Value.ref b :: As).toArray) (eA E) := by
  obtain ⟨hx, hb, hml, hown, hts, -, hS⟩ := C0
  exact va_runI (As := As) (rest := rest) (Ts := GT) ⟨hx, hb, hml, hown, hts⟩ hM (cwI n hts (ws_good hcode) rfl hrm.1 hrm.2 (hts _ hini) (hts _ hl) (hts _ hin) hy1 hy hR) ⟨PC_blind _ _ _ _ _, PC_go hS hw⟩ rfl hn hsz rfl (lv_room hcat) hd hf
theorem x_runIN (C0 : CX p s m args meth c E cc own nL) {y : MethodName} {bytes : ByteArray} {maxL n index : Nat} {rm : Room} {Qc : Array Value → State → Outcome → State → Prop} {mc ms b : Nat} {As : List Value} {host : String} (hM : MT l y bytes maxL none rm E G I X (.ref b :: As) Qc mc ms) (hw : WD E G I X s.heap H locs)
    (hcode : Cond.code y bytes maxL none ∈ GT) (hl : (own, index, y, host) ∈ nwM) (hin : Cond.instanceMethod y ∈ GT) (hini : Cond.initialized y.cls ∈ GT) (hy1 : y.name = "<init>") (hrm : rm.cells = mc ∧ rm.slots = ms)
    (hy : y.cls ≠ "java/lang/invoke/MethodHandle" ∧ y.cls ≠ "java/lang/invoke/VarHandle" ∧ (parseMethodDescriptor y.desc).map (fun d => d.parameters.length) = some n) (hR : rm.frames + 1 ≤ R.frames ∧ 8 + (maxL + 11) + rm.locals ≤ R.locals)
    (hn : As.length = n) (hsz : ls.size = nL) (hcat : (rest.map fun v => v.category).sum ≤ 8) (hf : cells + mc ≤ R.cells ∧ slots + ms ≤ R.slots) (hd : decode cc pc = .ok (.invokespecial index, 3)) :
    va_Run p l e R s m args below meth c H locs cells slots mc ms (F0 m pc ls (As.reverse ++ .ref b :: rest)) rest (Qc (Value.ref b :: As).toArray) (eA E) := by
  obtain ⟨hx, hb, hml, hown, hts, -, hS⟩ := C0
  exact va_runIN (As := As) (rest := rest) (Ts := GT) (host := host) ⟨hx, hb, hml, hown, hts⟩ hM ⟨va_cnB n hts (ws_good hcode) rfl hrm.1 hrm.2 (hS.2.1 _ hl) (hts _ hini) hy hR, hy1, hts _ hin⟩ ⟨PC_blind _ _ _ _ _, PC_go hS hw⟩ rfl hn hsz rfl (lv_room hcat) hd hf
theorem x_ci {G1 : GM} {r : Int32} {I1 : Im} {X1 : Xm} {mc ms : Nat} {a : Array Value} {st0 : List Value} (hr : va_Run p l e R s m args below meth c H locs cells slots mc ms (F0 m pc ls st0) rest (QI E G1 r I1 X1 a) (eA E)) (hw : WD E G I X s.heap H locs)
    (kk : ∀ (H : Heap) (locs : List Loc), WD E G1 I1 X1 s.heap H locs → W p l e R s m args below meth c H locs (cells + mc) (slots + ms) Q (F0 m (pc + 3) ls (.int r :: rest))) : W p l e R s m args below meth c H locs cells slots Q (F0 m pc ls st0) :=
  va_calli hr hw.2 (fun _ _ h => h) (fun _ h => h) fun r' u t H1 locs1 ht _ hp hB _ _ hS1 => by
    obtain ⟨rfl, rfl⟩ := hp
    exact kk H1 locs1 ⟨by rw [← ht]; exact hB, hS1⟩
theorem x_cv {G1 : GM} {I1 : Im} {X1 : Xm} {mc ms : Nat} {a : Array Value} {st0 : List Value} (hr : va_Run p l e R s m args below meth c H locs cells slots mc ms (F0 m pc ls st0) rest (QV E G1 I1 X1 a) (eA E)) (hw : WD E G I X s.heap H locs)
    (kk : ∀ (H : Heap) (locs : List Loc), WD E G1 I1 X1 s.heap H locs → W p l e R s m args below meth c H locs (cells + mc) (slots + ms) Q (F0 m (pc + 3) ls rest)) : W p l e R s m args below meth c H locs cells slots Q (F0 m pc ls st0) :=
  va_callv hr hw.2 (fun _ _ h => h) (fun _ h => h) fun u t H1 locs1 ht _ hp hB _ _ hS1 => by
    obtain rfl := hp
    exact kk H1 locs1 ⟨by rw [← ht]; exact hB, hS1⟩
theorem x_co {G1 : GM} {k : Nat} {r : Option Nat} {I1 : Im} {X1 : Xm} {mc ms : Nat} {a : Array Value} {st0 : List Value} (hr : va_Run p l e R s m args below meth c H locs cells slots mc ms (F0 m pc ls st0) rest (QO E G1 k r I1 X1 a) (eA E)) (hw : WD E G I X s.heap H locs)
    (kk : ∀ (H : Heap) (locs : List Loc), WD E G1 I1 X1 s.heap H locs → (∀ a, r = some a → okA E G1 k a) → W p l e R s m args below meth c H locs (cells + mc) (slots + ms) Q (F0 m (pc + 3) ls (va_rf r :: rest))) : W p l e R s m args below meth c H locs cells slots Q (F0 m pc ls st0) :=
  va_callq hr hw.2 (fun _ _ h => h) (fun _ h => h) fun r' u t H1 locs1 ht _ hp hB _ _ hS1 => by
    obtain ⟨rfl, rfl, tr⟩ := hp
    exact kk H1 locs1 ⟨by rw [← ht]; exact hB, hS1⟩ tr
/-! nullable references in locals and on the stack -/
theorem x_aload_n (C0 : CX p s m args meth c E cc own nL) {k : Fin 4} {i : Nat} {o : Option Nat} (hd : decode cc pc = .ok (.aload_n k, 1)) (hi : (k : Nat) = i) (hl : ls[i]? = some (.val (va_rf o)))
    (kk : W p l e R s m args below meth c H locs cells slots Q (F0 m (pc + 1) ls (va_rf o :: rest))) : W p l e R s m args below meth c H locs cells slots Q (F0 m pc ls rest) := by
  cases o with
  | none => exact lv_aload_nN C0.1 C0.2.1 hd hi hl kk
  | some a => exact lv_aload_n C0.1 C0.2.1 hd hi hl kk
theorem x_aload (C0 : CX p s m args meth c E cc own nL) {i : Nat} {o : Option Nat} (hd : decode cc pc = .ok (.aload i, 2)) (hl : ls[i]? = some (.val (va_rf o)))
    (kk : W p l e R s m args below meth c H locs cells slots Q (F0 m (pc + 2) ls (va_rf o :: rest))) : W p l e R s m args below meth c H locs cells slots Q (F0 m pc ls rest) := by
  cases o with
  | none => exact lv_aloadN C0.1 C0.2.1 hd hl kk
  | some a => exact lv_aload C0.1 C0.2.1 hd hl kk
theorem x_ifnull (C0 : CX p s m args meth c E cc own nL) {o : Option Nat} {off : Int} {tgt : Nat} (hd : decode cc pc = .ok (.ifnull off, 3)) (ht : (pc : Int) + off = (tgt : Int))
    (kn : o = none → W p l e R s m args below meth c H locs cells slots Q (F0 m tgt ls rest)) (ks : ¬ o = none → W p l e R s m args below meth c H locs cells slots Q (F0 m (pc + 3) ls rest)) : W p l e R s m args below meth c H locs cells slots Q (F0 m pc ls (va_rf o :: rest)) := by
  cases o with
  | none => exact lv_ifnullN C0.1 C0.2.1 hd ht (kn rfl)
  | some a => exact lv_ifnull C0.1 C0.2.1 hd (ks (by simp))
theorem x_ifnonnull (C0 : CX p s m args meth c E cc own nL) {o : Option Nat} {off : Int} {tgt : Nat} (hd : decode cc pc = .ok (.ifnonnull off, 3)) (ht : (pc : Int) + off = (tgt : Int))
    (ks : ¬ o = none → W p l e R s m args below meth c H locs cells slots Q (F0 m tgt ls rest)) (kn : o = none → W p l e R s m args below meth c H locs cells slots Q (F0 m (pc + 3) ls rest)) : W p l e R s m args below meth c H locs cells slots Q (F0 m pc ls (va_rf o :: rest)) := by
  cases o with
  | none => exact lv_ifnonnullN C0.1 C0.2.1 hd (kn rfl)
  | some a => exact lv_ifnonnull C0.1 C0.2.1 hd ht (ks (by simp))
theorem x_isom {o : Option Nat} {b : Nat} {pcx : Nat} {st1 st2 : List Value} (h : o = some b) (kk : W p l e R s m args below meth c H locs cells slots Q (F0 m pcx ls (st1 ++ .ref b :: st2))) : W p l e R s m args below meth c H locs cells slots Q (F0 m pcx ls (st1 ++ va_rf o :: st2)) := by
  subst h
  exact kk
end XR
