/-! THE CLAIM OUT OF ONE WALK OF THE LAW'S BODY. Your part is whole_start (and what it stands on); all else here is the same for every law, but numbers. -/
def R_law : String := "RadioCuesLaw"
def lw_P (b : Addr) (xs : List Int32) (args : Array Value) (s : State) : Prop := args = #[.ref b] ∧ s.IntsAt b xs ∧ xs.length ≤ 260 ∧ (Jvm.Cond.and given_1 narrow_1).before args s = true
def lw_Q (_ : Array Value) (s : State) (o : Outcome) (t : State) : Prop := o = .returned (some (.int 1)) ∧ Framed s o t [] 600000 7302250
def lw_Z (below : List Frame) (a : Array Value) (s : State) : State → Prop := fun t => ∃ o, t.status = .running ∧ Ended t below o ∧ lw_Q a s o t
/-- the law's own end, with 1 on the stack, nothing written that was there before, its room as the claim has it -/
theorem lw_ret {p : Program} {l : Launch} {e : Env} {s : State} {m : MethodId} {below : List Frame} {meth : Method} {c : Code} {b : Nat} (hx : p.tables.exec = Jvm.exec) (hb : c.code = code) (hr : meth.sig.returnType = ret) (hlocks : meth.locks = false) {pc : Nat} {H : Heap} {ls : Array Slot} (hdg : decode code pc = .ok (.ireturn, 1)) : W p l e room_1 s m #[Value.ref b] below meth c H [] 600000 7302250 (lw_Z below #[Value.ref b] s) (F0 m pc ls [.int 1]) := by
  intro T hT X
  obtain ⟨fs, hret, hrun, hended, hW, hframe⟩ := X.leave (v := some (.int 1)) (hlocks := hlocks) (fun h => by rw [hr] at h; cases h)
  have hmeth' : T.vm.method? m = some meth := X.method'
  refine ⟨T.setFrames fs, ?_, .returned (some (.int 1)), hrun, hended, rfl, ⟨_, rfl⟩, hW, hframe⟩
  jvm_step X.here [X.here.top, hx, hb, hdg, hmeth', hr, ret, narrow_b1]
  (try refine ⟨rfl, ?_⟩); (try refine ⟨rfl, ?_⟩)
  first | (intro acts; rw [hret _ acts rfl rfl rfl]) | rw [hret _ _ rfl rfl rfl]
  exact Steps.refl _
/-- what holds at the law's entry: the machine, the code, the tables' words (any of lw_tbl by 'hts w (by decide +kernel)'), the script of L ints xs at the cell b, what the Statement gives of the start (any of its parts by flat_of_before) -/
def lw_At (p : Program) (s : State) (m : MethodId) (meth : Method) (c : Code) (b L : Nat) (xs : Nat → Int32) : Prop :=
  p.tables.exec = Jvm.exec ∧ c.code = code ∧ meth.sig.returnType = ret ∧ c.maxLocals = 19 ∧ s.vm.findClass R_law = some m.cls ∧ (∀ w ∈ lw_tbl, w.before #[Value.ref b] s = true) ∧ va_X b L xs s s.heap ∧ b < s.heap.size ∧ meth.locks = false ∧ (Jvm.Cond.and given_1 narrow_1).before #[Value.ref b] s = true
/-! ===== what stands at the law's entry ===== -/
theorem start_arr {s : State} {ty : FieldType} {args : Array Value} (h : (Cond.arrayClass ty).before args s = true) : ∃ cA : ClassId, ArrOfT s cA ty ∧ s.vm.findClass ("[" ++ ty.toString) = some cA := by
  obtain ⟨cA, kA, comp, h1, h2, h3⟩ := Cond.arrayClass_spec h
  exact ⟨cA, fun n z => ⟨(fun k h => by cases h), kA, h2, comp, h3⟩, h1⟩
theorem start_arq {s : State} {C : String} {args : Array Value} (h : (Cond.arrayOver (.object C)).before args s = true) : ∃ cA : ClassId, ArrOfT s cA (.object C) ∧ va_RA s cA (.object C) := by
  obtain ⟨comp, cA, kA, h1, h2, h3, h4, h5⟩ := Cond.arrayOver_spec h
  exact ⟨cA, fun n z => ⟨(fun k h => by cases h), kA, h3, comp, h4⟩, kA, comp, h3, h4, h1, h5⟩
set_option maxRecDepth 100000 in
theorem start_K {s : State} {args : Array Value} (hts : ∀ w ∈ lw_tbl, w.before args s = true) : ∃ (D : va_G) (C : Nat → ClassId), va_K D vwCl (tysL C) s := by
  have hgt : ∀ w ∈ GT, w.before args s = true := fun w hw => hts w (gt_tbl hw)
  obtain ⟨c0, i0, k0⟩ := u_known (C := RX0) (T := TX0) (N := 2) hgt inG0 (hgt _ wd160)
  obtain ⟨c1, i1, k1⟩ := u_known (C := RX1) (T := TX1) (N := 5) hgt inG1 (hgt _ wd131)
  obtain ⟨c2, i2, k2⟩ := u_known (C := RX2) (T := TX2) (N := 4) hgt inG2 (hgt _ wd153)
  obtain ⟨c3, i3, k3⟩ := u_known (C := RX3) (T := TX3) (N := 6) hgt inG3 (hgt _ wd326)
  obtain ⟨c4, i4, k4⟩ := u_known (C := RX4) (T := TX4) (N := 9) hgt inG4 (hgt _ wd318)
  obtain ⟨c5, i5, k5⟩ := u_known (C := RX5) (T := TX5) (N := 5) hgt inG5 (hgt _ wd158)
  obtain ⟨c6, i6, k6⟩ := u_known (C := RX6) (T := TX6) (N := 3) hgt inG6 (hgt _ wd145)
  obtain ⟨c7, i7, k7⟩ := u_known (C := RX7) (T := TX7) (N := 4) hgt inG7 (hgt _ wd139)
  obtain ⟨c8, i8, k8⟩ := u_known (C := RX8) (T := TX8) (N := 7) hgt inG8 (hgt _ wd478)
  obtain ⟨d0, a0, b0⟩ := start_arr (hgt _ wd125)
  obtain ⟨d1, a1, b1⟩ := start_arr (hgt _ wd115)
  obtain ⟨d2, a2, b2⟩ := start_arr (hgt _ wd323)
  obtain ⟨d3, a3, b3⟩ := start_arq (C := "RadioCues$Channel") (hts _ (by decide +kernel))
  obtain ⟨d4, a4, b4⟩ := start_arq (C := "RadioCues$Cue") (hts _ (by decide +kernel))
  obtain ⟨d5, a5, b5⟩ := start_arq (C := "RadioCues$Play") (hts _ (by decide +kernel))
  obtain ⟨d6, a6, b6⟩ := start_arq (C := "RadioCues$Reel") (hts _ (by decide +kernel))
  obtain ⟨d7, a7, b7⟩ := start_arq (C := "RadioCues$Sound") (hts _ (by decide +kernel))
  refine ⟨(fun k => [c0, c1, c2, c3, c4, c5, c6, c7, c8].getD k c0, fun k => match k with | 0 => i0 | 1 => i1 | 2 => i2 | 3 => i3 | 4 => i4 | 5 => i5 | 6 => i6 | 7 => i7 | _ => i8), fun k => [d0, d1, d2, d3, d4, d5, d6, d7].getD (k - 10) d0, ?_, ?_⟩
  · intro k q hq
    match k, hq with
    | 0, hq => cases hq; exact k0
    | 1, hq => cases hq; exact k1
    | 2, hq => cases hq; exact k2
    | 3, hq => cases hq; exact k3
    | 4, hq => cases hq; exact k4
    | 5, hq => cases hq; exact k5
    | 6, hq => cases hq; exact k6
    | 7, hq => cases hq; exact k7
    | 8, hq => cases hq; exact k8
    | k + 9, hq => simp [vwCl] at hq
  · intro k q hq
    match k, hq with
    | 0, hq => cases hq; exact ⟨a0, b0⟩
    | 1, hq => cases hq; exact ⟨a1, b1⟩
    | 2, hq => cases hq; exact ⟨a2, b2⟩
    | 3, hq => cases hq; exact ⟨a3, b3⟩
    | 4, hq => cases hq; exact ⟨a4, b4⟩
    | 5, hq => cases hq; exact ⟨a5, b5⟩
    | 6, hq => cases hq; exact ⟨a6, b6⟩
    | 7, hq => cases hq; exact ⟨a7, b7⟩
    | k + 8, hq => simp [tysL] at hq
set_option maxRecDepth 100000 in
theorem start_ST {s : State} {args : Array Value} (hts : ∀ w ∈ lw_tbl, w.before args s = true) (hgv : (Jvm.Cond.and given_1 narrow_1).before args s = true) (D : va_G) (C : Nat → ClassId) {a L : Nat} {xs : Nat → Int32} (hX : va_X a L xs s s.heap) : ST (D, C, s.heap.size, (a, L), xs) s s.heap := by
  have hs := flat_of_before _ hgv
  have hA : ∀ a : Nat, a < s.heap.size → ¬ (fun q : Nat => s.heap.size ≤ q) a := fun a h q => absurd h (Nat.not_lt.mpr q)
  have hZi : ∀ (nm : String) (L : List Int32), L.length = 4 → (Cond.laysStatic "RadioCues" nm "[I").before args s = true → (Cond.arrayOf (Term.static "RadioCues" nm "[I") .int).before args s = true → (Cond.eq (.length (.static "RadioCues" nm "[I")) (.int 4)).before args s = true → (∀ j, j < 4 → (Cond.eq (.elem (.static "RadioCues" nm "[I") (.int (Int32.ofNat j))) (.int (L.getD j 0))).before args s = true) → va_Zi nm L (fun q : Nat => s.heap.size ≤ q) s s.heap := by
    intro nm L hL h1 h2 h3 h4
    obtain ⟨t, ht, hT⟩ := va_Tof (N := 4) (f := fun j => .int (L.getD j 0)) (A := fun q : Nat => s.heap.size ≤ q) (by decide) h2 (va_eqt h3) (fun j hj => va_eqt (h4 j hj)) hA
    exact ⟨t, va_Zof h1 (hts _ (gt_tbl wd107)) ht hA, hT⟩
  obtain ⟨scr, h1, h2, h3, h4, h5⟩ := hX
  refine ⟨hZi _ _ rfl (hts _ (by decide +kernel)) (hs _ (by decide +kernel)) (hs _ (by decide +kernel)) (fun j hj => ?_), hZi _ _ rfl (hts _ (by decide +kernel)) (hs _ (by decide +kernel)) (hs _ (by decide +kernel)) (fun j hj => ?_), ⟨scr, h1, h2, h3, Nat.le_of_eq h4.symm, by rw [h4]; rfl, h5, hA a (Array.getElem?_eq_some_iff.mp h1).1⟩⟩
  · have h4 : ∀ j, j < 4 → Cond.eq (.elem (.static "RadioCues" "LEAST_SETTING" "[I") (.int (Int32.ofNat j))) (.int (leastS.getD j 0)) ∈ flatC (Jvm.Cond.and given_1 narrow_1) := by decide +kernel
    exact hs _ (h4 j hj)
  · have h4 : ∀ j, j < 4 → Cond.eq (.elem (.static "RadioCues" "MOST_SETTING" "[I") (.int (Int32.ofNat j))) (.int (mostS.getD j 0)) ∈ flatC (Jvm.Cond.and given_1 narrow_1) := by decide +kernel
    exact hs _ (h4 j hj)
set_option maxRecDepth 100000 in
theorem start_SE {s : State} {args : Array Value} (hts : ∀ w ∈ lw_tbl, w.before args s = true) (hgv : (Jvm.Cond.and given_1 narrow_1).before args s = true) {a L : Nat} {xs : Nat → Int32} (hX : va_X a L xs s s.heap) : ∃ E : EN, eB E = s.heap.size ∧ eS E = (a, L) ∧ eXs E = xs ∧ SE E s s.heap := by
  obtain ⟨D, C, hK⟩ := start_K hts
  have hST := start_ST hts hgv D C hX
  refine ⟨(D, C, s.heap.size, (a, L), xs), rfl, rfl, rfl, hK, ?_, ?_, ?_, trivial, hST⟩
  · have h8 : ∀ q ∈ nwM, Cond.methodLinkNest q.1 q.2.1 q.2.2.1 q.2.2.2 ∈ lw_tbl := by decide +kernel
    exact fun q hq => va_Nw.of rfl (hts _ (h8 q hq))
  · have h8 : ∀ q ∈ nwF, Cond.fieldLinkNest q.1 q.2.1 q.2.2.1 q.2.2.2.1 q.2.2.2.2.1 q.2.2.2.2.2 ∈ lw_tbl := by decide +kernel
    exact fun q hq => va_Nw.of rfl (hts _ (h8 q hq))
  · have h8 : ∀ C ∈ aoL, Cond.arrayOver (.object C) ∈ lw_tbl := by decide +kernel
    exact fun C hC => va_AO.of (hts _ (h8 C hC))
