/-! ===== making objects and arrays: the memory behind them ===== -/
def ZI (t : Nat) (I : Im) : Prop := ∀ a, t ≤ a → (∀ f, gF I f a = 0) ∧ ∀ j, gA I a j = 0
def ZX (t : Nat) (X : Xm) : Prop := ∀ a, t ≤ a → (∀ f, gR X f a = none) ∧ ∀ j, gQ X a j = none
theorem ZI.mono {t t' : Nat} {I : Im} (h : ZI t I) (ht : t ≤ t') : ZI t' I := fun a ha => h a (Nat.le_trans ht ha)
theorem ZX.mono {t t' : Nat} {X : Xm} (h : ZX t X) (ht : t ≤ t') : ZX t' X := fun a ha => h a (Nat.le_trans ht ha)
theorem ZI.pF {t : Nat} {I : Im} {f a : Nat} {v : Int32} (h : ZI t I) (ha : a < t) : ZI t (pF I f a v) := by
  intro b hb
  refine ⟨fun f' => ?_, fun j => (h b hb).2 j⟩
  rw [gF_pF, if_neg (by omega)]
  exact (h b hb).1 f'
theorem ZI.pA {t : Nat} {I : Im} {a j : Nat} {v : Int32} (h : ZI t I) (ha : a < t) : ZI t (pA I a j v) := by
  intro b hb
  refine ⟨fun f' => (h b hb).1 f', fun j' => ?_⟩
  rw [gA_pA, if_neg (by omega)]
  exact (h b hb).2 j'
theorem ZX.pR {t : Nat} {X : Xm} {f a : Nat} {v : Option Nat} (h : ZX t X) (ha : a < t) : ZX t (pR X f a v) := by
  intro b hb
  refine ⟨fun f' => ?_, fun j => (h b hb).2 j⟩
  rw [gR_pR, if_neg (by omega)]
  exact (h b hb).1 f'
theorem ZX.pQ {t : Nat} {X : Xm} {a j : Nat} {v : Option Nat} (h : ZX t X) (ha : a < t) : ZX t (pQ X a j v) := by
  intro b hb
  refine ⟨fun f' => (h b hb).1 f', fun j' => ?_⟩
  rw [gQ_pQ, if_neg (by omega)]
  exact (h b hb).2 j'
/-- a loop that fills an array of references with new objects -/
def lpX (eX : Nat → Xm → Xm) (arr c0 cs : Nat) (X0 : Xm) : Nat → Xm
  | 0 => X0
  | i + 1 => pQ (eX (c0 + cs * i) (lpX eX arr c0 cs X0 i)) arr i (some (c0 + cs * i))
def lpI (eI : Nat → Im → Im) (c0 cs : Nat) (I0 : Im) : Nat → Im
  | 0 => I0
  | i + 1 => eI (c0 + cs * i) (lpI eI c0 cs I0 i)
def noX (_ : Nat) (X : Xm) : Xm := X
def noI (_ : Nat) (I : Im) : Im := I
theorem ZX_lpX {eX : Nat → Xm → Xm} {arr c0 cs t : Nat} {X0 : Xm} (he : ∀ c X, c + cs ≤ t → ZX t X → ZX t (eX c X)) (h0 : ZX t X0) (ha : arr < t) : ∀ i, c0 + cs * i ≤ t → ZX t (lpX eX arr c0 cs X0 i)
  | 0, _ => h0
  | i + 1, hi => (he _ _ (by rw [Nat.mul_add] at hi; omega) (ZX_lpX he h0 ha i (by rw [Nat.mul_add] at hi; omega))).pQ ha
theorem ZI_lpI {eI : Nat → Im → Im} {c0 cs t : Nat} {I0 : Im} (he : ∀ c I, c + cs ≤ t → ZI t I → ZI t (eI c I)) (h0 : ZI t I0) : ∀ i, c0 + cs * i ≤ t → ZI t (lpI eI c0 cs I0 i)
  | 0, _ => h0
  | i + 1, hi => he _ _ (by rw [Nat.mul_add] at hi; omega) (ZI_lpI he h0 i (by rw [Nat.mul_add] at hi; omega))
theorem gR_lpX {eX : Nat → Xm → Xm} {arr c0 cs f a : Nat} {X0 : Xm} (he : ∀ c X, a < c → gR (eX c X) f a = gR X f a) (ha : a < c0) : ∀ i, gR (lpX eX arr c0 cs X0 i) f a = gR X0 f a
  | 0 => rfl
  | i + 1 => by
    show gR (pQ _ _ _ _) f a = _
    rw [gR_pQ, he _ _ (by omega), gR_lpX he ha i]
def reelI (a : Nat) (I : Im) : Im := pF I 83 a (-6 : Int32)
def reelX (a : Nat) (X : Xm) : Xm := lpX noX (a + 1) (a + 2) 1 (pR X 80 a (some (a + 1))) 6
def scriptX (a : Nat) (X : Xm) : Xm := lpX noX (a + 1) (a + 2) 1 (pR X 96 a (some (a + 1))) 24
def doorsX (a : Nat) (X : Xm) : Xm := pR (pR (pR X 32 a (some (a + 1))) 33 a (some (a + 2))) 34 a (some (a + 3))
def padX (a : Nat) (X : Xm) : Xm := pR (pR X 48 a (some (a + 1))) 52 a (some (a + 2))
def chanI (a : Nat) (I : Im) : Im := pF (pF I 0 a (50 : Int32)) 1 a (50 : Int32)
def setsI (a : Nat) (I : Im) : Im := pA (pA (pA (pA I a 0 (4 : Int32)) a 1 (2 : Int32)) a 2 (10 : Int32)) a 3 (150 : Int32)
def playI (p : Nat) (I : Im) : Im := lpI chanI (p + 68) 1 (lpI reelI (p + 36) 8 (setsI (p + 1) I) 4) 4
def playX0 (p : Nat) (X : Xm) : Xm := pR (pR (pR (doorsX (p + 30) (pR (pR (pR (scriptX (p + 2) (pR X 64 p (some (p + 1)))) 65 p (some (p + 2))) 66 p (some (p + 28))) 67 p (some (p + 29)))) 68 p (some (p + 30))) 69 p (some (p + 34))) 71 p (some (p + 35))
def playX (p : Nat) (X : Xm) : Xm := lpX noX (p + 29) (p + 68) 1 (lpX reelX (p + 28) (p + 36) 8 (playX0 p X) 4) 4
def rcX0 (b : Nat) (X : Xm) : Xm := pR (padX (b + 148) (pR (pR (pR (pR (playX (b + 73) (pR (playX (b + 1) X) 128 b (some (b + 1)))) 129 b (some (b + 73))) 130 b (some (b + 145))) 132 b (some (b + 146))) 133 b (some (b + 147)))) 134 b (some (b + 148))
def rcX (b : Nat) (X : Xm) : Xm := lpX playX (b + 146) (b + 655) 72 (lpX playX (b + 145) (b + 151) 72 (rcX0 b X) 7) 2
def rcI (b : Nat) (I : Im) : Im := lpI playI (b + 655) 72 (lpI playI (b + 151) 72 (playI (b + 73) (playI (b + 1) I)) 7) 2
def moX (q : Nat) (X : Xm) : Xm := pR (pR (pR (pR (pR (pR (pR X 144 q (some (q + 1))) 145 q (some (q + 2))) 146 q (some (q + 3))) 147 q (some (q + 4))) 148 q (some (q + 5))) 151 q (some (q + 6))) 155 q (some (q + 7))
def moI0 (a : Nat) (I : Im) : Im := setsI a I
def moL (a : Nat) (I : Im) : Nat → Im
  | 0 => moI0 a I
  | i + 1 => pA (moL a I i) a (216 + i) (50 : Int32)
def moI (q : Nat) (I : Im) : Im := moL (q + 1) I 8
theorem ZI_reelI {a t : Nat} {I : Im} (h : ZI t I) (ht : a < t) : ZI t (reelI a I) := h.pF ht
theorem ZX_reelX {a t : Nat} {X : Xm} (h : ZX t X) (ht : a + 8 ≤ t) : ZX t (reelX a X) := ZX_lpX (fun _ _ _ h => h) (h.pR (by omega)) (by omega) 6 (by omega)
theorem ZX_scriptX {a t : Nat} {X : Xm} (h : ZX t X) (ht : a + 26 ≤ t) : ZX t (scriptX a X) := ZX_lpX (fun _ _ _ h => h) (h.pR (by omega)) (by omega) 24 (by omega)
theorem ZX_doorsX {a t : Nat} {X : Xm} (h : ZX t X) (ht : a < t) : ZX t (doorsX a X) := ((h.pR ht).pR ht).pR ht
theorem ZX_padX {a t : Nat} {X : Xm} (h : ZX t X) (ht : a < t) : ZX t (padX a X) := (h.pR ht).pR ht
theorem ZI_chanI {a t : Nat} {I : Im} (h : ZI t I) (ht : a < t) : ZI t (chanI a I) := (h.pF ht).pF ht
theorem ZI_setsI {a t : Nat} {I : Im} (h : ZI t I) (ht : a < t) : ZI t (setsI a I) := (((h.pA ht).pA ht).pA ht).pA ht
theorem ZI_playI {p t : Nat} {I : Im} (h : ZI t I) (ht : p + 72 ≤ t) : ZI t (playI p I) :=
  ZI_lpI (fun _ _ hc h => ZI_chanI h (by omega)) (ZI_lpI (fun _ _ hc h => ZI_reelI h (by omega)) (ZI_setsI h (by omega)) 4 (by omega)) 4 (by omega)
theorem ZX_playX0 {p t : Nat} {X : Xm} (h : ZX t X) (ht : p + 72 ≤ t) : ZX t (playX0 p X) := by
  have hp : p < t := by omega
  exact ((ZX.pR (ZX_doorsX (((ZX_scriptX (h.pR hp) (by omega)).pR hp |>.pR hp).pR hp) (by omega)) hp).pR hp).pR hp
theorem ZX_playX {p t : Nat} {X : Xm} (h : ZX t X) (ht : p + 72 ≤ t) : ZX t (playX p X) :=
  ZX_lpX (fun _ _ _ h => h) (ZX_lpX (fun _ _ hc h => ZX_reelX h hc) (ZX_playX0 h ht) (by omega) 4 (by omega)) (by omega) 4 (by omega)
theorem gR_reelX {a b f : Nat} {X : Xm} (hab : a < b) : gR (reelX b X) f a = gR X f a := by
  unfold reelX
  rw [gR_lpX (eX := noX) (fun _ _ _ => rfl) (by omega), gR_pR, if_neg (by omega)]
theorem gR_scriptX {a b f : Nat} {X : Xm} (hab : a < b) : gR (scriptX b X) f a = gR X f a := by
  unfold scriptX
  rw [gR_lpX (eX := noX) (fun _ _ _ => rfl) (by omega), gR_pR, if_neg (by omega)]
theorem gR_doorsX {a b f : Nat} {X : Xm} (hab : a < b) : gR (doorsX b X) f a = gR X f a := by
  unfold doorsX
  rw [gR_pR, if_neg (by omega), gR_pR, if_neg (by omega), gR_pR, if_neg (by omega)]
theorem gR_padX {a b f : Nat} {X : Xm} (hab : a < b) : gR (padX b X) f a = gR X f a := by
  unfold padX
  rw [gR_pR, if_neg (by omega), gR_pR, if_neg (by omega)]
theorem gR_playX0 {a p f : Nat} {X : Xm} (hab : a < p) : gR (playX0 p X) f a = gR X f a := by
  unfold playX0
  rw [gR_pR, if_neg (by omega), gR_pR, if_neg (by omega), gR_pR, if_neg (by omega), gR_doorsX (by omega), gR_pR, if_neg (by omega), gR_pR, if_neg (by omega), gR_pR, if_neg (by omega), gR_scriptX (by omega), gR_pR, if_neg (by omega)]
theorem gR_playX {a p f : Nat} {X : Xm} (hab : a < p) : gR (playX p X) f a = gR X f a := by
  unfold playX
  rw [gR_lpX (eX := noX) (fun _ _ _ => rfl) (by omega), gR_lpX (eX := reelX) (fun _ _ hc => gR_reelX hc) (by omega), gR_playX0 hab]
/-! the layout -/
def LY (K len : Nat → Nat) (a : Nat) (L : List (Nat × Nat)) : Prop := ∀ i, i < L.length → K (a + i) = (L.getD i (99, 0)).1 ∧ len (a + i) = (L.getD i (99, 0)).2
theorem LY.sub {K len : Nat → Nat} {a : Nat} {L : List (Nat × Nat)} (h : LY K len a L) (o : Nat) (L' : List (Nat × Nat)) (hb : o + L'.length ≤ L.length) (hs : ∀ i, i < L'.length → L.getD (o + i) (99, 0) = L'.getD i (99, 0)) : LY K len (a + o) L' := by
  intro i hi
  have := h (o + i) (by omega)
  rw [hs i hi, ← Nat.add_assoc] at this
  exact this
def layReel : List (Nat × Nat) := [(5, 0), (17, 6), (7, 0), (7, 0), (7, 0), (7, 0), (7, 0), (7, 0)]
def layScript : List (Nat × Nat) := [(6, 0), (14, 24)] ++ List.replicate 24 (1, 0)
def layDoors : List (Nat × Nat) := [(2, 0), (11, 24), (11, 24), (11, 24)]
def layPad : List (Nat × Nat) := [(3, 0), (10, 80), (11, 3)]
def layPlay : List (Nat × Nat) := [(4, 0), (11, 4)] ++ layScript ++ [(16, 4), (13, 4)] ++ layDoors ++ [(11, 24), (11, 1200)] ++ layReel ++ layReel ++ layReel ++ layReel ++ [(0, 0), (0, 0), (0, 0), (0, 0)]
def layModel : List (Nat × Nat) := [(9, 0), (11, 1620), (11, 9720), (11, 3240), (12, 2), (11, 1620), (11, 80), (11, 120)]
theorem okq {E : EN} {n : Nat} {K len : Nat → Nat} {k a : Nat} (h1 : eB E ≤ a) (h2 : a < eB E + n) (h3 : K a = k) : okA E (n, K, len) k a := ⟨h1, h2, h3⟩
theorem okA.up {E : EN} {n n' : Nat} {K len : Nat → Nat} {k a : Nat} (h : okA E (n, K, len) k a) (hn : n ≤ n') : okA E (n', K, len) k a := ⟨h.1, Nat.lt_of_lt_of_le h.2.1 (Nat.add_le_add_left hn _), h.2.2⟩
theorem WT.up {E : EN} {n n' : Nat} {K len : Nat → Nat} {X : Xm} (h : WT E (n, K, len) X) (hn : n ≤ n') : WT E (n', K, len) X :=
  ⟨fun f a b hb => (h.1 f a b hb).up hn, fun a j b hb => (h.2 a j b hb).up hn⟩
theorem wpl_push (E : EN) (n : Nat) (K len : Nat → Nat) (I : Im) (X : Xm) : wpl E (n + 1, K, len) I X = wpl E (n, K, len) I X ++ [(eB E + n, ent (eC E) K len I X (eB E + n))] := by
  simp [wpl, va_pl, List.range'_concat]
def fz (k : Nat) : List Value := (List.range (nfk k)).map (fun i => if tgf (16 * k + i) = 99 then .int 0 else .null)
theorem flds_fz {I : Im} {X : Xm} {a : Nat} (hI : ∀ f, gF I f a = 0) (hX : ∀ f, gR X f a = none) (k : Nat) : flds I X k a = fz k := by
  unfold flds fz
  refine List.map_congr_left fun i _ => ?_
  unfold fv
  rw [hI, hX]
  rfl
section XB
variable {p : Program} {l : Launch} {e : Env} {R : Room} {s : State} {m : MethodId} {args : Array Value} {below : List Frame} {meth : Method} {c : Code} {H : Heap} {locs : List Loc} {cells slots : Nat} {Q : State → Prop}
variable {cc : ByteArray} {pc : Nat} {ls : Array Slot} {rest : List Value} {E : EN} {own : String} {nL : Nat} {n : Nat} {K len : Nat → Nat} {I : Im} {X : Xm}
theorem x_push {q sl : Nat} {en : va_E} {g : JFrame} {H1 : Heap} {locs1 : List Loc} (hz : s.heap.size + cells = eB E + n) (hP : va_P (eD E) vwCl (wpl E (n, K, len) I X ++ [(q, en)]) H1) (hD : va_D (eA E) (wpl E (n, K, len) I X ++ [(q, en)])) (hS : va_S (eA E) s.heap H1 locs1) (hwt : WT E (n, K, len) X) (he : en = ent (eC E) K len I X (eB E + n))
    (kk : q = eB E + n → ∀ (H : Heap) (locs : List Loc), WD E (n + 1, K, len) I X s.heap H locs → W p l e R s m args below meth c H locs (cells + 1) sl Q g) : W p l e R s m args below meth c H1 locs1 (cells + 1) sl Q g := by
  refine W_sz fun hle => ?_
  have hg : (wpl E (n, K, len) I X ++ [(q, en)])[n]? = some (q, en) := by
    rw [List.getElem?_append_right (by rw [wpl_len]; exact Nat.le_refl n), wpl_len]
    show [(q, en)][n - n]? = _
    rw [Nat.sub_self]
    rfl
  have hlt := (hP n _ hg).lt
  have hge : eB E ≤ q := hD.2 n _ hg
  simp only at hlt
  have hq : q = eB E + n := by
    by_cases hqn : q = eB E + n
    · exact hqn
    · have hi : q - eB E < n := by omega
      have hw1 : (wpl E (n, K, len) I X ++ [(q, en)])[q - eB E]? = some (q, ent (eC E) K len I X q) := by
        rw [List.getElem?_append_left (by rw [wpl_len]; exact hi), wpl_get (G := (n, K, len)) hi, show eB E + (q - eB E) = q by omega]
      have := hD.1 _ _ _ _ hw1 hg rfl
      omega
  refine kk hq H1 locs1 ⟨⟨?_, ?_, hwt.up (Nat.le_succ n)⟩, hS⟩
  · rw [wpl_push, ← he, ← hq]
    exact hP
  · show H1.size = eB E + (n + 1)
    omega
theorem x_new (C0 : CX p s m args meth c E cc own nL) (hz : s.heap.size + cells = eB E + n) (hB : eB E ≤ s.heap.size) (hw : WD E (n, K, len) I X s.heap H locs) {q index : Nat} (hq : q = eB E + n) (hZI : ZI q I) (hZX : ZX q X) (k : Nat) (hk : k < 10) {C : String} {T : u_T} {N : Nat} (hc : vwCl[k]? = some (C, T, N)) (hin : ∀ w ∈ u_ws C T N, w ∈ GT) (ty : Nat → FieldType) (hty : ∀ k, k < N → parseFieldDescriptor (T k).2.2.1 = some (ty k)) (hfs : ∀ j, j < N → defaultValue (ty j) = vp_V (fz k) j) (hK : K q = k)
    (hl : Cond.classLink own index C ∈ GT) (hinst : Cond.instantiable C N ∈ GT) (hini : Cond.initialized C ∈ GT) (hcells : cells + 1 ≤ R.cells) (hslots : slots + N ≤ R.slots) (hd : decode cc pc = .ok (.new index, 3))
    (kk : ∀ (H : Heap) (locs : List Loc), WD E (n + 1, K, len) I X s.heap H locs → W p l e R s m args below meth c H locs (cells + 1) (slots + N) Q (F0 m (pc + 3) ls (.ref q :: rest))) : W p l e R s m args below meth c H locs cells slots Q (F0 m pc ls rest) := by
  obtain ⟨hx, hb, -, hown, hts, -, hS⟩ := C0
  refine va_new (ci := k) (fs := fz k) (C := C) (T := T) (N := N) hx hb hts hin ty hty hown (hts _ hl) (hts _ hinst) (hts _ hini) hS.1 hw.1.1 (wpl_D E (n, K, len) I X) hw.2 (fun q h => Nat.le_trans hB h) hc hfs hcells hslots hd (fun q5 H1 hP hD hS1 => ?_)
  refine x_push (q := q5) hz hP hD hS1 hw.1.2.2 ?_ fun hq5 H locs hw => ?_
  · rw [← hq, ent_o hK hk, flds_fz (hZI q (Nat.le_refl q)).1 (hZX q (Nat.le_refl q)).1]
  · rw [hq5, ← hq]
    exact kk H locs hw
theorem x_newI (C0 : CX p s m args meth c E cc own nL) (hz : s.heap.size + cells = eB E + n) (hB : eB E ≤ s.heap.size) (hw : WD E (n, K, len) I X s.heap H locs) {q : Nat} (hq : q = eB E + n) (hZI : ZI q I) (k : Nat) (hk : 10 ≤ k) (hk2 : k < 13) {ty : FieldType} (hC : (tysL (eC E))[k - 10]? = some (eC E k, ty)) (hra : ∀ cA, va_RA s cA ty = (s.vm.findClass ("[" ++ ty.toString) = some cA)) (hdef : defaultValue ty = .int 0) {atype : ArrayType} (hat : newarray.typeOf atype = ty) (harr : Cond.arrayClass (newarray.typeOf atype) ∈ GT) {v : Int32} {N : Nat} (hn : ¬ v < 0) (hN : v.toNatClampNeg = N) (hby : N * componentBytes ty ≤ 536870912) (hK : K q = k) (hL : len q = N)
    (hcells : cells + 1 ≤ R.cells) (hslots : slots + N ≤ R.slots) (hd : decode cc pc = .ok (.newarray atype, 2))
    (kk : ∀ (H : Heap) (locs : List Loc), WD E (n + 1, K, len) I X s.heap H locs → W p l e R s m args below meth c H locs (cells + 1) (slots + N) Q (F0 m (pc + 2) ls (.ref q :: rest))) : W p l e R s m args below meth c H locs cells slots Q (F0 m pc ls (.int v :: rest)) := by
  obtain ⟨hx, hb, -, hown, hts, -, hS⟩ := C0
  refine va_newa (a0 := (N, .inl (fun _ => 0))) hx hb (hts _ harr) hat hS.1 hw.1.1 (wpl_D E (n, K, len) I X) hw.2 (fun q h => Nat.le_trans hB h) (fun cA => by rw [hdef]; rfl) hn hN hby hcells hslots hd (fun q5 cA H1 hK2 hP hD hS1 => ?_)
  have hcA : cA = eC E k := by
    have h1 := (hS.1.2 _ _ hC).2
    have h2 := (hK2.2 (tysL (eC E)).length (cA, ty) (by simp)).2
    rw [hra] at h1 h2
    exact Option.some.inj (h2.symm.trans h1)
  subst hcA
  refine x_push (q := q5) hz hP hD hS1 hw.1.2.2 ?_ fun hq5 H locs hw => ?_
  · rw [← hq, ent_i hK hk hk2, hL]
    have e : gA I q = fun _ => 0 := funext fun j => (hZI q (Nat.le_refl q)).2 j
    rw [e]
  · rw [hq5, ← hq]
    exact kk H locs hw
theorem x_newQ (C0 : CX p s m args meth c E cc own nL) (hz : s.heap.size + cells = eB E + n) (hB : eB E ≤ s.heap.size) (hw : WD E (n, K, len) I X s.heap H locs) {q index : Nat} (hq : q = eB E + n) (hZX : ZX q X) (k : Nat) (hk : 13 ≤ k) {C : String} (hC : (tysL (eC E))[k - 10]? = some (eC E k, .object C)) (hao : C ∈ aoL) (hl : Cond.classLink own index C ∈ GT) {v : Int32} {N : Nat} (hn : ¬ v < 0) (hN : v.toNatClampNeg = N) (hby : N * 4 ≤ 536870912) (hK : K q = k) (hL : len q = N)
    (hcells : cells + 1 ≤ R.cells) (hslots : slots + N ≤ R.slots) (hd : decode cc pc = .ok (.anewarray index, 3))
    (kk : ∀ (H : Heap) (locs : List Loc), WD E (n + 1, K, len) I X s.heap H locs → W p l e R s m args below meth c H locs (cells + 1) (slots + N) Q (F0 m (pc + 3) ls (.ref q :: rest))) : W p l e R s m args below meth c H locs cells slots Q (F0 m pc ls (.int v :: rest)) := by
  obtain ⟨hx, hb, -, hown, hts, -, hS⟩ := C0
  refine va_newq (C := C) hx hb hown (hts _ hl) (hS.2.2.2.1 C hao) hS.1 hw.1.1 (wpl_D E (n, K, len) I X) hw.2 (fun q h => Nat.le_trans hB h) hn hN hby hcells hslots hd (fun q5 cA H1 hK2 hP hD hS1 => ?_)
  have hcA : cA = eC E k := by
    obtain ⟨-, -, -, -, -, h1⟩ := (hS.1.2 _ _ hC).2
    obtain ⟨-, -, -, -, -, h2⟩ := (hK2.2 (tysL (eC E)).length (cA, .object C) (by simp)).2
    exact Option.some.inj (h2.symm.trans h1)
  subst hcA
  refine x_push (q := q5) hz hP hD hS1 hw.1.2.2 ?_ fun hq5 H locs hw => ?_
  · rw [← hq, ent_q hK hk, hL]
    have e : gQ X q = fun _ => none := funext fun j => (hZX q (Nat.le_refl q)).2 j
    rw [e]
  · rw [hq5, ← hq]
    exact kk H locs hw
theorem x_obj (C0 : CX p s m args meth c E cc own nL) {a index : Nat} (hsz : ls.size = nL) (hl : Cond.methodLink own index objectInit ∈ GT) (hr1 : 1 ≤ R.frames) (hr2 : (rest.map fun v => v.category).sum + 12 ≤ R.locals) (hd : decode cc pc = .ok (.invokespecial index, 3))
    (kk : W p l e R s m args below meth c H locs cells slots Q (F0 m (pc + 3) ls rest)) : W p l e R s m args below meth c H locs cells slots Q (F0 m pc ls (.ref a :: rest)) := by
  refine W.objInit C0.1 C0.2.1 C0.2.2.2.1 (C0.2.2.2.2.1 _ hl) (C0.2.2.2.2.1 _ wd95) (C0.2.2.2.2.1 _ wd96) rfl (by rw [C0.2.2.1]; exact hsz) rfl hd hr1 (by have e : (F0 m pc ls (Value.ref a :: rest)).monitorRoom = 0 := rfl; omega) ?_
  exact W.eq (g2 := F0 m (pc + 3) ls rest) rfl kk
end XB
