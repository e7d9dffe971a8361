/-! ===== the pure memory: int fields, ref fields, rows of ints, rows of refs ===== -/
abbrev Im : Type := (Nat → Nat → Int32) × (Nat → Nat → Int32)
abbrev Xm : Type := (Nat → Nat → Option Nat) × (Nat → Nat → Option Nat)
def gF (I : Im) (f a : Nat) : Int32 := I.1 f a
def gA (I : Im) (a j : Nat) : Int32 := I.2 a j
def gR (X : Xm) (f a : Nat) : Option Nat := X.1 f a
def gQ (X : Xm) (a j : Nat) : Option Nat := X.2 a j
def u2 {α : Type} (g : Nat → Nat → α) (i j : Nat) (v : α) : Nat → Nat → α := fun i' j' => if i' = i ∧ j' = j then v else g i' j'
def pF (I : Im) (f a : Nat) (v : Int32) : Im := (u2 I.1 f a v, I.2)
def pA (I : Im) (a j : Nat) (v : Int32) : Im := (I.1, u2 I.2 a j v)
def pAr (I : Im) (a : Nat) (g : Nat → Int32) : Im := (I.1, fun i j => if i = a then g j else I.2 i j)
def pR (X : Xm) (f a : Nat) (v : Option Nat) : Xm := (u2 X.1 f a v, X.2)
def pQ (X : Xm) (a j : Nat) (v : Option Nat) : Xm := (X.1, u2 X.2 a j v)
def mkI (I : Im) (a : Nat) : Im := (fun f b => if b = a then 0 else I.1 f b, fun b j => if b = a then 0 else I.2 b j)
def mkX (X : Xm) (a : Nat) : Xm := (fun f b => if b = a then none else X.1 f b, fun b j => if b = a then none else X.2 b j)
theorem gF_pF (I : Im) (f a f' a' : Nat) (v : Int32) : gF (pF I f a v) f' a' = if f' = f ∧ a' = a then v else gF I f' a' := rfl
theorem gF_pA (I : Im) (f a f' a' : Nat) (v : Int32) : gF (pA I f a v) f' a' = gF I f' a' := rfl
theorem gF_pAr (I : Im) (a f' a' : Nat) (g : Nat → Int32) : gF (pAr I a g) f' a' = gF I f' a' := rfl
theorem gA_pF (I : Im) (f a f' a' : Nat) (v : Int32) : gA (pF I f a v) f' a' = gA I f' a' := rfl
theorem gA_pA (I : Im) (f a f' a' : Nat) (v : Int32) : gA (pA I f a v) f' a' = if f' = f ∧ a' = a then v else gA I f' a' := rfl
theorem gA_pAr (I : Im) (a f' a' : Nat) (g : Nat → Int32) : gA (pAr I a g) f' a' = if f' = a then g a' else gA I f' a' := rfl
theorem gR_pR (X : Xm) (f a f' a' : Nat) (v : Option Nat) : gR (pR X f a v) f' a' = if f' = f ∧ a' = a then v else gR X f' a' := rfl
theorem gR_pQ (X : Xm) (f a f' a' : Nat) (v : Option Nat) : gR (pQ X f a v) f' a' = gR X f' a' := rfl
theorem gQ_pR (X : Xm) (f a f' a' : Nat) (v : Option Nat) : gQ (pR X f a v) f' a' = gQ X f' a' := rfl
theorem gQ_pQ (X : Xm) (f a f' a' : Nat) (v : Option Nat) : gQ (pQ X f a v) f' a' = if f' = f ∧ a' = a then v else gQ X f' a' := rfl
/-! ===== partial steps of pure runs ===== -/
def nn {α β : Type} (o : Option α) (k : α → Option β) : Option β := match o with | none => none | some a => k a
theorem nn_some {α β : Type} {o : Option α} {k : α → Option β} {r : β} (h : nn o k = some r) : ∃ a, o = some a ∧ k a = some r := by
  cases o with
  | none => exact absurd h (by simp [nn])
  | some a => exact ⟨a, rfl, h⟩
def ck {β : Type} (c : Prop) [Decidable c] (k : Option β) : Option β := if c then k else none
theorem ck_some {β : Type} {c : Prop} [Decidable c] {k : Option β} {r : β} (h : ck c k = some r) : c ∧ k = some r := by
  by_cases hc : c
  · exact ⟨hc, by rw [ck, if_pos hc] at h; exact h⟩
  · rw [ck, if_neg hc] at h; exact absurd h (by simp)
def lt {α β : Type} (x : α) (k : α → Option β) : Option β := k x
theorem lt_at {α β : Type} {x y : α} {k : α → Option β} {r : β} (h : lt x k = some r) (e : y = x) : k y = some r := by rw [e]; exact h
theorem ite_t {α : Type} {c : Prop} [Decidable c] {a b o : α} (h : (if c then a else b) = o) (hc : c) : a = o := by rw [if_pos hc] at h; exact h
theorem ite_f {α : Type} {c : Prop} [Decidable c] {a b o : α} (h : (if c then a else b) = o) (hc : ¬ c) : b = o := by rw [if_neg hc] at h; exact h
def inb (i : Int32) (n : Nat) : Bool := decide (0 ≤ i.toInt ∧ i.toInt < n)
theorem inb_in {i : Int32} {n : Nat} (h : inb i n = true) : vp_in i n := vp_in_iff.mpr (of_decide_eq_true h)
/-! ===== what an object of a kind holds ===== -/
/-- the classes, the array classes, where the new cells begin, the script (where it lies, its length, its ints) -/
abbrev EN : Type := va_G × (Nat → ClassId) × Nat × (Nat × Nat) × (Nat → Int32)
def eD (E : EN) : va_G := E.1
def eC (E : EN) : Nat → ClassId := E.2.1
def eB (E : EN) : Nat := E.2.2.1
def eS (E : EN) : Nat × Nat := E.2.2.2.1
def eXs (E : EN) : Nat → Int32 := E.2.2.2.2
def eA (E : EN) : Nat → Prop := fun q => eB E ≤ q
abbrev GM : Type := Nat × (Nat → Nat) × (Nat → Nat)
def tgK : List (List Nat) := [[99, 99], [99, 99, 99, 99, 99], [11, 11, 11, 99], [10, 99, 99, 99, 11, 99], [11, 6, 16, 13, 2, 11, 99, 11, 99], [17, 99, 99, 99, 99], [14, 99, 99], [99, 99, 99, 99], [4, 4, 15, 99, 15, 12, 3]]
def tgf (f : Nat) : Nat := (tgK.getD (f / 16) []).getD (f % 16) 99
def nfk (k : Nat) : Nat := (tgK.getD k []).length
def elk (k : Nat) : Nat := [0, 1, 4, 5, 7].getD (k - 13) 99
def fv (I : Im) (X : Xm) (f a : Nat) : Value := if tgf f = 99 then .int (gF I f a) else va_rf (gR X f a)
def flds (I : Im) (X : Xm) (k a : Nat) : List Value := (List.range (nfk k)).map (fun i => fv I X (16 * k + i) a)
def ent (C : Nat → ClassId) (K len : Nat → Nat) (I : Im) (X : Xm) (a : Nat) : va_E :=
  if K a < 10 then .inr (K a, flds I X (K a) a) else if K a < 13 then .inl (C (K a), len a, .inl (gA I a)) else .inl (C (K a), len a, .inr (.inr (.inr (.inr (gQ X a)))))
def wpl (E : EN) (G : GM) (I : Im) (X : Xm) : va_W := va_pl (List.range' (eB E) G.1) (ent (eC E) G.2.1 G.2.2 I X)
def okA (E : EN) (G : GM) (k b : Nat) : Prop := eB E ≤ b ∧ b < eB E + G.1 ∧ G.2.1 b = k
def WT (E : EN) (G : GM) (X : Xm) : Prop := (∀ f a b, gR X f a = some b → okA E G (tgf f) b) ∧ ∀ a j b, gQ X a j = some b → okA E G (elk (G.2.1 a)) b
def WH (E : EN) (G : GM) (I : Im) (X : Xm) (H : Heap) : Prop := va_P (eD E) vwCl (wpl E G I X) H ∧ H.size = eB E + G.1 ∧ WT E G X
def WD (E : EN) (G : GM) (I : Im) (X : Xm) (H0 H : Heap) (locs : List Loc) : Prop := WH E G I X H ∧ va_S (eA E) H0 H locs
def tysL (C : Nat → ClassId) : List (ClassId × FieldType) := [(C 10, .char), (C 11, .int), (C 12, .boolean), (C 13, .object "RadioCues$Channel"), (C 14, .object "RadioCues$Cue"), (C 15, .object "RadioCues$Play"), (C 16, .object "RadioCues$Reel"), (C 17, .object "RadioCues$Sound")]
theorem wpl_get {E : EN} {G : GM} {I : Im} {X : Xm} {i : Nat} (h : i < G.1) : (wpl E G I X)[i]? = some (eB E + i, ent (eC E) G.2.1 G.2.2 I X (eB E + i)) := by
  simp [wpl, va_pl, List.getElem?_map, List.getElem?_range', h]
theorem wpl_len (E : EN) (G : GM) (I : Im) (X : Xm) : (wpl E G I X).length = G.1 := by simp [wpl, va_pl]
theorem wpl_inv {E : EN} {G : GM} {I : Im} {X : Xm} {i : Nat} {q : Nat × va_E} (h : (wpl E G I X)[i]? = some q) : i < G.1 ∧ q.1 = eB E + i := by
  have hi : i < G.1 := by
    have := (List.getElem?_eq_some_iff.mp h).1
    rwa [wpl_len] at this
  rw [wpl_get hi] at h
  cases h
  exact ⟨hi, rfl⟩
theorem wpl_D (E : EN) (G : GM) (I : Im) (X : Xm) : va_D (eA E) (wpl E G I X) := by
  refine ⟨fun i j p q hi hj h => ?_, fun k q hk => ?_⟩
  · have a := (wpl_inv hi).2
    have b := (wpl_inv hj).2
    omega
  · have a := (wpl_inv hk).2
    show eB E ≤ q.1
    omega
theorem wpl_at {E : EN} {G : GM} {I : Im} {X : Xm} {k a : Nat} (ta : okA E G k a) : (wpl E G I X)[a - eB E]? = some (a, ent (eC E) G.2.1 G.2.2 I X a) := by
  obtain ⟨h1, h2, -⟩ := ta
  rw [wpl_get (by omega), show eB E + (a - eB E) = a by omega]
theorem ent_o {C : Nat → ClassId} {K len : Nat → Nat} {I : Im} {X : Xm} {a k : Nat} (h : K a = k) (hk : k < 10) : ent C K len I X a = .inr (k, flds I X k a) := by
  subst h
  simp [ent, hk]
theorem ent_i {C : Nat → ClassId} {K len : Nat → Nat} {I : Im} {X : Xm} {a k : Nat} (h : K a = k) (hk : 10 ≤ k) (hk2 : k < 13) : ent C K len I X a = .inl (C k, len a, .inl (gA I a)) := by
  subst h
  simp [ent, show ¬ K a < 10 by omega, hk2]
theorem ent_q {C : Nat → ClassId} {K len : Nat → Nat} {I : Im} {X : Xm} {a k : Nat} (h : K a = k) (hk : 13 ≤ k) : ent C K len I X a = .inl (C k, len a, .inr (.inr (.inr (.inr (gQ X a))))) := by
  subst h
  simp [ent, show ¬ K a < 10 by omega, show ¬ K a < 13 by omega]
theorem wpl_o {E : EN} {G : GM} {I : Im} {X : Xm} {k a : Nat} (ta : okA E G k a) (hk : k < 10) : (wpl E G I X)[a - eB E]? = some (a, .inr (k, flds I X k a)) := by
  rw [wpl_at ta, ent_o ta.2.2 hk]
theorem wpl_i {E : EN} {G : GM} {I : Im} {X : Xm} {k a : Nat} (ta : okA E G k a) (hk : 10 ≤ k) (hk2 : k < 13) : (wpl E G I X)[a - eB E]? = some (a, .inl (eC E k, G.2.2 a, .inl (gA I a))) := by
  rw [wpl_at ta, ent_i ta.2.2 hk hk2]
theorem wpl_q {E : EN} {G : GM} {I : Im} {X : Xm} {k a : Nat} (ta : okA E G k a) (hk : 13 ≤ k) : (wpl E G I X)[a - eB E]? = some (a, .inl (eC E k, G.2.2 a, .inr (.inr (.inr (.inr (gQ X a)))))) := by
  rw [wpl_at ta, ent_q ta.2.2 hk]
theorem flds_at {I : Im} {X : Xm} {k a i : Nat} (h : i < nfk k) : (flds I X k a)[i]? = some (fv I X (16 * k + i) a) := by
  simp [flds, List.getElem?_map, h]
theorem flds_len (I : Im) (X : Xm) (k a : Nat) : (flds I X k a).length = nfk k := by simp [flds]
theorem fv_i {I : Im} {X : Xm} {f a : Nat} (h : tgf f = 99) : fv I X f a = .int (gF I f a) := by simp [fv, h]
theorem fv_r {I : Im} {X : Xm} {f a : Nat} (h : tgf f ≠ 99) : fv I X f a = va_rf (gR X f a) := by simp [fv, h]
/-- one entry set, the others as they were: another memory -/
theorem wpl_set {E : EN} {G : GM} {I I' : Im} {X X' : Xm} {a : Nat} {e : va_E} (h1 : eB E ≤ a) (h2 : a < eB E + G.1) (he : ent (eC E) G.2.1 G.2.2 I' X' a = e) (ho : ∀ b, b ≠ a → ent (eC E) G.2.1 G.2.2 I' X' b = ent (eC E) G.2.1 G.2.2 I X b) : (wpl E G I X).set (a - eB E) (a, e) = wpl E G I' X' := by
  apply List.ext_getElem?
  intro i
  by_cases hi : i < G.1
  · rw [wpl_get hi]
    by_cases h : i = a - eB E
    · subst h
      rw [List.getElem?_set_self (by rw [wpl_len]; exact hi), show eB E + (a - eB E) = a by omega, he]
    · rw [List.getElem?_set_ne (Ne.symm h), wpl_get hi, ho _ (by omega)]
  · rw [List.getElem?_eq_none (by rw [List.length_set, wpl_len]; omega), List.getElem?_eq_none (by rw [wpl_len]; omega)]
theorem flds_ne {I I' : Im} {X X' : Xm} {b : Nat} (h1 : ∀ f, gF I' f b = gF I f b) (h2 : ∀ f, gR X' f b = gR X f b) (k : Nat) : flds I' X' k b = flds I X k b := by
  simp [flds, fv, h1, h2]
theorem ent_ne {C : Nat → ClassId} {K len : Nat → Nat} {I I' : Im} {X X' : Xm} {b : Nat} (h1 : ∀ f, gF I' f b = gF I f b) (h2 : ∀ f, gR X' f b = gR X f b) (h3 : ∀ j, gA I' b j = gA I b j) (h4 : ∀ j, gQ X' b j = gQ X b j) : ent C K len I' X' b = ent C K len I X b := by
  have e3 : gA I' b = gA I b := funext h3
  have e4 : gQ X' b = gQ X b := funext h4
  simp [ent, flds_ne h1 h2, e3, e4]
theorem flds_set {I I' : Im} {X X' : Xm} {k a i : Nat} {v : Value} (hi : i < nfk k) (hv : fv I' X' (16 * k + i) a = v) (ho : ∀ j, j ≠ i → fv I' X' (16 * k + j) a = fv I X (16 * k + j) a) : (flds I X k a).set i v = flds I' X' k a := by
  apply List.ext_getElem?
  intro j
  by_cases hj : j < nfk k
  · rw [flds_at hj]
    by_cases h : j = i
    · subst h
      rw [List.getElem?_set_self (by rw [flds_len]; exact hi), hv]
    · rw [List.getElem?_set_ne (Ne.symm h), flds_at hj, ho j h]
  · rw [List.getElem?_eq_none (by rw [List.length_set, flds_len]; omega), List.getElem?_eq_none (by rw [flds_len]; omega)]
theorem wpl_setF {E : EN} {G : GM} {I : Im} {X : Xm} {k i a : Nat} {v : Int32} (ta : okA E G k a) (hk : k < 10) (hi : i < nfk k) (hr : tgf (16 * k + i) = 99) : (wpl E G I X).set (a - eB E) (a, .inr (k, (flds I X k a).set i (.int v))) = wpl E G (pF I (16 * k + i) a v) X := by
  refine wpl_set ta.1 ta.2.1 ?_ (fun b hb => ent_ne (fun f => ?_) (fun _ => rfl) (fun _ => rfl) (fun _ => rfl))
  · rw [ent_o ta.2.2 hk, flds_set (I' := pF I (16 * k + i) a v) (X' := X) hi ?_ ?_]
    · rw [fv_i hr, gF_pF, if_pos ⟨rfl, rfl⟩]
    · intro j hj
      simp only [fv, gF_pF]
      rw [if_neg (show ¬ (16 * k + j = 16 * k + i ∧ True) from fun q => hj (by omega))]
  · rw [gF_pF, if_neg (fun q => hb q.2)]
theorem wpl_setR {E : EN} {G : GM} {I : Im} {X : Xm} {k i a : Nat} {v : Option Nat} (ta : okA E G k a) (hk : k < 10) (hi : i < nfk k) (hr : tgf (16 * k + i) ≠ 99) : (wpl E G I X).set (a - eB E) (a, .inr (k, (flds I X k a).set i (va_rf v))) = wpl E G I (pR X (16 * k + i) a v) := by
  refine wpl_set ta.1 ta.2.1 ?_ (fun b hb => ent_ne (fun _ => rfl) (fun f => ?_) (fun _ => rfl) (fun _ => rfl))
  · rw [ent_o ta.2.2 hk, flds_set (I' := I) (X' := pR X (16 * k + i) a v) hi ?_ ?_]
    · rw [fv_r hr, gR_pR, if_pos ⟨rfl, rfl⟩]
    · intro j hj
      simp only [fv, gR_pR]
      rw [if_neg (show ¬ (16 * k + j = 16 * k + i ∧ True) from fun q => hj (by omega))]
  · rw [gR_pR, if_neg (fun q => hb q.2)]
theorem wpl_setA {E : EN} {G : GM} {I : Im} {X : Xm} {k a : Nat} {g : Nat → Int32} (ta : okA E G k a) (hk : 10 ≤ k) (hk2 : k < 13) : (wpl E G I X).set (a - eB E) (a, .inl (eC E k, G.2.2 a, .inl g)) = wpl E G (pAr I a g) X := by
  refine wpl_set ta.1 ta.2.1 ?_ (fun b hb => ent_ne (fun _ => rfl) (fun _ => rfl) (fun j => ?_) (fun _ => rfl))
  · rw [ent_i ta.2.2 hk hk2]
    have e : gA (pAr I a g) a = g := by funext j; rw [gA_pAr, if_pos rfl]
    rw [e]
  · rw [gA_pAr, if_neg hb]
theorem pA_upd (I : Im) (a j : Nat) (v : Int32) : pAr I a (upd (gA I a) j v) = pA I a j v := by
  unfold pAr pA
  refine congrArg (fun q => (I.1, q)) ?_
  funext i k
  by_cases h1 : i = a
  · subst h1
    by_cases h2 : k = j
    · subst h2
      simp [u2, upd]
    · simp [u2, upd, h2, gA]
  · simp [u2, h1]
theorem wpl_setQ {E : EN} {G : GM} {I : Im} {X : Xm} {k a j : Nat} {v : Option Nat} (ta : okA E G k a) (hk : 13 ≤ k) : (wpl E G I X).set (a - eB E) (a, .inl (eC E k, G.2.2 a, .inr (.inr (.inr (.inr (va_up (gQ X a) j v)))))) = wpl E G I (pQ X a j v) := by
  refine wpl_set ta.1 ta.2.1 ?_ (fun b hb => ent_ne (fun _ => rfl) (fun _ => rfl) (fun _ => rfl) (fun i => ?_))
  · rw [ent_q ta.2.2 hk]
    have e : gQ (pQ X a j v) a = va_up (gQ X a) j v := by
      funext i
      rw [gQ_pQ]
      by_cases h : i = j
      · simp [va_up, h]
      · simp [va_up, h]
    rw [e]
  · rw [gQ_pQ, if_neg (fun q => hb q.1)]
theorem wpl_ge {E : EN} {G : GM} {I : Im} {X : Xm} {H : Heap} (h : va_P (eD E) vwCl (wpl E G I X) H) (hn : 0 < G.1) : eB E + G.1 ≤ H.size := by
  have a := (h (G.1 - 1) _ (wpl_get (by omega))).lt
  simp only at a
  omega
theorem wt_r {E : EN} {G : GM} {I : Im} {X : Xm} {H0 H : Heap} {locs : List Loc} {f a b : Nat} (hw : WD E G I X H0 H locs) (h : gR X f a = some b) : okA E G (tgf f) b := hw.1.2.2.1 f a b h
theorem wt_q {E : EN} {G : GM} {I : Im} {X : Xm} {H0 H : Heap} {locs : List Loc} {k a j b : Nat} (hw : WD E G I X H0 H locs) (ta : okA E G k a) (h : gQ X a j = some b) : okA E G (elk k) b := by
  have := hw.1.2.2.2 a j b h
  rwa [ta.2.2] at this
theorem wt_pR {E : EN} {G : GM} {X : Xm} {f a b : Nat} (h : WT E G X) (tb : okA E G (tgf f) b) : WT E G (pR X f a (some b)) := by
  refine ⟨fun f' a' b' hb => ?_, h.2⟩
  rw [gR_pR] at hb
  split at hb
  · cases hb
    rename_i q
    rw [q.1]; exact tb
  · exact h.1 _ _ _ hb
theorem wt_pQ {E : EN} {G : GM} {X : Xm} {k a j b : Nat} (h : WT E G X) (ta : okA E G k a) (tb : okA E G (elk k) b) : WT E G (pQ X a j (some b)) := by
  refine ⟨h.1, fun a' j' b' hb => ?_⟩
  rw [gQ_pQ] at hb
  split at hb
  · cases hb
    rename_i q
    rw [q.1, ta.2.2]; exact tb
  · exact h.2 _ _ _ hb
