/-! ===== the pure memory: int fields, ref fields, rows of ints, rows of refs ===== -/
abbrev Mm : Type := (Nat → Nat → Int32) × (Nat → Nat → Option Nat) × (Nat → Nat → Int32) × (Nat → Nat → Option Nat)
def gF (M : Mm) (f a : Nat) : Int32 := M.1 f a
def gR (M : Mm) (f a : Nat) : Option Nat := M.2.1 f a
def gA (M : Mm) (a j : Nat) : Int32 := M.2.2.1 a j
def gQ (M : Mm) (a j : Nat) : Option Nat := M.2.2.2 a j
def u2 {α : Type} (g : Nat → Nat → α) (i j : Nat) (v : α) : Nat → Nat → α := fun i' j' => if i' = i ∧ j' = j then v else g i' j'
def pF (M : Mm) (f a : Nat) (v : Int32) : Mm := (u2 M.1 f a v, M.2)
def pR (M : Mm) (f a : Nat) (v : Option Nat) : Mm := (M.1, u2 M.2.1 f a v, M.2.2)
def pA (M : Mm) (a j : Nat) (v : Int32) : Mm := (M.1, M.2.1, u2 M.2.2.1 a j v, M.2.2.2)
def pQ (M : Mm) (a j : Nat) (v : Option Nat) : Mm := (M.1, M.2.1, M.2.2.1, u2 M.2.2.2 a j v)
def pAr (M : Mm) (a : Nat) (g : Nat → Int32) : Mm := (M.1, M.2.1, (fun i j => if i = a then g j else M.2.2.1 i j), M.2.2.2)
def mk0 (M : Mm) (a : Nat) : Mm := (fun f b => if b = a then 0 else M.1 f b, fun f b => if b = a then none else M.2.1 f b, fun b j => if b = a then 0 else M.2.2.1 b j, fun b j => if b = a then none else M.2.2.2 b j)
theorem gF_pF (M : Mm) (f a f' a' : Nat) (v : Int32) : gF (pF M f a v) f' a' = if f' = f ∧ a' = a then v else gF M f' a' := rfl
theorem gF_pR (M : Mm) (f a f' a' : Nat) (v : Option Nat) : gF (pR M f a v) f' a' = gF M f' a' := rfl
theorem gF_pA (M : Mm) (f a f' a' : Nat) (v : Int32) : gF (pA M f a v) f' a' = gF M f' a' := rfl
theorem gF_pQ (M : Mm) (f a f' a' : Nat) (v : Option Nat) : gF (pQ M f a v) f' a' = gF M f' a' := rfl
theorem gF_pAr (M : Mm) (a f' a' : Nat) (g : Nat → Int32) : gF (pAr M a g) f' a' = gF M f' a' := rfl
theorem gR_pF (M : Mm) (f a f' a' : Nat) (v : Int32) : gR (pF M f a v) f' a' = gR M f' a' := rfl
theorem gR_pR (M : Mm) (f a f' a' : Nat) (v : Option Nat) : gR (pR M f a v) f' a' = if f' = f ∧ a' = a then v else gR M f' a' := rfl
theorem gR_pA (M : Mm) (f a f' a' : Nat) (v : Int32) : gR (pA M f a v) f' a' = gR M f' a' := rfl
theorem gR_pQ (M : Mm) (f a f' a' : Nat) (v : Option Nat) : gR (pQ M f a v) f' a' = gR M f' a' := rfl
theorem gR_pAr (M : Mm) (a f' a' : Nat) (g : Nat → Int32) : gR (pAr M a g) f' a' = gR M f' a' := rfl
theorem gA_pF (M : Mm) (f a f' a' : Nat) (v : Int32) : gA (pF M f a v) f' a' = gA M f' a' := rfl
theorem gA_pR (M : Mm) (f a f' a' : Nat) (v : Option Nat) : gA (pR M f a v) f' a' = gA M f' a' := rfl
theorem gA_pA (M : Mm) (f a f' a' : Nat) (v : Int32) : gA (pA M f a v) f' a' = if f' = f ∧ a' = a then v else gA M f' a' := rfl
theorem gA_pQ (M : Mm) (f a f' a' : Nat) (v : Option Nat) : gA (pQ M f a v) f' a' = gA M f' a' := rfl
theorem gA_pAr (M : Mm) (a f' a' : Nat) (g : Nat → Int32) : gA (pAr M a g) f' a' = if f' = a then g a' else gA M f' a' := rfl
theorem gQ_pF (M : Mm) (f a f' a' : Nat) (v : Int32) : gQ (pF M f a v) f' a' = gQ M f' a' := rfl
theorem gQ_pR (M : Mm) (f a f' a' : Nat) (v : Option Nat) : gQ (pR M f a v) f' a' = gQ M f' a' := rfl
theorem gQ_pA (M : Mm) (f a f' a' : Nat) (v : Int32) : gQ (pA M f a v) f' a' = gQ M f' a' := rfl
theorem gQ_pQ (M : Mm) (f a f' a' : Nat) (v : Option Nat) : gQ (pQ M f a v) f' a' = if f' = f ∧ a' = a then v else gQ M f' a' := rfl
theorem gQ_pAr (M : Mm) (a f' a' : Nat) (g : Nat → Int32) : gQ (pAr M a g) f' a' = gQ M f' a' := rfl
/-! ===== partial steps of pure runs ===== -/
def nn {α β : Type} (o : Option α) (k : α → Option β) : Option β := match o with | none => none | some a => k a
theorem nn_some {α β : Type} {o : Option α} {k : α → Option β} {r : β} (h : nn o k = some r) : ∃ a, o = some a ∧ k a = some r := by
  cases o with
  | none => exact absurd h (by simp [nn])
  | some a => exact ⟨a, rfl, h⟩
def ck {β : Type} (c : Prop) [Decidable c] (k : Option β) : Option β := if c then k else none
theorem ck_some {β : Type} {c : Prop} [Decidable c] {k : Option β} {r : β} (h : ck c k = some r) : c ∧ k = some r := by
  by_cases hc : c
  · exact ⟨hc, by rw [ck, if_pos hc] at h; exact h⟩
  · rw [ck, if_neg hc] at h; exact absurd h (by simp)
def lt {α β : Type} (x : α) (k : α → Option β) : Option β := k x
theorem lt_at {α β : Type} {x y : α} {k : α → Option β} {r : β} (h : lt x k = some r) (e : y = x) : k y = some r := by rw [e]; exact h
theorem ite_t {α : Type} {c : Prop} [Decidable c] {a b o : α} (h : (if c then a else b) = o) (hc : c) : a = o := by rw [if_pos hc] at h; exact h
theorem ite_f {α : Type} {c : Prop} [Decidable c] {a b o : α} (h : (if c then a else b) = o) (hc : ¬ c) : b = o := by rw [if_neg hc] at h; exact h
def inb (i : Int32) (n : Nat) : Bool := decide (0 ≤ i.toInt ∧ i.toInt < n)
theorem inb_in {i : Int32} {n : Nat} (h : inb i n = true) : vp_in i n := vp_in_iff.mpr (of_decide_eq_true h)
/-! ===== what an object of a kind holds ===== -/
abbrev EN : Type := va_G × (Nat → ClassId) × Nat × (Nat → Nat) × (Nat → Nat)
def eD (E : EN) : va_G := E.1
def eC (E : EN) : Nat → ClassId := E.2.1
def eB (E : EN) : Nat := E.2.2.1
def eK (E : EN) : Nat → Nat := E.2.2.2.1
def eV (E : EN) : Nat → Nat := E.2.2.2.2
def eA (E : EN) : Nat → Prop := fun q => eB E ≤ q
abbrev GM : Type := Nat × (Nat → Nat) × (Nat → Nat)
def tgK : List (List Nat) := [[99, 99], [99, 99, 99, 99, 99], [11, 11, 11, 99], [10, 99, 99, 99, 11, 99], [11, 6, 16, 13, 2, 11, 99, 11, 99], [17, 99, 99, 99, 99], [14, 99, 99], [99, 99, 99, 99], [4, 4, 15, 99, 15, 12, 3], [11, 11, 11, 12, 11, 99, 99, 11, 99, 99, 99, 11]]
def tgf (f : Nat) : Nat := (tgK.getD (f / 16) []).getD (f % 16) 99
def nfk (k : Nat) : Nat := (tgK.getD k []).length
def elk (k : Nat) : Nat := [0, 1, 4, 5, 7].getD (k - 13) 99
def fv (M : Mm) (f a : Nat) : Value := if tgf f = 99 then .int (gF M f a) else va_rf (gR M f a)
def flds (M : Mm) (k a : Nat) : List Value := (List.range (nfk k)).map (fun i => fv M (16 * k + i) a)
def ent (C : Nat → ClassId) (K len : Nat → Nat) (M : Mm) (a : Nat) : va_E :=
  if K a < 10 then .inr (K a, flds M (K a) a) else if K a < 13 then .inl (C (K a), len a, .inl (gA M a)) else .inl (C (K a), len a, .inr (.inr (.inr (.inr (gQ M a)))))
def wpl (E : EN) (G : GM) (M : Mm) : va_W := va_pl (List.range' (eB E) G.1) (ent (eC E) G.2.1 G.2.2 M)
def okA (E : EN) (G : GM) (k b : Nat) : Prop := eB E ≤ b ∧ b < eB E + G.1 ∧ G.2.1 b = k
def WT (E : EN) (G : GM) (M : Mm) : Prop := (∀ f a b, gR M f a = some b → okA E G (tgf f) b) ∧ ∀ a j b, gQ M a j = some b → okA E G (elk (G.2.1 a)) b
def WH (E : EN) (G : GM) (M : Mm) (H : Heap) : Prop := va_P (eD E) vwCl (wpl E G M) H ∧ H.size = eB E + G.1 ∧ WT E G M
def WD (E : EN) (G : GM) (M : Mm) (H0 H : Heap) (locs : List Loc) : Prop := WH E G M H ∧ va_S (eA E) H0 H locs
def tysL (C : Nat → ClassId) : List (ClassId × FieldType) := [(C 10, .char), (C 11, .int), (C 12, .boolean), (C 13, .object "RadioCues$Channel"), (C 14, .object "RadioCues$Cue"), (C 15, .object "RadioCues$Play"), (C 16, .object "RadioCues$Reel"), (C 17, .object "RadioCues$Sound")]
theorem wpl_get {E : EN} {G : GM} {M : Mm} {i : Nat} (h : i < G.1) : (wpl E G M)[i]? = some (eB E + i, ent (eC E) G.2.1 G.2.2 M (eB E + i)) := by
  simp [wpl, va_pl, List.getElem?_map, List.getElem?_range', h]
theorem wpl_len (E : EN) (G : GM) (M : Mm) : (wpl E G M).length = G.1 := by simp [wpl, va_pl]
theorem wpl_inv {E : EN} {G : GM} {M : Mm} {i : Nat} {q : Nat × va_E} (h : (wpl E G M)[i]? = some q) : i < G.1 ∧ q.1 = eB E + i := by
  have hi : i < G.1 := by
    have := (List.getElem?_eq_some_iff.mp h).1
    rwa [wpl_len] at this
  rw [wpl_get hi] at h
  cases h
  exact ⟨hi, rfl⟩
theorem wpl_D (E : EN) (G : GM) (M : Mm) : va_D (eA E) (wpl E G M) := by
  refine ⟨fun i j p q hi hj h => ?_, fun k q hk => ?_⟩
  · have a := (wpl_inv hi).2
    have b := (wpl_inv hj).2
    omega
  · have a := (wpl_inv hk).2
    show eB E ≤ q.1
    omega
theorem wpl_at {E : EN} {G : GM} {M : Mm} {k a : Nat} (ta : okA E G k a) : (wpl E G M)[a - eB E]? = some (a, ent (eC E) G.2.1 G.2.2 M a) := by
  obtain ⟨h1, h2, -⟩ := ta
  rw [wpl_get (by omega), show eB E + (a - eB E) = a by omega]
theorem ent_o {C : Nat → ClassId} {K len : Nat → Nat} {M : Mm} {a k : Nat} (h : K a = k) (hk : k < 10) : ent C K len M a = .inr (k, flds M k a) := by
  subst h
  simp [ent, hk]
theorem ent_i {C : Nat → ClassId} {K len : Nat → Nat} {M : Mm} {a k : Nat} (h : K a = k) (hk : 10 ≤ k) (hk2 : k < 13) : ent C K len M a = .inl (C k, len a, .inl (gA M a)) := by
  subst h
  simp [ent, show ¬ K a < 10 by omega, hk2]
theorem ent_q {C : Nat → ClassId} {K len : Nat → Nat} {M : Mm} {a k : Nat} (h : K a = k) (hk : 13 ≤ k) : ent C K len M a = .inl (C k, len a, .inr (.inr (.inr (.inr (gQ M a))))) := by
  subst h
  simp [ent, show ¬ K a < 10 by omega, show ¬ K a < 13 by omega]
theorem wpl_o {E : EN} {G : GM} {M : Mm} {k a : Nat} (ta : okA E G k a) (hk : k < 10) : (wpl E G M)[a - eB E]? = some (a, .inr (k, flds M k a)) := by
  rw [wpl_at ta, ent_o ta.2.2 hk]
theorem wpl_i {E : EN} {G : GM} {M : Mm} {k a : Nat} (ta : okA E G k a) (hk : 10 ≤ k) (hk2 : k < 13) : (wpl E G M)[a - eB E]? = some (a, .inl (eC E k, G.2.2 a, .inl (gA M a))) := by
  rw [wpl_at ta, ent_i ta.2.2 hk hk2]
theorem wpl_q {E : EN} {G : GM} {M : Mm} {k a : Nat} (ta : okA E G k a) (hk : 13 ≤ k) : (wpl E G M)[a - eB E]? = some (a, .inl (eC E k, G.2.2 a, .inr (.inr (.inr (.inr (gQ M a)))))) := by
  rw [wpl_at ta, ent_q ta.2.2 hk]
theorem flds_at {M : Mm} {k a i : Nat} (h : i < nfk k) : (flds M k a)[i]? = some (fv M (16 * k + i) a) := by
  simp [flds, List.getElem?_map, h]
theorem flds_len (M : Mm) (k a : Nat) : (flds M k a).length = nfk k := by simp [flds]
theorem fv_i {M : Mm} {f a : Nat} (h : tgf f = 99) : fv M f a = .int (gF M f a) := by simp [fv, h]
theorem fv_r {M : Mm} {f a : Nat} (h : tgf f ≠ 99) : fv M f a = va_rf (gR M f a) := by simp [fv, h]
/-- one entry set, the others as they were: another memory -/
theorem wpl_set {E : EN} {G : GM} {M M' : Mm} {a : Nat} {e : va_E} (h1 : eB E ≤ a) (h2 : a < eB E + G.1) (he : ent (eC E) G.2.1 G.2.2 M' a = e) (ho : ∀ b, b ≠ a → ent (eC E) G.2.1 G.2.2 M' b = ent (eC E) G.2.1 G.2.2 M b) : (wpl E G M).set (a - eB E) (a, e) = wpl E G M' := by
  apply List.ext_getElem?
  intro i
  by_cases hi : i < G.1
  · rw [wpl_get hi]
    by_cases h : i = a - eB E
    · subst h
      rw [List.getElem?_set_self (by rw [wpl_len]; exact hi), show eB E + (a - eB E) = a by omega, he]
    · rw [List.getElem?_set_ne (Ne.symm h), wpl_get hi, ho _ (by omega)]
  · rw [List.getElem?_eq_none (by rw [List.length_set, wpl_len]; omega), List.getElem?_eq_none (by rw [wpl_len]; omega)]
theorem flds_ne {M M' : Mm} {b : Nat} (h1 : ∀ f, gF M' f b = gF M f b) (h2 : ∀ f, gR M' f b = gR M f b) (k : Nat) : flds M' k b = flds M k b := by
  simp [flds, fv, h1, h2]
theorem ent_ne {C : Nat → ClassId} {K len : Nat → Nat} {M M' : Mm} {b : Nat} (h1 : ∀ f, gF M' f b = gF M f b) (h2 : ∀ f, gR M' f b = gR M f b) (h3 : ∀ j, gA M' b j = gA M b j) (h4 : ∀ j, gQ M' b j = gQ M b j) : ent C K len M' b = ent C K len M b := by
  have e3 : gA M' b = gA M b := funext h3
  have e4 : gQ M' b = gQ M b := funext h4
  simp [ent, flds_ne h1 h2, e3, e4]
theorem flds_set {M M' : Mm} {k a i : Nat} {v : Value} (hi : i < nfk k) (hv : fv M' (16 * k + i) a = v) (ho : ∀ j, j ≠ i → fv M' (16 * k + j) a = fv M (16 * k + j) a) : (flds M k a).set i v = flds M' k a := by
  apply List.ext_getElem?
  intro j
  by_cases hj : j < nfk k
  · rw [flds_at hj]
    by_cases h : j = i
    · subst h
      rw [List.getElem?_set_self (by rw [flds_len]; exact hi), hv]
    · rw [List.getElem?_set_ne (Ne.symm h), flds_at hj, ho j h]
  · rw [List.getElem?_eq_none (by rw [List.length_set, flds_len]; omega), List.getElem?_eq_none (by rw [flds_len]; omega)]
theorem wpl_setF {E : EN} {G : GM} {M : Mm} {k i a : Nat} {v : Int32} (ta : okA E G k a) (hk : k < 10) (hi : i < nfk k) (hr : tgf (16 * k + i) = 99) : (wpl E G M).set (a - eB E) (a, .inr (k, (flds M k a).set i (.int v))) = wpl E G (pF M (16 * k + i) a v) := by
  refine wpl_set ta.1 ta.2.1 ?_ (fun b hb => ent_ne (fun f => ?_) (fun _ => rfl) (fun _ => rfl) (fun _ => rfl))
  · rw [ent_o ta.2.2 hk, flds_set (M' := pF M (16 * k + i) a v) hi ?_ ?_]
    · rw [fv_i hr, gF_pF, if_pos ⟨rfl, rfl⟩]
    · intro j hj
      simp only [fv, gF_pF, gR_pF]
      rw [if_neg (show ¬ (16 * k + j = 16 * k + i ∧ True) from fun q => hj (by omega))]
  · rw [gF_pF, if_neg (fun q => hb q.2)]
theorem wpl_setR {E : EN} {G : GM} {M : Mm} {k i a : Nat} {v : Option Nat} (ta : okA E G k a) (hk : k < 10) (hi : i < nfk k) (hr : tgf (16 * k + i) ≠ 99) : (wpl E G M).set (a - eB E) (a, .inr (k, (flds M k a).set i (va_rf v))) = wpl E G (pR M (16 * k + i) a v) := by
  refine wpl_set ta.1 ta.2.1 ?_ (fun b hb => ent_ne (fun _ => rfl) (fun f => ?_) (fun _ => rfl) (fun _ => rfl))
  · rw [ent_o ta.2.2 hk, flds_set (M' := pR M (16 * k + i) a v) hi ?_ ?_]
    · rw [fv_r hr, gR_pR, if_pos ⟨rfl, rfl⟩]
    · intro j hj
      simp only [fv, gF_pR, gR_pR]
      rw [if_neg (show ¬ (16 * k + j = 16 * k + i ∧ True) from fun q => hj (by omega))]
  · rw [gR_pR, if_neg (fun q => hb q.2)]
theorem wpl_setA {E : EN} {G : GM} {M : Mm} {k a : Nat} {g : Nat → Int32} (ta : okA E G k a) (hk : 10 ≤ k) (hk2 : k < 13) : (wpl E G M).set (a - eB E) (a, .inl (eC E k, G.2.2 a, .inl g)) = wpl E G (pAr M a g) := by
  refine wpl_set ta.1 ta.2.1 ?_ (fun b hb => ent_ne (fun _ => rfl) (fun _ => rfl) (fun j => ?_) (fun _ => rfl))
  · rw [ent_i ta.2.2 hk hk2]
    have e : gA (pAr M a g) a = g := by funext j; rw [gA_pAr, if_pos rfl]
    rw [e]
  · rw [gA_pAr, if_neg hb]
theorem pA_upd (M : Mm) (a j : Nat) (v : Int32) : pAr M a (upd (gA M a) j v) = pA M a j v := by
  unfold pAr pA
  refine congrArg (fun q => (M.1, M.2.1, q, M.2.2.2)) ?_
  funext i k
  by_cases h1 : i = a
  · subst h1
    by_cases h2 : k = j
    · subst h2
      simp [u2, upd]
    · simp [u2, upd, h2, gA]
  · simp [u2, h1]
theorem wpl_setQ {E : EN} {G : GM} {M : Mm} {k a j : Nat} {v : Option Nat} (ta : okA E G k a) (hk : 13 ≤ k) : (wpl E G M).set (a - eB E) (a, .inl (eC E k, G.2.2 a, .inr (.inr (.inr (.inr (va_up (gQ M a) j v)))))) = wpl E G (pQ M a j v) := by
  refine wpl_set ta.1 ta.2.1 ?_ (fun b hb => ent_ne (fun _ => rfl) (fun _ => rfl) (fun _ => rfl) (fun i => ?_))
  · rw [ent_q ta.2.2 hk]
    have e : gQ (pQ M a j v) a = va_up (gQ M a) j v := by
      funext i
      rw [gQ_pQ]
      by_cases h : i = j
      · simp [va_up, h]
      · simp [va_up, h]
    rw [e]
  · rw [gQ_pQ, if_neg (fun q => hb q.1)]
theorem wpl_ge {E : EN} {G : GM} {M : Mm} {H : Heap} (h : va_P (eD E) vwCl (wpl E G M) H) (hn : 0 < G.1) : eB E + G.1 ≤ H.size := by
  have a := (h (G.1 - 1) _ (wpl_get (by omega))).lt
  simp only at a
  omega
theorem wt_r {E : EN} {G : GM} {M : Mm} {H0 H : Heap} {locs : List Loc} {f a b : Nat} (hw : WD E G M H0 H locs) (h : gR M f a = some b) : okA E G (tgf f) b := hw.1.2.2.1 f a b h
theorem wt_q {E : EN} {G : GM} {M : Mm} {H0 H : Heap} {locs : List Loc} {k a j b : Nat} (hw : WD E G M H0 H locs) (ta : okA E G k a) (h : gQ M a j = some b) : okA E G (elk k) b := by
  have := hw.1.2.2.2 a j b h
  rwa [ta.2.2] at this
theorem wt_pR {E : EN} {G : GM} {M : Mm} {f a b : Nat} (h : WT E G M) (tb : okA E G (tgf f) b) : WT E G (pR M f a (some b)) := by
  refine ⟨fun f' a' b' hb => ?_, h.2⟩
  rw [gR_pR] at hb
  split at hb
  · cases hb
    rename_i q
    rw [q.1]; exact tb
  · exact h.1 _ _ _ hb
theorem wt_pQ {E : EN} {G : GM} {M : Mm} {k a j b : Nat} (h : WT E G M) (ta : okA E G k a) (tb : okA E G (elk k) b) : WT E G (pQ M a j (some b)) := by
  refine ⟨h.1, fun a' j' b' hb => ?_⟩
  rw [gQ_pQ] at hb
  split at hb
  · cases hb
    rename_i q
    rw [q.1, ta.2.2]; exact tb
  · exact h.2 _ _ _ hb
