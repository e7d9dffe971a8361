/-! ===== the fault of a text ===== -/
/-- the orders of a text from a place on: none, or where the fault is -/
def flt (c : Nat → Nat) (t : Nat) : Nat → Nat → Option Nat
  | 0, a => some a
  | j + 1, a => if (ordS c a).1 = true then (if (ordS c a).2.1 = t then none else if c (ordS c a).2.1 = 59 then flt c t j ((ordS c a).2.1 + 1) else some (ordS c a).2.1) else some (ordS c a).2.1
def fltV (o : Option Nat) : Int32 := match o with | none => -6 | some a => nI a
/-- where the orders of a text begin -/
def oat (c : Nat → Nat) : Nat → Nat
  | 0 => 0
  | n + 1 => (ordS c (oat c n)).2.1 + 1
/-- a text of so many orders -/
def OrdOk (c : Nat → Nat) (t m : Nat) : Prop := (∀ i, i < m → (ordS c (oat c i)).1 = true ∧ oat c i ≤ t) ∧ oat c m = t + 1
/-- an order as the reference lays it down -/
def St9 (b : Nat) (c : Nat → Nat) (L : Im) (i : Nat) : Prop := gA L (b + 806) (4 * i) = nI (c (oat c i)) ∧ ∀ x, x < (ordS c (oat c i)).2.2.1 → gA L (b + 806) (4 * i + 1 + x) = nI ((ordS c (oat c i)).2.2.2 x)
section RX
variable {c : Nat → Nat} {t : Nat} {tx : Nat → Nat} {fl : Nat} {len : Nat → Nat} {X : Xm} {L L0 M0 : Im} {b a k m n : Nat} {ns : Nat → Nat}
theorem run_kle : ∀ (ss : List Nat) (a k : Nat) (ns : Nat → Nat), (run c ss a k ns).2.2.1 ≤ k + cnP ss
  | [], a, k, ns => Nat.le_add_right _ _
  | s :: ss, a, k, ns => by
    have h := prt_k (c := c) (s := s) (a := a) (k := k) (ns := ns)
    show _ ≤ k + ((if s = 68 ∨ s = 78 then 1 else 0) + cnP ss)
    by_cases hok : (prt c s a k ns).1 = true
    · rw [run_t hok]
      have h2 := run_kle ss (prt c s a k ns).2.1 (prt c s a k ns).2.2.1 (prt c s a k ns).2.2.2
      omega
    · rw [run_f hok]
      omega
theorem prt_keq {s : Nat} (h : (prt c s a k ns).1 = true) : (prt c s a k ns).2.2.1 = k + (if s = 68 ∨ s = 78 then 1 else 0) := by
  unfold prt at h ⊢
  by_cases s1 : s = 68
  · rw [if_pos s1] at h ⊢
    rw [if_pos (Or.inl s1)]
    by_cases hd : isD (c a)
    · rw [if_pos hd]
    · rw [if_neg hd] at h; exact Bool.noConfusion h
  · rw [if_neg s1] at h ⊢
    by_cases s2 : s = 78
    · rw [if_pos s2] at h ⊢
      rw [if_pos (Or.inr s2)]
      by_cases hd : isD (c a)
      · rw [if_pos hd]
      · rw [if_neg hd] at h; exact Bool.noConfusion h
    · rw [if_neg s2] at h ⊢
      rw [if_neg (show ¬ (s = 68 ∨ s = 78) by omega)]
      by_cases hd : c a = s
      · rw [if_pos hd]; rfl
      · rw [if_neg hd] at h; exact Bool.noConfusion h
theorem run_keq : ∀ (ss : List Nat) (a k : Nat) (ns : Nat → Nat), (run c ss a k ns).1 = true → (run c ss a k ns).2.2.1 = k + cnP ss
  | [], a, k, ns, _ => rfl
  | s :: ss, a, k, ns, h => by
    show _ = k + ((if s = 68 ∨ s = 78 then 1 else 0) + cnP ss)
    by_cases hok : (prt c s a k ns).1 = true
    · rw [run_t hok] at h ⊢
      have h2 := run_keq ss (prt c s a k ns).2.1 (prt c s a k ns).2.2.1 (prt c s a k ns).2.2.2 h
      have h1 := prt_keq hok
      omega
    · rw [run_f hok] at h
      exact absurd h hok
theorem prts_c (l : Nat) : cnP (prts l) ≤ 3 := by
  unfold prts
  repeat' split
  all_goals decide
theorem ord_kle (a : Nat) : (ordS c a).2.2.1 ≤ 3 := by
  unfold ordS
  split
  · exact Nat.zero_le 3
  · have := run_kle (c := c) (prts (c a)) (a + 1) 0 (fun _ => 0)
    have := prts_c (c a)
    omega
/-- how many numbers an order has -/
theorem ord_keq (h : (ordS c a).1 = true) : (ordS c a).2.2.1 = cnP (prts (c a)) ∧ prts (c a) ≠ [] := by
  unfold ordS at h ⊢
  by_cases hp : prts (c a) = []
  · rw [if_pos hp] at h; exact Bool.noConfusion h
  · rw [if_neg hp] at h ⊢
    have := run_keq _ _ _ _ h
    exact ⟨by omega, hp⟩
theorem prts_ne {l : Nat} (h : prts l ≠ []) : l = 114 ∨ l = 115 ∨ l = 100 ∨ l = 108 ∨ l = 103 := by
  by_cases q1 : l = 114
  · exact Or.inl q1
  · by_cases q2 : l = 115
    · exact Or.inr (Or.inl q2)
    · by_cases q3 : l = 100
      · exact Or.inr (Or.inr (Or.inl q3))
      · by_cases q4 : l = 108
        · exact Or.inr (Or.inr (Or.inr (Or.inl q4)))
        · by_cases q5 : l = 103
          · exact Or.inr (Or.inr (Or.inr (Or.inr q5)))
          · exact absurd (by unfold prts; rw [if_neg q1, if_neg q2, if_neg q3, if_neg q4, if_neg q5]) h
theorem q_fault7 (hfl : 10000 ≤ fl) (hl : len (b + 149) = 80) (hl2 : len (b + 150) = 3) (h48 : gR X 48 (b + 148) = some (b + 149)) (h52 : gR X 52 (b + 148) = some (b + 150)) (hT : TC b L0 t tx) : ∀ (j i f a : Nat) (L : Im), a ≤ t → t < a + j → 3 * i ≤ a → j < f → FrC b L0 L → gF L 50 (b + 148) = nI a →
    ∃ L1, m3_findFault_7 fl len X f L (b + 148) (nI i) = some (fltV (flt (chT t tx) t j a), L1) ∧ FrC b L0 L1 := by
  intro j
  induction j with
  | zero => intro i f a L ha hj; omega
  | succ j ih =>
    intro i f a L ha hj hi hf hF h50
    obtain ⟨f, rfl⟩ : ∃ f', f = f' + 1 := ⟨f - 1, by omega⟩
    have hTL := hT.fr hF
    have ht := hT.1.1
    obtain ⟨L1, e, g50, g51, gn, gF1⟩ := q_order (fl := fl) (len := len) hfl hl hl2 h48 h52 hTL h50 (by omega)
    have hle := ord_le (tx := tx) ha
    have hge := ord_ge (c := chT t tx) (a := a)
    have h1 := hF.trans gF1
    have hT1 := hT.fr h1
    have e49 := hT1.1.2
    have ef : flt (chT t tx) t (j + 1) a = if (ordS (chT t tx) a).1 = true then (if (ordS (chT t tx) a).2.1 = t then none else if chT t tx (ordS (chT t tx) a).2.1 = 59 then flt (chT t tx) t j ((ordS (chT t tx) a).2.1 + 1) else some (ordS (chT t tx) a).2.1) else some (ordS (chT t tx) a).2.1 := rfl
    rw [ef]
    generalize ordS (chT t tx) a = R at *
    show ∃ L1, m3_findFault_7b fl len X (m3_findFault_7 fl len X f) L (b + 148) (nI i) = _ ∧ _
    rw [m3_findFault_7b, if_neg (by rw [L80, nI_leI (by omega) (by omega)]; omega), e, nn_s]
    simp only
    by_cases hok : R.1 = true
    · rw [if_pos hok, if_neg (by decide), if_pos hok, g50, e49]
      have hge := hge hok
      by_cases h9 : R.2.1 = t
      · rw [if_pos (by rw [h9]), if_pos h9]
        exact ⟨L1, rfl, h1⟩
      · rw [if_neg (by rw [nI_eq (by omega) (by omega)]; exact h9), if_neg h9, q_char hl h48 hT1 (by omega), nn_s]
        by_cases hc : chT t tx R.2.1 = 59
        · have hlt : R.2.1 < t := ch_lt (tx := tx) (by omega)
          rw [hc, if_pos (show nI 59 = (59 : Int32) from rfl), if_pos rfl, nI_k1, lt_e, nI_k1, lt_e]
          exact ih (i + 1) f (R.2.1 + 1) _ (by omega) (by omega) (by omega) (by omega) ⟨fun f c hf => by rw [gF_pF, if_neg (by omega)]; exact h1.1 f c hf, fun c j hc => by rw [gA_pF]; exact h1.2 c j hc⟩ gF_s
        · rw [if_neg (by rw [show (59 : Int32) = nI 59 from rfl, nI_eq (by have := ch_126 hT R.2.1; omega) (by omega)]; exact hc), if_neg hc]
          exact ⟨L1, rfl, h1⟩
    · rw [if_neg hok, if_pos rfl, if_neg hok, m3_findFault_68, g50]
      exact ⟨L1, rfl, h1⟩
theorem q_fault (hfl : 10000 ≤ fl) (hl : len (b + 149) = 80) (hl2 : len (b + 150) = 3) (h48 : gR X 48 (b + 148) = some (b + 149)) (h52 : gR X 52 (b + 148) = some (b + 150)) (hT : TC b L t tx) : ∃ L1, m3_findFault fl len X L (b + 148) = some (fltV (flt (chT t tx) t 81 0), L1) ∧ FrC b L L1 := by
  have ht := hT.1.1
  rw [m3_findFault, lt_e]
  exact q_fault7 hfl hl hl2 h48 h52 hT 81 0 fl 0 (pF L 50 (b + 148) (nI 0)) (by omega) (by omega) (by omega) (by omega) ⟨fun f c hf => by rw [gF_pF, if_neg (by omega)], fun c j hc => rfl⟩ gF_s
theorem p_fault12 (hfl : 10000 ≤ fl) (hL : LG len b) (h151 : gR X 151 (b + 799) = some (b + 805)) (h155 : gR X 155 (b + 799) = some (b + 806)) (hT : TM b M0 t tx) : ∀ (j n f a : Nat) (L : Im), a = oat (chT t tx) n → a ≤ t → t < a + j → 3 * n ≤ a → j < f → FrM b M0 L → gF L 153 (b + 799) = nI a → gF L 154 (b + 799) = nI n → (∀ i, i < n → (ordS (chT t tx) (oat (chT t tx) i)).1 = true ∧ oat (chT t tx) i ≤ t) → (∀ i, i < n → St9 b (chT t tx) L i) →
    ∃ L1, m9_fault_12 fl len X f L (b + 799) 1 = some (fltV (flt (chT t tx) t j a), L1) ∧ FrM b M0 L1 ∧ (flt (chT t tx) t j a = none → ∃ m, m ≤ 27 ∧ OrdOk (chT t tx) t m ∧ gF L1 154 (b + 799) = nI m ∧ ∀ i, i < m → St9 b (chT t tx) L1 i) := by
  intro j
  induction j with
  | zero => intro n f a L _ ha hj; omega
  | succ j ih =>
    intro n f a L hoa ha hj hi hf hF h153 h154 hok0 hst0
    obtain ⟨f, rfl⟩ : ∃ f', f = f' + 1 := ⟨f - 1, by omega⟩
    have hTL := hT.fr hF
    have ht := hT.1.1
    obtain ⟨L1, e, hp⟩ := p_reads (fl := fl) (len := len) (X := X) hfl hL h151 h155 hTL h153 h154 ha (by omega)
    have hle := ord_le (tx := tx) ha
    have hge := ord_ge (c := chT t tx) (a := a)
    have h1 := hF.trans hp.2.2.2
    have hT1 := hT.fr h1
    have ef : flt (chT t tx) t (j + 1) a = if (ordS (chT t tx) a).1 = true then (if (ordS (chT t tx) a).2.1 = t then none else if chT t tx (ordS (chT t tx) a).2.1 = 59 then flt (chT t tx) t j ((ordS (chT t tx) a).2.1 + 1) else some (ordS (chT t tx) a).2.1) else some (ordS (chT t tx) a).2.1 := rfl
    have eo : oat (chT t tx) (n + 1) = (ordS (chT t tx) a).2.1 + 1 := by rw [hoa]; rfl
    have hst1 : ∀ i, i < n + 1 → St9 b (chT t tx) L1 i := by
      intro i hi1
      by_cases ei : i = n
      · rw [ei]
        refine ⟨by rw [← hoa]; exact hp.2.1.1, fun x hx => ?_⟩
        rw [← hoa] at hx ⊢
        exact hp.2.1.2 x hx
      · have hk := ord_kle (c := chT t tx) (oat (chT t tx) i)
        obtain ⟨z1, z2⟩ := hst0 i (by omega)
        refine ⟨by rw [hp.2.2.1 _ (by omega)]; exact z1, fun x hx => ?_⟩
        rw [hp.2.2.1 _ (by omega)]
        exact z2 x hx
    rw [ef]
    have hok1 : (ordS (chT t tx) a).1 = true → ∀ i, i < n + 1 → (ordS (chT t tx) (oat (chT t tx) i)).1 = true ∧ oat (chT t tx) i ≤ t := fun hok i hi1 => by
      by_cases ei : i = n
      · rw [ei, ← hoa]; exact ⟨hok, ha⟩
      · exact hok0 i (by omega)
    generalize ordS (chT t tx) a = R at *
    show ∃ L1, m9_fault_12b fl len X (m9_fault_12 fl len X f) L (b + 799) 1 = _ ∧ _
    rw [m9_fault_12b, if_neg (by decide), e, nn_s]
    simp only
    have g153 := hp.1.1
    have g154 := hp.1.2
    by_cases hok : R.1 = true
    · rw [if_pos hok] at g154
      rw [if_pos hok, if_neg (by decide), if_pos hok, show (59 : Int32) = nI 59 from rfl, p_sign hL.2.1.2.2.2.2.2.1 h151 hT1 g153 (by omega) (by omega) (by omega)]
      have hge := hge hok
      by_cases hc : chT t tx R.2.1 = 59
      · have hlt : R.2.1 < t := ch_lt (tx := tx) (by omega)
        rw [if_pos hc, nn_s]
        simp only
        rw [if_neg (show ¬ R.2.1 = t by omega), if_pos hc]
        exact ih (n + 1) f (R.2.1 + 1) (pF L1 153 (b + 799) (nI (R.2.1 + 1))) eo.symm (by omega) (by omega) (by omega) (by omega) ⟨fun f c hf => by rw [gF_pF, if_neg (by omega)]; exact h1.1 f c hf, fun c j hc => by rw [gA_pF]; exact h1.2 c j hc⟩ gF_s (by rw [gF_f (by omega)]; exact g154) (hok1 hok) (fun i hi1 => ⟨by rw [gA_pF]; exact (hst1 i hi1).1, fun x hx => by rw [gA_pF]; exact (hst1 i hi1).2 x hx⟩)
      · rw [if_neg hc, nn_s]
        simp only
        obtain ⟨f, rfl⟩ : ∃ f', f = f' + 1 := ⟨f - 1, by omega⟩
        have h2 : FrM b M0 (pF L1 153 (b + 799) (nI R.2.1)) := ⟨fun f c hf => by rw [gF_pF, if_neg (by omega)]; exact h1.1 f c hf, fun c j hc => by rw [gA_pF]; exact h1.2 c j hc⟩
        have e152 : gF (pF L1 153 (b + 799) (nI R.2.1)) 152 (b + 799) = nI t := by rw [gF_f (by omega)]; exact hT1.1.2
        show ∃ L2, m9_fault_12b fl len X (m9_fault_12 fl len X f) _ (b + 799) 0 = _ ∧ _
        rw [m9_fault_12b, if_pos rfl, gF_s, e152, m9_fault_58, m9_fault_58]
        by_cases h9 : R.2.1 = t
        · rw [if_pos (by rw [h9]), if_pos h9]
          refine ⟨_, rfl, h2, fun _ => ⟨n + 1, by omega, ⟨hok1 hok, by rw [eo, h9]⟩, by rw [gF_f (by omega)]; exact g154, fun i hi1 => ⟨by rw [gA_pF]; exact (hst1 i hi1).1, fun x hx => by rw [gA_pF]; exact (hst1 i hi1).2 x hx⟩⟩⟩
        · rw [if_neg (by rw [nI_eq (by omega) (by omega)]; exact h9), if_neg h9, if_neg hc]
          exact ⟨_, rfl, h2, fun q => by cases q⟩
    · rw [if_neg hok, if_pos rfl, if_neg hok, g153]
      exact ⟨L1, rfl, h1, fun q => by cases q⟩
theorem p_fault (hfl : 10000 ≤ fl) (hL : LG len b) (h151 : gR X 151 (b + 799) = some (b + 805)) (h155 : gR X 155 (b + 799) = some (b + 806)) (hT : TM b L t tx) : ∃ L1, m9_fault fl len X L (b + 799) = some (fltV (flt (chT t tx) t 81 0), L1) ∧ FrM b L L1 ∧ (flt (chT t tx) t 81 0 = none → ∃ m, m ≤ 27 ∧ OrdOk (chT t tx) t m ∧ gF L1 154 (b + 799) = nI m ∧ ∀ i, i < m → St9 b (chT t tx) L1 i) := by
  have ht := hT.1.1
  rw [m9_fault, lt_e, lt_e]
  exact p_fault12 hfl hL h151 h155 hT 81 0 fl 0 (pF (pF L 153 (b + 799) (nI 0)) 154 (b + 799) (nI 0)) rfl (by omega) (by omega) (by omega) (by omega) ⟨fun f c hf => by rw [gF_pF, if_neg (by omega), gF_pF, if_neg (by omega)], fun c j hc => rfl⟩ (by rw [gF_f (by omega), gF_s]) gF_s (fun i hi => absurd hi (Nat.not_lt_zero _)) (fun i hi => absurd hi (Nat.not_lt_zero _))
/-- what reads a text leaves all else as it was -/
theorem FrC.rel {I I1 : Im} {sg W S K n Hs Hk sv Ss Sk} (hf : FrC b I I1) (h : RelW I X b sg W S K n Hs Hk sv Ss Sk t tx) : RelW I1 X b sg W S K n Hs Hk sv Ss Sk t tx :=
  h.fr fun a ha => ⟨fun f h1 h2 h3 _ _ => hf.1 f a (Or.inl ⟨h1, h2, h3⟩), fun j => hf.2 a j (fun q => ha (by unfold sp; omega))⟩
theorem FrM.rel {I I1 : Im} {sg W S K n Hs Hk sv Ss Sk} (hf : FrM b I I1) (h : RelW I X b sg W S K n Hs Hk sv Ss Sk t tx) : RelW I1 X b sg W S K n Hs Hk sv Ss Sk t tx :=
  h.fr fun a ha => ⟨fun f _ _ _ h4 h5 => hf.1 f a (Or.inl ⟨h4, h5⟩), fun j => hf.2 a j (fun q => ha (by unfold sp; omega))⟩
theorem RT.tc {I : Im} (h : RT I b t tx) : TC b I t tx := ⟨⟨h.1.1, h.1.2.1⟩, fun j hj => ⟨(h.2 j hj).1, (h.2 j hj).2.1⟩⟩
theorem RT.tm {I : Im} (h : RT I b t tx) : TM b I t tx := ⟨⟨h.1.1, h.1.2.2⟩, fun j hj => ⟨(h.2 j hj).1, (h.2 j hj).2.2⟩⟩
theorem st_fault (hfl : 10000 ≤ fl) (hL : LG len b) : St_fault fl len b (b + 799) (Rel b) := by
  intro I X ⟨sg, W, S, K, n, Hs, Hk, sv, Ss, Sk, t, tx, h⟩
  have hX := h.1
  obtain ⟨I1, e1, f1⟩ := q_fault (fl := fl) (len := len) hfl hL.1.2.2.2.1 hL.1.2.2.2.2 hX.1.2.2.2.2.2.2.1 hX.1.2.2.2.2.2.2.2 h.2.2.2.2.tc
  have h1 := f1.rel h
  obtain ⟨I2, e2, f2, -⟩ := p_fault (fl := fl) (len := len) hfl hL hX.2.2.2.2.2.2.2.2.2.2.2.1 hX.2.2.2.2.2.2.2.2.2.2.2.2 h1.2.2.2.2.tm
  refine ⟨_, I1, I2, ?_, e2, Rel.of (f2.rel h1)⟩
  rw [m8_fault, hX.1.2.2.2.2.2.1, nn_s, e1, nn_s]
end RX
