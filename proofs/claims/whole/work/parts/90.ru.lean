/-! ===== orders are read ===== -/
def chT (t : Nat) (tx : Nat → Nat) (i : Nat) : Nat := if i < t then tx i else 0
abbrev isD (c : Nat) : Prop := 48 ≤ c ∧ c ≤ 57
/-- more digits of a number -/
def rn (c : Nat → Nat) : Nat → Nat → Nat → Nat × Nat
  | 0, a, v => (a, v)
  | j + 1, a, v => if v ≠ 0 ∧ isD (c a) then rn c j (a + 1) (10 * v + (c a - 48)) else (a, v)
/-- a part of an order: D is 68, N is 78 -/
def prt (c : Nat → Nat) (s a k : Nat) (ns : Nat → Nat) : Bool × Nat × Nat × (Nat → Nat) :=
  if s = 68 then (if isD (c a) then (true, a + 1, k + 1, upN ns k (c a - 48)) else (false, a, k, ns))
  else if s = 78 then (if isD (c a) then (true, (rn c 2 (a + 1) (c a - 48)).1, k + 1, upN ns k (rn c 2 (a + 1) (c a - 48)).2) else (false, a, k, ns))
  else if c a = s then (true, a + 1, k, ns) else (false, a, k, ns)
def run (c : Nat → Nat) : List Nat → Nat → Nat → (Nat → Nat) → Bool × Nat × Nat × (Nat → Nat)
  | [], a, k, ns => (true, a, k, ns)
  | s :: ss, a, k, ns => if (prt c s a k ns).1 = true then run c ss (prt c s a k ns).2.1 (prt c s a k ns).2.2.1 (prt c s a k ns).2.2.2 else prt c s a k ns
def prts (l : Nat) : List Nat := if l = 114 then [68, 43, 78, 42, 78] else if l = 115 then [78, 58, 68, 68] else if l = 100 then [78, 58, 68, 42, 78] else if l = 108 then [78, 58, 68, 61, 78] else if l = 103 then [78] else []
def ordS (c : Nat → Nat) (a : Nat) : Bool × Nat × Nat × (Nat → Nat) := if prts (c a) = [] then (false, a, 0, fun _ => 0) else run c (prts (c a)) (a + 1) 0 (fun _ => 0)
section RU
variable {c : Nat → Nat} {t : Nat} {tx : Nat → Nat}
theorem ch_lt {i : Nat} (h : chT t tx i ≠ 0) : i < t := by
  unfold chT at h
  by_cases e : i < t
  · exact e
  · rw [if_neg e] at h; exact absurd rfl h
theorem rn_le : ∀ (j a v : Nat), a ≤ t → (rn (chT t tx) j a v).1 ≤ t
  | 0, a, v, h => h
  | j + 1, a, v, h => by
    unfold rn
    split
    · rename_i hd
      exact rn_le j (a + 1) _ (ch_lt (tx := tx) (by have := hd.2; omega))
    · exact h
theorem rn_ge : ∀ (j a v : Nat), a ≤ (rn c j a v).1
  | 0, a, v => Nat.le_refl _
  | j + 1, a, v => by
    unfold rn
    split
    · exact Nat.le_trans (Nat.le_succ a) (rn_ge j (a + 1) _)
    · exact Nat.le_refl _
theorem prt_le {s a k : Nat} {ns : Nat → Nat} (hs : s ≠ 0) (h : a ≤ t) : (prt (chT t tx) s a k ns).2.1 ≤ t := by
  unfold prt
  repeat' split
  · exact ch_lt (tx := tx) (by rename_i q; omega)
  · exact h
  · exact rn_le _ _ _ (ch_lt (tx := tx) (by rename_i q; omega))
  · exact h
  · exact ch_lt (tx := tx) (by rename_i q; omega)
  · exact h
theorem prt_ge {s a k : Nat} {ns : Nat → Nat} : a ≤ (prt c s a k ns).2.1 ∧ ((prt c s a k ns).1 = true → a + 1 ≤ (prt c s a k ns).2.1) := by
  unfold prt
  repeat' split
  · exact ⟨Nat.le_succ a, fun _ => Nat.le_refl _⟩
  · exact ⟨Nat.le_refl _, fun q => Bool.noConfusion q⟩
  · have := rn_ge (c := c) 2 (a + 1) (c a - 48)
    exact ⟨Nat.le_trans (Nat.le_succ a) this, fun _ => this⟩
  · exact ⟨Nat.le_refl _, fun q => Bool.noConfusion q⟩
  · exact ⟨Nat.le_succ a, fun _ => Nat.le_refl _⟩
  · exact ⟨Nat.le_refl _, fun q => Bool.noConfusion q⟩
theorem run_ge : ∀ (ss : List Nat) (a k : Nat) (ns : Nat → Nat), a ≤ (run c ss a k ns).2.1
  | [], a, k, ns => Nat.le_refl _
  | s :: ss, a, k, ns => by
    have h := (prt_ge (c := c) (s := s) (a := a) (k := k) (ns := ns)).1
    unfold run
    split
    · exact Nat.le_trans h (run_ge ss _ _ _)
    · exact h
theorem run_le : ∀ (ss : List Nat) (a k : Nat) (ns : Nat → Nat), (∀ s, s ∈ ss → s ≠ 0) → a ≤ t → (run (chT t tx) ss a k ns).2.1 ≤ t
  | [], a, k, ns, _, h => h
  | s :: ss, a, k, ns, hs, h => by
    have h1 := prt_le (tx := tx) (k := k) (ns := ns) (hs s (List.mem_cons_self ..)) h
    unfold run
    split
    · exact run_le ss _ _ _ (fun x hx => hs x (List.mem_cons_of_mem _ hx)) h1
    · exact h1
theorem prts_ok (l : Nat) : ∀ s, s ∈ prts l → s ≠ 0 := by
  unfold prts
  repeat' split
  all_goals decide
theorem prts_n0 {l : Nat} (h : prts l ≠ []) : l ≠ 0 := fun e => h (by rw [e]; rfl)
theorem ord_le {a : Nat} (h : a ≤ t) : (ordS (chT t tx) a).2.1 ≤ t := by
  unfold ordS
  split
  · exact h
  · rename_i hp
    exact run_le _ _ _ _ (prts_ok _) (ch_lt (prts_n0 hp))
/-- an order that is one has two characters at the least -/
theorem ord_ge {a : Nat} (h : (ordS c a).1 = true) : a + 2 ≤ (ordS c a).2.1 := by
  unfold ordS at h ⊢
  split at h
  · exact Bool.noConfusion h
  · rename_i hp
    rw [if_neg hp]
    cases hq : prts (c a) with
    | nil => exact absurd hq hp
    | cons s ss =>
      rw [hq] at h
      unfold run at h ⊢
      have hg := prt_ge (c := c) (s := s) (a := a + 1) (k := 0) (ns := fun _ => 0)
      split at h
      · rename_i hok
        rw [if_pos hok]
        have h1 := hg.2 hok
        have h2 := run_ge (c := c) ss (prt c s (a + 1) 0 (fun _ => 0)).2.1 (prt c s (a + 1) 0 (fun _ => 0)).2.2.1 (prt c s (a + 1) 0 (fun _ => 0)).2.2.2
        omega
      · rename_i hok
        exact absurd h hok
/-- numbers have three digits at the most -/
theorem rn_val : ∀ (j a v : Nat), (v + 1) * 10 ^ j ≤ 1000 → (rn c j a v).2 ≤ 999
  | 0, a, v, h => by show v ≤ 999; omega
  | j + 1, a, v, h => by
    rw [Nat.pow_succ] at h
    unfold rn
    split
    · rename_i hd
      refine rn_val j (a + 1) _ (Nat.le_trans (Nat.mul_le_mul_right _ (show 10 * v + (c a - 48) + 1 ≤ (v + 1) * 10 by omega)) ?_)
      rw [Nat.mul_assoc, Nat.mul_comm 10]
      exact h
    · have : v + 1 ≤ (v + 1) * (10 ^ j * 10) := Nat.le_mul_of_pos_right _ (Nat.mul_pos (Nat.pow_pos (by omega)) (by omega))
      show v ≤ 999
      omega
/-! the class -/
def FrC (b : Nat) (L0 L : Im) : Prop := (∀ f a, (f ≠ 50 ∧ f ≠ 51 ∧ f ≠ 53) ∨ a ≠ b + 148 → gF L f a = gF L0 f a) ∧ ∀ a j, a ≠ b + 150 → gA L a j = gA L0 a j
def Pc8 (b : Nat) (L0 L : Im) (a l k : Nat) (ns : Nat → Nat) : Prop := (gF L 50 (b + 148) = nI a ∧ gF L 51 (b + 148) = nI l ∧ gF L 53 (b + 148) = nI k) ∧ (∀ j, j < k → gA L (b + 150) j = nI (ns j)) ∧ FrC b L0 L
def TC (b : Nat) (L : Im) (t : Nat) (tx : Nat → Nat) : Prop := (t ≤ 80 ∧ gF L 49 (b + 148) = nI t) ∧ ∀ j, j < t → (33 ≤ tx j ∧ tx j ≤ 126) ∧ gA L (b + 149) j = nI (tx j)
variable {fl : Nat} {len : Nat → Nat} {X : Xm} {L L0 L1 : Im} {b a l k : Nat} {ns : Nat → Nat}
theorem FrC.rfl : FrC b L L := ⟨fun _ _ _ => Eq.refl _, fun _ _ _ => Eq.refl _⟩
theorem FrC.trans {L2 : Im} (h : FrC b L0 L1) (h2 : FrC b L1 L2) : FrC b L0 L2 := ⟨fun f a ha => (h2.1 f a ha).trans (h.1 f a ha), fun a j ha => (h2.2 a j ha).trans (h.2 a j ha)⟩
theorem TC.fr (h : TC b L0 t tx) (hf : FrC b L0 L) : TC b L t tx := ⟨⟨h.1.1, by rw [hf.1 _ _ (by omega)]; exact h.1.2⟩, fun j hj => ⟨(h.2 j hj).1, by rw [hf.2 _ _ (by omega)]; exact (h.2 j hj).2⟩⟩
theorem ch_126 (h : TC b L t tx) (i : Nat) : chT t tx i ≤ 126 := by
  unfold chT
  split
  · rename_i hi; exact (h.2 i hi).1.2
  · omega
theorem q_char (hl : len (b + 149) = 80) (h48 : gR X 48 (b + 148) = some (b + 149)) (h : TC b L t tx) {i : Nat} (hi : i < 10000) : m3_characterAt fl len X L (b + 148) (nI i) = some (nI (chT t tx i)) := by
  have h126 := ch_126 h i
  have e31 : ∀ z : Nat, z ≤ 126 → m3_characterAt_31 fl len X L (nI z) = some (nI z) := fun z hz => by rw [m3_characterAt_31, ck_t _ (chr_16 (show z < 65536 by omega)).2]
  have e80 := h.1.1
  rw [m3_characterAt, if_neg (nI_nneg (by omega)), h.1.2]
  by_cases e : i < t
  · rw [if_neg (by rw [nI_leI (by omega) (by omega)]; omega), h48, nn_s, hl, if_pos (by rw [nI_ltI (by omega) (by omega)]; omega), ck_inb _ (by omega) (by omega), nI_clamp (by omega), (h.2 i e).2, e31 _ (h.2 i e).1.2]
    unfold chT
    rw [if_pos e]
  · rw [if_pos (by rw [nI_leI (by omega) (by omega)]; omega), m3_characterAt_21, L0, e31 0 (by omega)]
    unfold chT
    rw [if_neg e]
theorem q_digitAt (hl : len (b + 149) = 80) (h48 : gR X 48 (b + 148) = some (b + 149)) (h : TC b L t tx) {i : Nat} (hi : i < 10000) : m3_digitAt fl len X L (b + 148) (nI i) = some (if isD (chT t tx i) then nI (chT t tx i - 48) else -1) := by
  have h126 := ch_126 h i
  rw [m3_digitAt, q_char hl h48 h hi, nn_s, show (48 : Int32) = nI 48 from rfl, show (57 : Int32) = nI 57 from rfl]
  by_cases h1 : chT t tx i < 48
  · rw [if_pos (by rw [nI_ltI (by omega) (by omega)]; exact h1), if_neg (by omega)]
    rfl
  · rw [if_neg (by rw [nI_ltI (by omega) (by omega)]; exact h1)]
    by_cases h2 : 57 < chT t tx i
    · rw [if_pos (by rw [nI_ltI (by omega) (by omega)]; exact h2), if_neg (by omega)]
      rfl
    · rw [if_neg (by rw [nI_ltI (by omega) (by omega)]; exact h2), if_pos (by omega), m3_digitAt_26, nI_sub (by omega)]
theorem m1_neg : ¬ (0 : Int32) ≤ -1 := by decide
theorem q_number (hfl : 10000 ≤ fl) (hl : len (b + 149) = 80) (hl2 : len (b + 150) = 3) (h48 : gR X 48 (b + 148) = some (b + 149)) (h52 : gR X 52 (b + 148) = some (b + 150)) (hT : TC b L0 t tx) (h : Pc8 b L0 L a l k ns) (hk : k ≤ 2) (ha : a ≤ t) (d : Nat) (hd : d ≤ 2) :
    ∃ L1, m3_readNumber fl len X L (b + 148) (nI (d + 1)) = some (if isD (chT t tx a) then 1 else 0, L1) ∧ (isD (chT t tx a) → Pc8 b L0 L1 (rn (chT t tx) d (a + 1) (chT t tx a - 48)).1 l (k + 1) (upN ns k (rn (chT t tx) d (a + 1) (chT t tx a - 48)).2)) ∧ (¬ isD (chT t tx a) → L1 = L) := by
  have ht := hT.1.1
  -- the number is laid down
  have lay : ∀ (M : Im) (a v : Nat), Pc8 b L0 M a l k ns → ∃ L1, m3_readNumber_77 fl len X M (b + 148) (nI v) = some (1, L1) ∧ Pc8 b L0 L1 a l (k + 1) (upN ns k v) := by
    intro M a v ⟨⟨g1, g2, g3⟩, g4, g5⟩
    refine ⟨pF (pA M (b + 150) k (nI v)) 53 (b + 148) (nI (k + 1)), ?_, ⟨by rw [gF_f (by omega)]; exact g1, by rw [gF_f (by omega)]; exact g2, gF_s⟩, fun j hj => ?_, fun f c hf => ?_, fun c j hc => ?_⟩
    · rw [m3_readNumber_77, g3, if_neg (nI_nneg (by omega)), h52, nn_s, hl2, if_neg (by rw [nI_leI (by omega) (by omega)]; omega), ck_inb _ (by omega) (by omega), nI_clamp (by omega), lt_e, gF_pA, g3, nI_k1, lt_e, m3_readNumber_116]
    · rw [gA_pF]
      by_cases e : j = k
      · rw [e, gA_s, upN_eq]
      · rw [gA_j e, upN_ne e]; exact g4 j (by omega)
    · rw [gF_pF, if_neg (by omega)]; exact g5.1 f c hf
    · rw [gA_pF, gA_a hc]; exact g5.2 c j hc
  -- its digits
  have digits : ∀ (j i f : Nat) (M : Im) (a v : Nat), i + j = d + 1 → j < f → v ≤ 999 → a ≤ t → (v + 1) * 10 ^ j ≤ 1000 → Pc8 b L0 M a l k ns → ∃ L1, m3_readNumber_27 fl len X f M (b + 148) (nI (d + 1)) (nI v) (nI i) = some (1, L1) ∧ Pc8 b L0 L1 (rn (chT t tx) j a v).1 l (k + 1) (upN ns k (rn (chT t tx) j a v).2) := by
    intro j
    induction j with
    | zero =>
      intro i f M a v hi hf hv ha hp hM
      obtain ⟨f, rfl⟩ : ∃ f', f = f' + 1 := ⟨f - 1, by omega⟩
      obtain ⟨L1, e, g⟩ := lay M a v hM
      refine ⟨L1, ?_, g⟩
      show m3_readNumber_27b fl len X (m3_readNumber_27 fl len X f) _ _ _ _ _ = _
      rw [m3_readNumber_27b, if_pos (by rw [nI_leI (by omega) (by omega)]; omega)]
      exact e
    | succ j ih =>
      intro i f M a v hi hf hv ha hp hM
      obtain ⟨f, rfl⟩ : ∃ f', f = f' + 1 := ⟨f - 1, by omega⟩
      have hTM := hT.fr hM.2.2
      have e50 := hM.1.1
      have start : m3_readNumber_27 fl len X (f + 1) M (b + 148) (nI (d + 1)) (nI v) (nI i) = if v = 0 then m3_readNumber_77 fl len X M (b + 148) (nI v) else if isD (chT t tx a) then m3_readNumber_27 fl len X f (pF M 50 (b + 148) (nI (a + 1))) (b + 148) (nI (d + 1)) (nI (10 * v + (chT t tx a - 48))) (nI (i + 1)) else m3_readNumber_77 fl len X M (b + 148) (nI v) := by
        show m3_readNumber_27b fl len X (m3_readNumber_27 fl len X f) _ _ _ _ _ = _
        rw [m3_readNumber_27b, if_neg (by rw [nI_leI (by omega) (by omega)]; omega)]
        by_cases h0 : v = 0
        · rw [if_pos (by rw [h0]; decide), if_pos h0]
        · rw [if_neg (by rw [show (0 : Int32) = nI 0 from rfl, nI_leI (by omega) (by omega)]; omega), if_neg h0, e50, q_digitAt hl h48 hTM (by omega), nn_s]
          by_cases hd' : isD (chT t tx a)
          · rw [if_pos hd', if_neg (nI_nneg (by omega)), nn_s, L10, nI_mul, nI_add, lt_e, L1, nI_add, lt_e, nI_add, lt_e, if_pos hd', Nat.mul_comm v 10]
          · rw [if_neg hd', if_pos (by decide), if_neg hd']
      rw [start]
      by_cases h0 : v = 0
      · rw [if_pos h0]
        have er : rn (chT t tx) (j + 1) a v = (a, v) := by
          unfold rn
          rw [if_neg (fun q => q.1 h0)]
        rw [er]
        exact lay M a v hM
      · rw [if_neg h0]
        by_cases hd' : isD (chT t tx a)
        · rw [if_pos hd']
          have er : rn (chT t tx) (j + 1) a v = rn (chT t tx) j (a + 1) (10 * v + (chT t tx a - 48)) := by
            conv => lhs; unfold rn
            rw [if_pos ⟨h0, hd'⟩]
          rw [er]
          rw [Nat.pow_succ] at hp
          have hp2 : (10 * v + (chT t tx a - 48) + 1) * 10 ^ j ≤ 1000 := Nat.le_trans (Nat.mul_le_mul_right _ (show 10 * v + (chT t tx a - 48) + 1 ≤ (v + 1) * 10 by omega)) (by rw [Nat.mul_assoc, Nat.mul_comm 10]; exact hp)
          have hv2 : 10 * v + (chT t tx a - 48) + 1 ≤ (10 * v + (chT t tx a - 48) + 1) * 10 ^ j := Nat.le_mul_of_pos_right _ (Nat.pow_pos (by omega))
          obtain ⟨⟨g1, g2, g3⟩, g4, g5⟩ := hM
          exact ih (i + 1) f _ (a + 1) _ (by omega) (by omega) (by omega) (ch_lt (tx := tx) (by omega)) hp2 ⟨⟨gF_s, by rw [gF_f (by omega)]; exact g2, by rw [gF_f (by omega)]; exact g3⟩, fun j hj => by rw [gA_pF]; exact g4 j hj, fun f c hf => by rw [gF_pF, if_neg (by omega)]; exact g5.1 f c hf, fun c j hc => by rw [gA_pF]; exact g5.2 c j hc⟩
        · rw [if_neg hd']
          have er : rn (chT t tx) (j + 1) a v = (a, v) := by
            unfold rn
            rw [if_neg (fun q => hd' q.2)]
          rw [er]
          exact lay M a v hM
  have hTL := hT.fr h.2.2
  by_cases hd' : isD (chT t tx a)
  · have hP : Pc8 b L0 (pF L 50 (b + 148) (nI (a + 1))) (a + 1) l k ns := by
      obtain ⟨⟨g1, g2, g3⟩, g4, g5⟩ := h
      exact ⟨⟨gF_s, by rw [gF_f (by omega)]; exact g2, by rw [gF_f (by omega)]; exact g3⟩, fun j hj => by rw [gA_pF]; exact g4 j hj, fun f c hf => by rw [gF_pF, if_neg (by omega)]; exact g5.1 f c hf, fun c j hc => by rw [gA_pF]; exact g5.2 c j hc⟩
    have hp10 : (chT t tx a - 48 + 1) * 10 ^ d ≤ 1000 := by
      have : d = 0 ∨ d = 1 ∨ d = 2 := by omega
      rcases this with rfl | rfl | rfl
      · rw [Nat.pow_zero]; omega
      · rw [Nat.pow_one]; omega
      · rw [show (10 : Nat) ^ 2 = 100 by decide]; omega
    obtain ⟨L1, e, g⟩ := digits d 1 fl (pF L 50 (b + 148) (nI (a + 1))) (a + 1) (chT t tx a - 48) (by omega) (by omega) (by omega) (ch_lt (tx := tx) (by omega)) hp10 hP
    refine ⟨L1, ?_, fun _ => g, fun q => absurd hd' q⟩
    rw [m3_readNumber, h.1.1, q_digitAt hl h48 hTL (by omega), nn_s, if_pos hd', if_pos (nneg_not (by omega)), nI_k1, lt_e, if_pos hd']
    exact e
  · refine ⟨L, ?_, fun q => absurd q hd', fun _ => Eq.refl _⟩
    rw [m3_readNumber, h.1.1, q_digitAt hl h48 hTL (by omega), nn_s, if_neg hd', if_neg m1_neg, if_neg hd']
end RU
