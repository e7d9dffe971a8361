/-! ===== what holds of a state ===== -/
def IvA (S : Nat → Nat) : Prop := (1 ≤ S 0 ∧ S 0 ≤ 20) ∧ (1 ≤ S 1 ∧ S 1 ≤ 9) ∧ (1 ≤ S 2 ∧ S 2 ≤ 100) ∧ (10 ≤ S 3 ∧ S 3 ≤ 400)
def IvB (S : Nat → Nat) (K : Nat) : Prop := S 4 ≤ 1200 ∧ K ≤ S 5 ∧ S 5 ≤ 24
def okV (S : Nat → Nat) (kd w v : Nat) : Prop := kd ≤ 2 ∧ w ≤ 3 ∧ (kd = 0 → v < S (128 + 4 * w + 3)) ∧ (kd = 1 → 1 ≤ v ∧ v ≤ 99) ∧ (kd = 2 → v ≤ 100)
def IvC (S : Nat → Nat) (K : Nat) : Prop :=
  (∀ c, c < S 5 → S (8 + 5 * c) ≤ 999 ∧ okV S (S (8 + 5 * c + 1)) (S (8 + 5 * c + 2)) (S (8 + 5 * c + 3)) ∧ S (8 + 5 * c + 4) ≤ 3 ∧ (S (8 + 5 * c + 4) = 0 ↔ K ≤ c) ∧ (c < K → S (8 + 5 * c) ≤ S 4) ∧ (K ≤ c → S 4 ≤ S (8 + 5 * c))) ∧ ∀ c, c + 1 < S 5 → S (8 + 5 * c) ≤ S (8 + 5 * (c + 1))
def IvR (S : Nat → Nat) : Prop := ∀ r, r < 4 → S (128 + 4 * r + 3) ≤ 6 ∧ S (128 + 4 * r + 1) ≤ S (128 + 4 * r + 3) ∧ (S (128 + 4 * r + 1) = 0 ↔ S (128 + 4 * r + 2) = 0) ∧ S (128 + 4 * r + 2) ≤ 60 ∧ S (128 + 4 * r) + S (128 + 4 * r + 2) ≤ 360 ∧ (S (128 + 4 * r + 1) ≠ 0 → S 4 + S (128 + 4 * r + 2) ≤ 1060)
def IvS (S : Nat → Nat) (K : Nat) : Prop :=
  (∀ r, r < 4 → ∀ k, k < S (128 + 4 * r + 3) → (1 ≤ S (144 + 3 * (6 * r + k)) ∧ S (144 + 3 * (6 * r + k)) ≤ 60) ∧ (1 ≤ S (144 + 3 * (6 * r + k) + 1) ∧ S (144 + 3 * (6 * r + k) + 1) ≤ 99)) ∧ (∀ j, j < 24 → S (144 + 3 * j + 2) ≤ K) ∧ ∀ r, r < 4 → ∀ k, S (128 + 4 * r + 3) ≤ k → k < 6 → S (144 + 3 * (6 * r + k) + 2) = 0
def IvH (S : Nat → Nat) : Prop := ∀ ch, ch < 4 → S (216 + 2 * ch) ≤ 100 ∧ S (216 + 2 * ch + 1) ≤ 100
def IvD (S : Nat → Nat) (K : Nat) : Prop := S 6 ≤ K ∧ ∀ d, d < S 6 → S (224 + 3 * d) ≤ 3 ∧ (1 ≤ S (224 + 3 * d + 1) ∧ S (224 + 3 * d + 1) ≤ 99) ∧ (1 ≤ S (224 + 3 * d + 2) ∧ S (224 + 3 * d + 2) ≤ 9) ∧ S 4 + S (224 + 3 * d + 2) ≤ 1010
/-- how many of the first m sounds were played -/
def cntT (S : Nat → Nat) : Nat → Nat
  | 0 => 0
  | m + 1 => cntT S m + (if S (144 + 3 * m + 2) = 0 then 0 else 1)
def IvP (S : Nat → Nat) : Prop := S 7 = cntT S 24 ∧ ∀ i, i < S 7 → ∃ r k, r < 4 ∧ k < S (128 + 4 * r + 3) ∧ S (296 + i) = 6 * r + k
def Iv (S : Nat → Nat) (K : Nat) : Prop := IvA S ∧ IvB S K ∧ IvC S K ∧ IvR S ∧ IvS S K ∧ IvH S ∧ IvD S K ∧ IvP S ∧ Bn S
theorem cntT_congr {S S' : Nat → Nat} : ∀ {m : Nat}, (∀ j, j < m → S' (144 + 3 * j + 2) = S (144 + 3 * j + 2)) → cntT S' m = cntT S m
  | 0, _ => rfl
  | m + 1, h => by
    show cntT S' m + _ = cntT S m + _
    rw [cntT_congr (fun j hj => h j (by omega)), h m (by omega)]
theorem cntT_le (S : Nat → Nat) : ∀ m, cntT S m ≤ m
  | 0 => Nat.le_refl _
  | m + 1 => by
    have := cntT_le S m
    show cntT S m + _ ≤ _
    split <;> omega
theorem cntT_lt {S : Nat → Nat} {j : Nat} (hj : S (144 + 3 * j + 2) = 0) : ∀ {m}, j < m → cntT S m < m
  | 0, h => absurd h (Nat.not_lt_zero _)
  | m + 1, h => by
    show cntT S m + _ < _
    by_cases e : j = m
    · subst e
      have := cntT_le S j
      rw [if_pos hj]; omega
    · have := cntT_lt hj (m := m) (by omega)
      split <;> omega
/-- one more sound was played -/
theorem cntT_up {S : Nat → Nat} {j v : Nat} (hj : S (144 + 3 * j + 2) = 0) (hv : v ≠ 0) : ∀ {m}, j < m → cntT (upN S (144 + 3 * j + 2) v) m = cntT S m + 1
  | 0, h => absurd h (Nat.not_lt_zero _)
  | m + 1, h => by
    show cntT _ m + _ = cntT S m + _ + 1
    by_cases e : j = m
    · subst e
      rw [upN_eq, if_neg hv, if_pos hj, cntT_congr (fun i hi => upN_ne (by omega))]
    · rw [cntT_up hj hv (m := m) (by omega), upN_ne (by omega)]
      omega
theorem cntT_same {S : Nat → Nat} {j v : Nat} (hj : S (144 + 3 * j + 2) ≠ 0) (hv : v ≠ 0) : ∀ {m}, cntT (upN S (144 + 3 * j + 2) v) m = cntT S m
  | 0 => rfl
  | m + 1 => by
    show cntT _ m + _ = cntT S m + _
    rw [cntT_same hj hv]
    by_cases e : m = j
    · subst e; rw [upN_eq, if_neg hv, if_neg hj]
    · rw [upN_ne (by omega)]
section PC
variable {S S' : Nat → Nat} {K : Nat}
theorem IvA.to (h : IvA S) (h0 : ∀ j, j < 4 → S' j = S j) : IvA S' := by
  unfold IvA
  rw [h0 0 (by omega), h0 1 (by omega), h0 2 (by omega), h0 3 (by omega)]
  exact h
theorem IvC.to (h : IvC S K) (hc : ∀ j, 8 ≤ j → j < 128 → S' j = S j) (h4 : S' 4 = S 4) (h5 : S' 5 = S 5) (h5l : S 5 ≤ 24) (hm : ∀ r, r < 4 → S' (128 + 4 * r + 3) = S (128 + 4 * r + 3)) : IvC S' K := by
  refine ⟨fun c hlt => ?_, fun c hlt => ?_⟩
  · rw [h5] at hlt
    have hh := h.1 c hlt
    rw [hc (8 + 5 * c) (by omega) (by omega), hc (8 + 5 * c + 1) (by omega) (by omega), hc (8 + 5 * c + 2) (by omega) (by omega), hc (8 + 5 * c + 3) (by omega) (by omega), hc (8 + 5 * c + 4) (by omega) (by omega), h4]
    refine ⟨hh.1, ⟨hh.2.1.1, hh.2.1.2.1, fun h0 => ?_, hh.2.1.2.2.2⟩, hh.2.2⟩
    rw [hm _ (by have := hh.2.1.2.1; omega)]
    exact hh.2.1.2.2.1 h0
  · rw [h5] at hlt
    rw [hc (8 + 5 * c) (by omega) (by omega), hc (8 + 5 * (c + 1)) (by omega) (by omega)]
    exact h.2 c hlt
theorem IvR.to (h : IvR S) (hr : ∀ j, 128 ≤ j → j < 144 → S' j = S j) (h4 : S' 4 = S 4) : IvR S' := by
  intro r hlt
  rw [hr (128 + 4 * r) (by omega) (by omega), hr (128 + 4 * r + 1) (by omega) (by omega), hr (128 + 4 * r + 2) (by omega) (by omega), hr (128 + 4 * r + 3) (by omega) (by omega), h4]
  exact h r hlt
theorem IvS.to (h : IvS S K) (hs : ∀ j, 144 ≤ j → j < 216 → S' j = S j) (hm : ∀ r, r < 4 → S' (128 + 4 * r + 3) = S (128 + 4 * r + 3)) (hm6 : ∀ r, r < 4 → S (128 + 4 * r + 3) ≤ 6) {K' : Nat} (hK : K ≤ K') : IvS S' K' := by
  refine ⟨fun r hr k hk => ?_, fun j hj => ?_, fun r hr k hk h6 => ?_⟩
  · rw [hm r hr] at hk
    have := hm6 r hr
    rw [hs _ (by omega) (by omega), hs _ (by omega) (by omega)]
    exact h.1 r hr k hk
  · rw [hs _ (by omega) (by omega)]
    exact Nat.le_trans (h.2.1 j hj) hK
  · rw [hm r hr] at hk
    rw [hs _ (by omega) (by omega)]
    exact h.2.2 r hr k hk h6
theorem IvH.to (h : IvH S) (hs : ∀ j, 216 ≤ j → j < 224 → S' j = S j) : IvH S' := by
  intro ch hc
  rw [hs _ (by omega) (by omega), hs _ (by omega) (by omega)]
  exact h ch hc
theorem IvD.to (h : IvD S K) (hs : ∀ j, 224 ≤ j → j < 296 → S' j = S j) (h4 : S' 4 = S 4) (h6 : S' 6 = S 6) (h6l : S 6 ≤ 24) {K' : Nat} (hK : K ≤ K') : IvD S' K' := by
  refine ⟨by rw [h6]; exact Nat.le_trans h.1 hK, fun d hd => ?_⟩
  rw [h6] at hd
  rw [hs _ (by omega) (by omega), hs _ (by omega) (by omega), hs _ (by omega) (by omega), h4]
  exact h.2 d hd
theorem IvP.to (h : IvP S) (hs : ∀ j, j < 24 → S' (144 + 3 * j + 2) = S (144 + 3 * j + 2)) (ho : ∀ j, 296 ≤ j → j < 320 → S' j = S j) (h7 : S' 7 = S 7) (hm : ∀ r, r < 4 → S' (128 + 4 * r + 3) = S (128 + 4 * r + 3)) : IvP S' := by
  have hle : S 7 ≤ 24 := by rw [h.1]; exact cntT_le S 24
  refine ⟨by rw [h7, cntT_congr hs]; exact h.1, fun i hi => ?_⟩
  rw [h7] at hi
  obtain ⟨r, k, hr, hk, e⟩ := h.2 i hi
  exact ⟨r, k, hr, by rw [hm r hr]; exact hk, by rw [ho _ (by omega) (by omega)]; exact e⟩
theorem begS_le60 (h : IvS S K) {r : Nat} (hr : r < 4) : ∀ k, k ≤ S (128 + 4 * r + 3) → begS S r k ≤ 60 * k
  | 0, _ => Nat.le_refl _
  | k + 1, hk => by
    have := begS_le60 h hr k (by omega)
    have := (h.1 r hr k (by omega)).1.2
    show begS S r k + _ ≤ _
    omega
/-! a cue comes -/
theorem Iv.mid (h : Iv S K) {c : Nat} (hc : c < S 5) : okC S c := by
  have := (h.2.2.1.1 c hc).2.1
  exact ⟨this.1, this.2.1, this.2.2.1⟩
theorem startS_far {r k j : Nat} (hr : r < 4) (hk : k < 6) (h7 : S (144 + 3 * (6 * r + k) + 2) = 0 → S 7 < 24) (h1 : j ≠ 128 + 4 * r + 1) (h2 : j ≠ 128 + 4 * r + 2) (h3 : j ≠ 144 + 3 * (6 * r + k) + 2) (h4 : j ≠ 7) (h5 : j < 296 ∨ 320 ≤ j) : startS S r k j = S j := by
  unfold startS
  rw [upN_ne h3]
  split
  · rename_i h0
    have h7 := h7 h0
    rw [upN_ne h4, upN_ne (by omega), upN_ne h2, upN_ne h1]
  · rw [upN_ne h2, upN_ne h1]
theorem startS_1 {r k : Nat} (hr : r < 4) (hk : k < 6) (h7 : S (144 + 3 * (6 * r + k) + 2) = 0 → S 7 < 24) : startS S r k (128 + 4 * r + 1) = k + 1 ∧ startS S r k (128 + 4 * r + 2) = S (144 + 3 * (6 * r + k)) ∧ startS S r k (144 + 3 * (6 * r + k) + 2) = S (144 + 3 * (6 * r + k) + 2) + 1 ∧ startS S r k 7 = (if S (144 + 3 * (6 * r + k) + 2) = 0 then S 7 + 1 else S 7) ∧ (∀ i, i < 24 → startS S r k (296 + i) = if S (144 + 3 * (6 * r + k) + 2) = 0 ∧ i = S 7 then 6 * r + k else S (296 + i)) := by
  unfold startS
  by_cases h : S (144 + 3 * (6 * r + k) + 2) = 0
  · have h7 := h7 h
    simp only [if_pos h]
    refine ⟨?_, ?_, ?_, ?_, fun i hi => ?_⟩
    · simp (disch := omega) only [upN_ne, upN_eq]
    · simp (disch := omega) only [upN_ne, upN_eq]
    · rw [upN_eq]
    · simp (disch := omega) only [upN_ne, upN_eq]
    · by_cases hi7 : i = S 7
      · subst hi7
        rw [if_pos ⟨h, rfl⟩]
        simp (disch := omega) only [upN_ne, upN_eq]
      · rw [if_neg (fun q => hi7 q.2)]
        simp (disch := omega) only [upN_ne]
  · simp only [if_neg h]
    refine ⟨?_, ?_, ?_, ?_, fun i hi => ?_⟩
    · simp (disch := omega) only [upN_ne, upN_eq]
    · simp (disch := omega) only [upN_ne, upN_eq]
    · rw [upN_eq]
    · simp (disch := omega) only [upN_ne]
    · rw [if_neg (fun q => h q.1)]
      simp (disch := omega) only [upN_ne]
theorem h7_lt (h : Iv S K) {r k : Nat} (hr : r < 4) (hk : k < 6) (ht : S (144 + 3 * (6 * r + k) + 2) = 0) : S 7 < 24 := by
  rw [h.2.2.2.2.2.2.2.1.1]
  exact cntT_lt ht (by omega)
/-- the state behind a cue that came -/
def stepS (S : Nat → Nat) (c : Nat) : Nat → Nat := upN (comeS S c) (8 + 5 * c + 4) (comeA S c)
theorem comeS_far {c j : Nat} (h : Iv S K) (hc : c < S 5) (h6 : S 6 < 24) (hj : j < 6 ∨ (8 ≤ j ∧ j < 128) ∨ 320 ≤ j ∨ (128 ≤ j ∧ j < 144 ∧ (j % 4 = 0 ∨ j % 4 = 3)) ∨ (144 ≤ j ∧ j < 216 ∧ j % 3 ≠ 2) ∨ (216 ≤ j ∧ j < 224 ∧ j % 2 = 0)) : comeS S c j = S j := by
  obtain ⟨hk, hw, hv⟩ := h.mid hc
  have hm := (h.2.2.2.1 (S (8 + 5 * c + 2)) (by omega)).1
  unfold comeS
  by_cases k2 : S (8 + 5 * c + 1) = 2
  · rw [if_pos k2, upN_ne (by omega)]
  · rw [if_neg k2]
    by_cases k1 : S (8 + 5 * c + 1) = 1
    · rw [if_pos k1, upN_ne (by omega), upN_ne (by omega), upN_ne (by omega), upN_ne (by omega)]
    · have hv := hv (by omega)
      rw [if_neg k1]
      split
      · split
        · refine startS_far (by omega) (by omega) (h7_lt h (by omega) (by omega)) ?_ ?_ ?_ ?_ ?_ <;> omega
        · rfl
      · rfl
theorem comeA_le (S : Nat → Nat) (c : Nat) : 1 ≤ comeA S c ∧ comeA S c ≤ 3 := by
  unfold comeA
  repeat' split
  all_goals omega
end PC
