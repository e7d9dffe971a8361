/-! ===== a whole second of the reference, its end ===== -/
section PF
variable {fl : Nat} {len : Nat → Nat} {X : Xm} {I : Im} {q : Nat} {S : Nat → Nat} {K : Nat}
/-- reels -/
theorem relC_far {k j : Nat} (h : j < 128 ∨ 128 + 4 * k ≤ j ∨ j % 4 = 3) : relC S k j = S j := by
  unfold relC
  by_cases h1 : 128 ≤ j ∧ j < 128 + 4 * k
  · rw [if_pos h1, if_neg (by omega), if_neg (by omega), if_neg (by omega)]
  · rw [if_neg h1]
theorem relC_at {k r : Nat} (h : r < k) : relC S k (128 + 4 * r) = rC S r ∧ relC S k (128 + 4 * r + 1) = rP S r ∧ relC S k (128 + 4 * r + 2) = rL S r := by
  unfold relC
  refine ⟨?_, ?_, ?_⟩
  · rw [if_pos (by omega), if_pos (by omega), show (128 + 4 * r - 128) / 4 = r by omega]
  · rw [if_pos (by omega), if_neg (by omega), if_pos (by omega), show (128 + 4 * r + 1 - 128) / 4 = r by omega]
  · rw [if_pos (by omega), if_neg (by omega), if_neg (by omega), if_pos (by omega), show (128 + 4 * r + 2 - 128) / 4 = r by omega]
theorem goS_at (r : Nat) : goS S r (128 + 4 * r) = rO S r ∧ goS S r (128 + 4 * r + 1) = rP S r ∧ goS S r (128 + 4 * r + 2) = rL S r ∧ ∀ j, j ≠ 128 + 4 * r → j ≠ 128 + 4 * r + 1 → j ≠ 128 + 4 * r + 2 → goS S r j = S j := by
  unfold goS rO rP rL
  by_cases h : S (128 + 4 * r + 1) = 0
  · simp only [if_pos h]
    refine ⟨trivial, h, trivial, fun _ _ _ _ => trivial⟩
  · simp only [if_neg h]
    refine ⟨?_, ?_, ?_, fun j h1 h2 h3 => ?_⟩
    · rw [upN_ne (by omega), upN_ne (by omega), upN_eq]
    · rw [upN_eq]
    · rw [upN_ne (by omega), upN_eq]
    · rw [upN_ne h2, upN_ne h3, upN_ne h1]
theorem nxF_congr {S' : Nat → Nat} {r : Nat} : ∀ {j c : Nat}, (∀ i, c ≤ i → i < c + j → S' (8 + 5 * i + 4) = S (8 + 5 * i + 4) ∧ S' (8 + 5 * i + 1) = S (8 + 5 * i + 1) ∧ S' (8 + 5 * i + 2) = S (8 + 5 * i + 2)) → nxF S' r j c = nxF S r j c
  | 0, _, _ => rfl
  | j + 1, c, h => by
    unfold nxF
    obtain ⟨h1, h2, h3⟩ := h c (Nat.le_refl _) (by omega)
    rw [h1, h2, h3, nxF_congr (fun i hi1 hi2 => h i (by omega) (by omega))]
theorem tg_le (h : Iv S K) {r p : Nat} (hr : r < 4) (hp : p ≤ 360) : tgS S r p ≤ 360 := by
  obtain ⟨iA, iB, iC, iR, iS, iH, iD, iP, iN⟩ := h
  unfold tgS
  split
  · exact hp
  · rename_i c hc
    obtain ⟨-, h2, -, h4, h5⟩ := nxF_some hc
    have hcue := (iC.1 c (by omega)).2.1
    have := hcue.2.2.1 h4
    rw [h5] at this
    have := begS_le60 iS hr (S (8 + 5 * c + 3)) (by omega)
    have := (iR r hr).1
    omega
theorem rO_le (h : IvR S) {r : Nat} (hr : r < 4) : rO S r + rL S r ≤ 360 ∧ rL S r ≤ 60 ∧ (rP S r = 0 ↔ rL S r = 0) ∧ rP S r ≤ S (128 + 4 * r + 1) ∧ (rP S r ≠ 0 → S 4 + 1 + rL S r ≤ 1060) := by
  have := h r hr
  unfold rO rL rP
  by_cases hp : S (128 + 4 * r + 1) = 0
  · obtain ⟨h1, h2, h3, h4, h5, h6⟩ := this
    have hz := h3.mp hp
    simp only [if_pos hp]
    refine ⟨by omega, by omega, ⟨fun _ => hz, fun _ => trivial⟩, by omega, fun h => absurd rfl h⟩
  · simp only [if_neg hp]
    split <;> omega
/-- doors -/
theorem faF_far : ∀ (j d l : Nat) (S : Nat → Nat), l ≤ d → d + j ≤ 24 → ∀ i, i ≠ 6 → (i < 224 ∨ 296 ≤ i) → faF j d l S i = S i
  | 0, d, l, S, _, _, i, h6, _ => upN_ne h6
  | j + 1, d, l, S, hl, hd, i, h6, hi => by
    unfold faF
    rw [faF_far j (d + 1) _ _ (by split <;> omega) (by omega) i h6 hi, upN_ne (by omega), upN_ne (by omega), upN_ne (by omega)]
end PF
