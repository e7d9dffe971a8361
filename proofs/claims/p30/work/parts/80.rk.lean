/-! ===== cue, takeOut, move ===== -/
section RK
variable {fl : Nat} {len : Nat → Nat} {X X2 : Xm} {I I1 : Im} {p q b : Nat} {S S' : Nat → Nat} {K : Nat} {w w' : Nat → Nat}
theorem bad_not {z : Int32} {n : Nat} (h : bad (n + 1) z) (hn : n < 10000) : ¬ (nI 0 ≤ z ∧ z ≤ nI n) := fun q => by
  have h1 := q.1
  have h2 := q.2
  rw [Int32.le_iff_toInt_le, nI_toInt (by omega)] at h1
  rw [Int32.le_iff_toInt_le, nI_toInt (by omega)] at h2
  rcases h with h | ⟨h, h3⟩
  · rw [Int32.lt_iff_toInt_lt, Int32.toInt_zero] at h; omega
  · rw [Int32.le_iff_toInt_le, nI_toInt (by omega)] at h3; omega
theorem q_withinb {z : Int32} {n : Nat} (h : bad (n + 1) z) (hn : n < 10000) : m8_within fl len X I z (nI 0) (nI n) = some (0 : Int32) := q_within0 (bad_not h hn)
theorem q_withinl {k a n : Nat} (h : k ≤ n) (ha : a ≤ k) (hn : n ≤ 10000) : m8_within fl len X I (nI k) (nI a) (nI n) = some (1 : Int32) := q_within1 ⟨by rw [nI_leI (by omega) (by omega)]; omega, by rw [nI_leI (by omega) (by omega)]; omega⟩
/-- where only cues change -/
theorem Cs.cue (hc : Cs I p S K w) (hv : Iv S K) (hA : ∀ a j, gA I1 a j = gA I a j) (hF : ∀ f a, (f < 16 ∨ 20 < f) → f ≠ 97 → gF I1 f a = gF I f a) (h97 : gF I1 97 (p + 2) = nI (S' 5)) (h5 : D5 I1 S' w') (hs : ∀ j, j ≠ 5 → (j < 8 ∨ 128 ≤ j) → S' j = S j) : Cs I1 p S' K w' := by
  obtain ⟨d1, d2, d5, d6, d7, d8, d9, d10⟩ := hc
  have h67 := h67_le hv
  refine ⟨d1.to (hA _) (fun j hj => hs j (by omega) (by omega)), ⟨?_, h97, ?_⟩, h5, d6.to (hF _ _ (by omega) (by omega)) (fun a j _ _ => hA a j) (hs 6 (by omega) (by omega)) h67.1 (fun j _ _ => hs j (by omega) (by omega)), d7.to (hF _ _ (by omega) (by omega)) (hA _) (hs 7 (by omega) (by omega)) h67.2 (fun j _ _ => hs j (by omega) (by omega)), d8.to (hA _) (hs 4 (by omega) (by omega)) (fun j _ => hs j (by omega) (by omega)), d9.to hv.m6.2 (fun f a hf => hF f a (by omega) (by omega)) (fun j _ _ => hs j (by omega) (by omega)), d10.to (fun f a hf => hF f a (by omega) (by omega)) (fun j _ _ => hs j (by omega) (by omega))⟩
  · rw [hF _ _ (by omega) (by omega), hs 4 (by omega) (by omega)]; exact d2.1
  · rw [hF _ _ (by omega) (by omega)]; exact d2.2.2
/-! a cue is taken out -/
end RK
