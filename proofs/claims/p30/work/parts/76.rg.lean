/-! ===== set, goal ===== -/
section RG
variable {fl : Nat} {len : Nat → Nat} {X : Xm} {I I1 : Im} {p b : Nat} {S : Nat → Nat} {K : Nat} {w : Nat → Nat}
/-- an int within two natural numbers is one, or it isn't within them -/
theorem rng (z : Int32) (a m : Nat) (ha : a < 10000) (hm : m < 10000) : (∃ v, a ≤ v ∧ v ≤ m ∧ z = nI v) ∨ ¬ (nI a ≤ z ∧ z ≤ nI m) := by
  by_cases h : nI a ≤ z ∧ z ≤ nI m
  · have h1 := h.1
    have h2 := h.2
    rw [Int32.le_iff_toInt_le, nI_toInt (by omega)] at h1
    rw [Int32.le_iff_toInt_le, nI_toInt (by omega)] at h2
    refine Or.inl ⟨z.toInt.toNat, by omega, by omega, Int32.toInt_inj.mp ?_⟩
    rw [nI_toInt (by omega)]
    omega
  · exact Or.inr h
theorem nneg_not {n : Nat} (h : n < 2 ^ 31) : (0 : Int32) ≤ nI n := by rw [L0, nI_leI (by omega) h]; omega
def loN (k : Nat) : Nat := if k = 3 then 10 else 1
def hiN (k : Nat) : Nat := if k = 0 then 20 else if k = 1 then 9 else if k = 2 then 100 else 400
theorem lo_hi {k : Nat} (hk : k < 4) : leastS.getD k 0 = nI (loN k) ∧ mostS.getD k 0 = nI (hiN k) := by
  have : k = 0 ∨ k = 1 ∨ k = 2 ∨ k = 3 := by omega
  rcases this with rfl | rfl | rfl | rfl <;> exact ⟨rfl, rfl⟩
theorem Iv.set (h : Iv S K) {k v : Nat} (hk : k < 4) (h1 : loN k ≤ v) (h2 : v ≤ hiN k) : Iv (upN S k v) K := by
  obtain ⟨iA, iB, iC, iR, iS, iH, iD, iP, iN⟩ := h
  have hf : ∀ j, 4 ≤ j → upN S k v j = S j := fun j hj => upN_ne (by omega)
  have h400 : v ≤ 400 := by unfold hiN at h2; split at h2 <;> (try split at h2) <;> (try split at h2) <;> omega
  refine ⟨?_, ⟨by rw [hf 4 (by omega)]; exact iB.1, by rw [hf 5 (by omega)]; exact iB.2.1, by rw [hf 5 (by omega)]; exact iB.2.2⟩, iC.to (fun j _ _ => hf j (by omega)) (hf 4 (by omega)) (hf 5 (by omega)) iB.2.2 (fun r hr => hf _ (by omega)), iR.to (fun j _ _ => hf j (by omega)) (hf 4 (by omega)), iS.to (fun j _ _ => hf j (by omega)) (fun r hr => hf _ (by omega)) (fun r hr => (iR r hr).1) (Nat.le_refl K), iH.to (fun j _ _ => hf j (by omega)), iD.to (fun j _ _ => hf j (by omega)) (hf 4 (by omega)) (hf 6 (by omega)) (by have := iD.1; have := iB.2; omega) (Nat.le_refl K), iP.to (fun j _ => hf _ (by omega)) (fun j _ _ => hf j (by omega)) (hf 7 (by omega)) (fun r hr => hf _ (by omega)), iN.up (by omega)⟩
  have : k = 0 ∨ k = 1 ∨ k = 2 ∨ k = 3 := by omega
  unfold loN at h1
  unfold hiN at h2
  unfold IvA at iA ⊢
  rcases this with rfl | rfl | rfl | rfl
  · simp (disch := omega) only [upN_eq, upN_ne]; simp at h1 h2; omega
  · simp (disch := omega) only [upN_eq, upN_ne]; simp at h1 h2; omega
  · simp (disch := omega) only [upN_eq, upN_ne]; simp at h1 h2; omega
  · simp (disch := omega) only [upN_eq, upN_ne]; simp at h1 h2; omega
theorem Cs.set (hc : Cs I p S K w) (hv : Iv S K) {k v : Nat} (hk : k < 4) : Cs (pA I (p + 1) k (nI v)) p (upN S k v) K w := by
  obtain ⟨d1, d2, d5, d6, d7, d8, d9, d10⟩ := hc
  have hf : ∀ j, 4 ≤ j → upN S k v j = S j := fun j hj => upN_ne (by omega)
  have h67 := h67_le hv
  refine ⟨fun j hj => ?_, d2.to rfl rfl rfl (hf 4 (by omega)) (hf 5 (by omega)), d5.to (fun _ _ _ _ => rfl) (hf 5 (by omega)) hv.m6.1 (fun j _ _ => hf j (by omega)), d6.to rfl (fun a j h1 h2 => gA_a (by omega)) (hf 6 (by omega)) h67.1 (fun j _ _ => hf j (by omega)), d7.to rfl (fun j => gA_a (by omega)) (hf 7 (by omega)) h67.2 (fun j _ _ => hf j (by omega)), d8.to (fun j => gA_a (by omega)) (hf 4 (by omega)) (fun j _ => hf j (by omega)), d9.to hv.m6.2 (fun _ _ _ => rfl) (fun j _ _ => hf j (by omega)), d10.to (fun _ _ _ => rfl) (fun j _ _ => hf j (by omega))⟩
  by_cases e : j = k
  · subst e; rw [gA_s, upN_eq]
  · rw [gA_j e, upN_ne e]; exact d1 j hj
theorem Iv.goal (h : Iv S K) {k v : Nat} (hk : k < 4) (h2 : v ≤ 100) : Iv (upN S (216 + 2 * k + 1) v) K := by
  obtain ⟨iA, iB, iC, iR, iS, iH, iD, iP, iN⟩ := h
  have hf : ∀ j, (j < 216 ∨ 224 ≤ j) → upN S (216 + 2 * k + 1) v j = S j := fun j hj => upN_ne (by omega)
  refine ⟨iA.to fun j hj => hf j (by omega), ⟨by rw [hf 4 (by omega)]; exact iB.1, by rw [hf 5 (by omega)]; exact iB.2.1, by rw [hf 5 (by omega)]; exact iB.2.2⟩, iC.to (fun j _ _ => hf j (by omega)) (hf 4 (by omega)) (hf 5 (by omega)) iB.2.2 (fun r hr => hf _ (by omega)), iR.to (fun j _ _ => hf j (by omega)) (hf 4 (by omega)), iS.to (fun j _ _ => hf j (by omega)) (fun r hr => hf _ (by omega)) (fun r hr => (iR r hr).1) (Nat.le_refl K), fun c hc => ?_, iD.to (fun j _ _ => hf j (by omega)) (hf 4 (by omega)) (hf 6 (by omega)) (by have := iD.1; have := iB.2; omega) (Nat.le_refl K), iP.to (fun j _ => hf _ (by omega)) (fun j _ _ => hf j (by omega)) (hf 7 (by omega)) (fun r hr => hf _ (by omega)), iN.up (by omega)⟩
  have := iH c hc
  rw [upN_ne (by omega)]
  refine ⟨this.1, ?_⟩
  by_cases e : c = k
  · subst e; rw [upN_eq]; exact h2
  · rw [upN_ne (by omega)]; exact this.2
theorem Cs.goal (hc : Cs I p S K w) (hv : Iv S K) {k v : Nat} (hk : k < 4) : Cs (pF I 1 (p + 68 + k) (nI v)) p (upN S (216 + 2 * k + 1) v) K w := by
  obtain ⟨d1, d2, d5, d6, d7, d8, d9, d10⟩ := hc
  have hf : ∀ j, (j < 216 ∨ 224 ≤ j) → upN S (216 + 2 * k + 1) v j = S j := fun j hj => upN_ne (by omega)
  have h67 := h67_le hv
  refine ⟨d1.to (fun _ => rfl) (fun j hj => hf j (by omega)), d2.to (gF_f (by omega)) (gF_f (by omega)) (gF_f (by omega)) (hf 4 (by omega)) (hf 5 (by omega)), d5.to (fun f a h1 h2 => gF_f (by omega)) (hf 5 (by omega)) hv.m6.1 (fun j _ _ => hf j (by omega)), d6.to (gF_f (by omega)) (fun _ _ _ _ => rfl) (hf 6 (by omega)) h67.1 (fun j _ _ => hf j (by omega)), d7.to (gF_f (by omega)) (fun _ => rfl) (hf 7 (by omega)) h67.2 (fun j _ _ => hf j (by omega)), d8.to (fun _ => rfl) (hf 4 (by omega)) (fun j _ => hf j (by omega)), d9.to hv.m6.2 (fun f a hf' => gF_f (by omega)) (fun j _ _ => hf j (by omega)), fun c hcc => ?_⟩
  obtain ⟨e0, e1⟩ := d10 c hcc
  rw [gF_f (f := 1) (g := 0) (by omega), upN_ne (j := 216 + 2 * c) (by omega)]
  refine ⟨e0, ?_⟩
  by_cases e : c = k
  · subst e; rw [gF_s, upN_eq]
  · rw [gF_a (by omega), upN_ne (by omega)]; exact e1
end RG
