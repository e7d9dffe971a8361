/-! ===== a whole second of the reference ===== -/
/-- all cues of this second come: the state, how many came, how many are missed -/
def cK : Nat → Nat → (Nat → Nat) → Nat → (Nat → Nat) × Nat × Nat
  | 0, K, S, m => (S, K, m)
  | j + 1, K, S, m => if S (8 + 5 * K) = S 4 then cK j (K + 1) (stepS S K) (m + if comeA S K ≤ 1 then 0 else 1) else (S, K, m)
def fadC (S : Nat → Nat) (k : Nat) : Nat → Nat := fun j => if 216 ≤ j ∧ j < 216 + 2 * k ∧ j % 2 = 0 then nearS (S j) (S (j + 1)) (S 2) else S j
def rP (S : Nat → Nat) (r : Nat) : Nat := if S (128 + 4 * r + 1) = 0 then 0 else if S (128 + 4 * r + 2) - 1 = 0 then 0 else S (128 + 4 * r + 1)
def rL (S : Nat → Nat) (r : Nat) : Nat := if S (128 + 4 * r + 1) = 0 then S (128 + 4 * r + 2) else S (128 + 4 * r + 2) - 1
def rO (S : Nat → Nat) (r : Nat) : Nat := if S (128 + 4 * r + 1) = 0 then S (128 + 4 * r) else S (128 + 4 * r) + 1
def tgS (S : Nat → Nat) (r p : Nat) : Nat := match nxF S r (S 5) 0 with
  | none => p
  | some c => begS S r (S (8 + 5 * c + 3))
def rC (S : Nat → Nat) (r : Nat) : Nat := if rP S r = 0 then nearS (rO S r) (tgS S r (rO S r)) (S 0) else rO S r
def relC (S : Nat → Nat) (k : Nat) : Nat → Nat := fun j => if 128 ≤ j ∧ j < 128 + 4 * k then (if j % 4 = 0 then rC S ((j - 128) / 4) else if j % 4 = 1 then rP S ((j - 128) / 4) else if j % 4 = 2 then rL S ((j - 128) / 4) else S j) else S j
/-- each door is heard for a second less -/
def faF : Nat → Nat → Nat → (Nat → Nat) → (Nat → Nat)
  | 0, _, l, S => upN S 6 l
  | j + 1, d, l, S => faF j (d + 1) (l + if S (224 + 3 * d + 2) - 1 = 0 then 0 else 1) (upN (upN (upN S (224 + 3 * l) (S (224 + 3 * d))) (224 + 3 * l + 1) (S (224 + 3 * d + 1))) (224 + 3 * l + 2) (S (224 + 3 * d + 2) - 1))
def midS (S : Nat → Nat) : Nat → Nat := upN (fadC S 4) (320 + S 4) (hearS (fadC S 4))
def endS (S : Nat → Nat) : Nat → Nat := let T := faF (S 6) 0 0 (relC S 4); upN T 4 (S 4 + 1)
def passS (S : Nat → Nat) (K : Nat) : Nat → Nat := endS (midS (cK (S 5 - K) K S 0).1)
def passK (S : Nat → Nat) (K : Nat) : Nat := (cK (S 5 - K) K S 0).2.1
def passM (S : Nat → Nat) (K : Nat) : Nat := (cK (S 5 - K) K S 0).2.2
theorem cK_m : ∀ (j K : Nat) (S : Nat → Nat) (m : Nat), (cK j K S m).1 = (cK j K S 0).1 ∧ (cK j K S m).2.1 = (cK j K S 0).2.1 ∧ (cK j K S m).2.2 = m + (cK j K S 0).2.2
  | 0, _, _, _ => ⟨rfl, rfl, rfl⟩
  | j + 1, K, S, m => by
    unfold cK
    split
    · obtain ⟨a1, a2, a3⟩ := cK_m j (K + 1) (stepS S K) (m + if comeA S K ≤ 1 then 0 else 1)
      obtain ⟨b1, b2, b3⟩ := cK_m j (K + 1) (stepS S K) (0 + if comeA S K ≤ 1 then 0 else 1)
      refine ⟨a1.trans b1.symm, a2.trans b2.symm, ?_⟩
      rw [a3, b3]; omega
    · exact ⟨rfl, rfl, rfl⟩
section PE
variable {fl : Nat} {len : Nat → Nat} {X : Xm} {I : Im} {q : Nat} {S : Nat → Nat} {K : Nat}
theorem step_5 (h : Iv S K) (hK : K < S 5) : stepS S K 5 = S 5 ∧ stepS S K 4 = S 4 :=
  ⟨stepS_far h hK (K_lt h hK).1 (by omega) (by omega), stepS_far h hK (K_lt h hK).1 (by omega) (by omega)⟩
theorem Iv.come : ∀ (j K : Nat) (S : Nat → Nat) (m : Nat), K + j = S 5 → Iv S K → Iv (cK j K S m).1 (cK j K S m).2.1 ∧ (cK j K S m).1 5 = S 5 ∧ (cK j K S m).1 4 = S 4 ∧ ((cK j K S m).2.1 < S 5 → S 4 < (cK j K S m).1 (8 + 5 * (cK j K S m).2.1))
  | 0, K, S, m, hj, h => ⟨h, rfl, rfl, fun hlt => absurd hlt (by show ¬ K < S 5; omega)⟩
  | j + 1, K, S, m, hj, h => by
    unfold cK
    split
    · rename_i hs
      have hK : K < S 5 := by omega
      obtain ⟨e5, e4⟩ := step_5 h hK
      have ih := Iv.come j (K + 1) (stepS S K) (m + if comeA S K ≤ 1 then 0 else 1) (by rw [e5]; omega) (h.step hK hs)
      rw [e5, e4] at ih
      exact ih
    · rename_i hs
      refine ⟨h, rfl, rfl, fun hlt => ?_⟩
      have hlt : K < S 5 := hlt
      have := (h.2.2.1.1 K hlt).2.2.2.2.2 (Nat.le_refl _)
      show S 4 < S (8 + 5 * K)
      omega
theorem fadC_up {k : Nat} (hk : k < 4) : upN (fadC S k) (216 + 2 * k) (nearS (fadC S k (216 + 2 * k)) (fadC S k (216 + 2 * k + 1)) (fadC S k 2)) = fadC S (k + 1) := by
  funext j
  by_cases hj : j = 216 + 2 * k
  · subst hj
    rw [upN_eq]
    unfold fadC
    rw [if_neg (by omega), if_neg (by omega), if_neg (by omega), if_pos (by omega)]
  · rw [upN_ne hj]
    unfold fadC
    by_cases h : 216 ≤ j ∧ j < 216 + 2 * k ∧ j % 2 = 0
    · rw [if_pos h, if_pos (by omega)]
    · rw [if_neg h, if_neg (by omega)]
theorem fadC_far {k j : Nat} (h : j < 216 ∨ 216 + 2 * k ≤ j ∨ j % 2 = 1) : fadC S k j = S j := by
  unfold fadC
  rw [if_neg (by omega)]
theorem Iv.fade (h : Iv S K) : Iv (fadC S 4) K := by
  obtain ⟨iA, iB, iC, iR, iS, iH, iD, iP, iN⟩ := h
  have hf : ∀ j, (j < 216 ∨ 224 ≤ j) → fadC S 4 j = S j := fun j hj => fadC_far (by omega)
  refine ⟨iA.to fun j hj => hf j (by omega), ⟨by rw [hf 4 (by omega)]; exact iB.1, by rw [hf 5 (by omega)]; exact iB.2.1, by rw [hf 5 (by omega)]; exact iB.2.2⟩, iC.to (fun j _ _ => hf j (by omega)) (hf 4 (by omega)) (hf 5 (by omega)) iB.2.2 (fun r hr => hf _ (by omega)), iR.to (fun j _ _ => hf j (by omega)) (hf 4 (by omega)), iS.to (fun j _ _ => hf j (by omega)) (fun r hr => hf _ (by omega)) (fun r hr => (iR r hr).1) (Nat.le_refl K), fun ch hc => ?_, iD.to (fun j _ _ => hf j (by omega)) (hf 4 (by omega)) (hf 6 (by omega)) (by have := iD.1; have := iB.2; omega) (Nat.le_refl K), iP.to (fun j _ => hf _ (by omega)) (fun j _ _ => hf j (by omega)) (hf 7 (by omega)) (fun r hr => hf _ (by omega)), fun j => ?_⟩
  · have h1 := iH ch hc
    rw [fadC_far (j := 216 + 2 * ch + 1) (by omega)]
    refine ⟨?_, h1.2⟩
    unfold fadC
    rw [if_pos (by omega)]
    exact nearS_le h1.1 h1.2
  · unfold fadC
    split
    · rename_i hj
      obtain ⟨ch, hc, rfl⟩ : ∃ ch, ch < 4 ∧ j = 216 + 2 * ch := ⟨(j - 216) / 2, by omega, by omega⟩
      have h1 := iH ch hc
      have := nearS_le (s := S 2) h1.1 h1.2
      omega
    · exact iN j
theorem Iv.okH (h : Iv S K) : okH S := by
  obtain ⟨iA, iB, iC, iR, iS, iH, iD, iP, iN⟩ := h
  refine ⟨fun ch hc => (iH ch hc).1, fun r hr => ⟨?_, fun hp => ?_⟩, ?_, fun d hd => ⟨(iD.2 d hd).1, (iD.2 d hd).2.1.2⟩⟩
  · have := iR r hr; omega
  · have := iR r hr
    exact (iS.1 r hr (S (128 + 4 * r + 1) - 1) (by omega)).2.2
  · have := iD.1; have := iB.2; omega
theorem hreS_le (h : okH S) : ∀ r, r ≤ 4 → hreS S r ≤ 198 * r
  | 0, _ => Nat.le_refl _
  | r + 1, hr => by
    have := hreS_le h r (by omega)
    obtain ⟨h1, h2⟩ := h.2.1 r (by omega)
    have h3 := h.1 r (by omega)
    by_cases hp : S (128 + 4 * r + 1) = 0
    · rw [hreS_0 hp]; omega
    · rw [hreS_1 hp]
      have hm := Nat.mul_le_mul (h2 hp) h3
      unfold giveS
      omega
theorem hdoS_le (h : okH S) : ∀ d, d ≤ S 6 → hdoS S d ≤ 198 * d
  | 0, _ => Nat.le_refl _
  | d + 1, hd => by
    have := hdoS_le h d (by omega)
    obtain ⟨h1, h2⟩ := h.2.2.2 d (by omega)
    have h3 := h.1 (S (224 + 3 * d)) (by omega)
    have hm := Nat.mul_le_mul h2 h3
    show hdoS S d + giveS S _ _ ≤ _
    unfold giveS
    omega
theorem hearS_le (h : okH S) : hearS S ≤ 10000 := by
  have h1 := hreS_le h 4 (Nat.le_refl _)
  have h2 := hdoS_le h (S 6) (Nat.le_refl _)
  have h3 := h.2.2.1
  unfold hearS
  omega
theorem Iv.mids (h : Iv S K) : Iv (midS S) K := by
  have hf := h.fade
  have hh := hearS_le hf.okH
  have e4 : fadC S 4 4 = S 4 := fadC_far (by omega)
  unfold midS
  generalize hv : hearS (fadC S 4) = v at hh
  generalize fadC S 4 = T at hf e4
  obtain ⟨iA, iB, iC, iR, iS, iH, iD, iP, iN⟩ := hf
  have hg : ∀ j, j < 320 → upN T (320 + S 4) v j = T j := fun j hj => upN_ne (by omega)
  exact ⟨iA.to fun j hj => hg j (by omega), ⟨by rw [hg 4 (by omega)]; exact iB.1, by rw [hg 5 (by omega)]; exact iB.2.1, by rw [hg 5 (by omega)]; exact iB.2.2⟩, iC.to (fun j _ _ => hg j (by omega)) (hg 4 (by omega)) (hg 5 (by omega)) iB.2.2 (fun r hr => hg _ (by omega)), iR.to (fun j _ _ => hg j (by omega)) (hg 4 (by omega)), iS.to (fun j _ _ => hg j (by omega)) (fun r hr => hg _ (by omega)) (fun r hr => (iR r hr).1) (Nat.le_refl K), iH.to (fun j _ _ => hg j (by omega)), iD.to (fun j _ _ => hg j (by omega)) (hg 4 (by omega)) (hg 6 (by omega)) (by have := iD.1; have := iB.2; omega) (Nat.le_refl K), iP.to (fun j _ => hg _ (by omega)) (fun j _ _ => hg j (by omega)) (hg 7 (by omega)) (fun r hr => hg _ (by omega)), iN.up (by omega)⟩
end PE
