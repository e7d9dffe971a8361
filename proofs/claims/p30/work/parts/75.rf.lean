/-! ===== a change on both sides ===== -/
section RF
variable {fl : Nat} {len : Nat → Nat} {X X2 : Xm} {I I1 I2 : Im} {p b : Nat} {S S' : Nat → Nat} {K K' n t : Nat} {w w' : Nat → Nat} {sg : Nat → Nat} {W : Nat → Nat → Nat} {Hs Ss : Nat → Nat → Nat} {Hk Sk sv tx : Nat → Nat}
theorem Cs.same2 (h : Cs I p S K w) (hC : XC X p w) (h5 : S 5 ≤ 24) (hm : ∀ r, r < 4 → S (128 + 4 * r + 3) ≤ 6) (hI : ∀ a, p ≤ a → a < p + 72 → (∀ f, f < 128 → gF I1 f a = gF I f a) ∧ ∀ j, gA I1 a j = gA I a j) : Cs I1 p S K w := by
  obtain ⟨d1, d2, d5, d6, d7, d8, d9, d10⟩ := h
  have g : ∀ f a, p ≤ a → a < p + 72 → f < 128 → gF I1 f a = gF I f a := fun f a h1 h2 h3 => (hI a h1 h2).1 f h3
  refine ⟨fun j hj => ?_, ?_, fun c hc => ?_, ⟨?_, fun d hd => ?_⟩, ⟨?_, fun j hj => ?_⟩, fun j hj => ?_, fun r hr => ⟨⟨?_, ?_, ?_, ?_⟩, fun k hk => ?_⟩, fun ch hch => ?_⟩
  · rw [(hI _ (by omega) (by omega)).2]; exact d1 j hj
  · unfold D2
    rw [g 72 p (by omega) (by omega) (by decide), g 97 (p + 2) (by omega) (by omega) (by decide), g 98 (p + 2) (by omega) (by omega) (by decide)]; exact d2
  · obtain ⟨-, h2, -⟩ := hC c (by omega)
    rw [g 16 _ (by omega) (by omega) (by decide), g 17 _ (by omega) (by omega) (by decide), g 18 _ (by omega) (by omega) (by decide), g 19 _ (by omega) (by omega) (by decide), g 20 _ (by omega) (by omega) (by decide)]; exact d5 c hc
  · rw [g 35 _ (by omega) (by omega) (by decide)]; exact d6.1
  · rw [(hI (p + 31) (by omega) (by omega)).2, (hI (p + 32) (by omega) (by omega)).2, (hI (p + 33) (by omega) (by omega)).2]; exact d6.2 d hd
  · rw [g 70 _ (by omega) (by omega) (by decide)]; exact d7.1
  · rw [(hI (p + 34) (by omega) (by omega)).2]; exact d7.2 j hj
  · rw [(hI (p + 35) (by omega) (by omega)).2]; exact d8 j hj
  · rw [g 81 _ (by omega) (by omega) (by decide)]; exact (d9 r hr).1.1
  · rw [g 82 _ (by omega) (by omega) (by decide)]; exact (d9 r hr).1.2.1
  · rw [g 83 _ (by omega) (by omega) (by decide)]; exact (d9 r hr).1.2.2.1
  · rw [g 84 _ (by omega) (by omega) (by decide)]; exact (d9 r hr).1.2.2.2
  · have hm6 := hm r hr
    rw [g 112 _ (by omega) (by omega) (by decide), g 113 _ (by omega) (by omega) (by decide), g 114 _ (by omega) (by omega) (by decide), g 115 _ (by omega) (by omega) (by decide)]
    exact (d9 r hr).2 k hk
  · rw [g 0 _ (by omega) (by omega) (by decide), g 1 _ (by omega) (by omega) (by decide)]; exact d10 ch hch
theorem XS.to (h : XS X p) (hR : ∀ f a, gR X2 f a = gR X f a) (hQ : ∀ a j, p + 28 ≤ a → a < p + 72 → gQ X2 a j = gQ X a j) : XS X2 p := by
  obtain ⟨⟨a1, a2, a3, a4, a5, a6, a7, a8, a9, a10, a11⟩, h2, h3⟩ := h
  refine ⟨⟨by rw [hR]; exact a1, by rw [hR]; exact a2, by rw [hR]; exact a3, by rw [hR]; exact a4, by rw [hR]; exact a5, by rw [hR]; exact a6, by rw [hR]; exact a7, by rw [hR]; exact a8, by rw [hR]; exact a9, by rw [hR]; exact a10, by rw [hR]; exact a11⟩, fun r hr => ?_, fun ch hc => ?_⟩
  · obtain ⟨c1, c2, c3⟩ := h2 r hr
    exact ⟨by rw [hQ _ _ (by omega) (by omega)]; exact c1, by rw [hR]; exact c2, fun k hk => by rw [hQ _ _ (by omega) (by omega)]; exact c3 k hk⟩
  · rw [hQ _ _ (by omega) (by omega)]; exact h3 ch hc
theorem sgN_0 : sgN sg n 0 = sg 0 := by
  unfold sgN
  by_cases h : n = 6
  · rw [if_pos h, if_pos rfl]
  · rw [if_neg h]
theorem sgN_e {i : Nat} (hi : i < 8) : ∃ j, j < 8 ∧ sgN sg n i = sg j := by
  unfold sgN
  by_cases h : n = 6
  · rw [if_pos h]
    by_cases h0 : i = 0
    · rw [if_pos h0]; exact ⟨0, by omega, rfl⟩
    · rw [if_neg h0]
      by_cases h7 : i = 7
      · rw [if_pos h7]; exact ⟨1, by omega, rfl⟩
      · rw [if_neg h7]; exact ⟨i + 1, by omega, rfl⟩
  · rw [if_neg h]; exact ⟨i, hi, rfl⟩
theorem sgN_inj (hi : ∀ i, i < 8 → ∀ j, j < 8 → sg i = sg j → i = j) : ∀ i, i < 8 → ∀ j, j < 8 → sgN sg n i = sgN sg n j → i = j := by
  intro i h1 j h2 he
  unfold sgN at he
  by_cases h : n = 6
  · simp only [if_pos h] at he
    have e : ∀ k, k < 8 → (if k = 0 then sg 0 else if k = 7 then sg 1 else sg (k + 1)) = sg (if k = 0 then 0 else if k = 7 then 1 else k + 1) := by
      intro k _
      split
      · rfl
      · split <;> rfl
    rw [e i h1, e j h2] at he
    have := hi _ (by split <;> first | omega | (split <;> omega)) _ (by split <;> first | omega | (split <;> omega)) he
    by_cases a0 : i = 0
    · rw [if_pos a0] at this
      by_cases c0 : j = 0
      · omega
      · rw [if_neg c0] at this
        split at this <;> omega
    · rw [if_neg a0] at this
      by_cases c0 : j = 0
      · rw [if_pos c0] at this
        split at this <;> omega
      · rw [if_neg c0] at this
        by_cases a7 : i = 7
        · rw [if_pos a7] at this
          split at this <;> omega
        · rw [if_neg a7] at this
          split at this <;> omega
  · simp only [if_neg h] at he
    exact hi i h1 j h2 he
end RF
