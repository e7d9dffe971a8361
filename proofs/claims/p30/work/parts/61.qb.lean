/-! ===== a second of the class: its steps ===== -/
section QB
variable {fl : Nat} {len : Nat → Nat} {X : Xm} {I I1 : Im} {p : Nat} {S S' : Nat → Nat} {K : Nat} {w : Nat → Nat}
theorem D1.to (h : D1 I p S) (hm : ∀ j, gA I1 (p + 1) j = gA I (p + 1) j) (hs : ∀ j, j < 4 → S' j = S j) : D1 I1 p S' := fun j hj => by rw [hm, hs j hj]; exact h j hj
theorem D2.to (h : D2 I p S K) (h1 : gF I1 72 p = gF I 72 p) (h2 : gF I1 97 (p + 2) = gF I 97 (p + 2)) (h3 : gF I1 98 (p + 2) = gF I 98 (p + 2)) (s4 : S' 4 = S 4) (s5 : S' 5 = S 5) : D2 I1 p S' K := by
  unfold D2
  rw [h1, h2, h3, s4, s5]
  exact h
theorem D5.to (h : D5 I S w) (hm : ∀ f a, 16 ≤ f → f ≤ 20 → gF I1 f a = gF I f a) (s5 : S' 5 = S 5) (h5 : S 5 ≤ 24) (hs : ∀ j, 8 ≤ j → j < 128 → S' j = S j) : D5 I1 S' w := by
  intro c hc
  rw [s5] at hc
  rw [hm 16 _ (by omega) (by omega), hm 17 _ (by omega) (by omega), hm 18 _ (by omega) (by omega), hm 19 _ (by omega) (by omega), hm 20 _ (by omega) (by omega), hs _ (by omega) (by omega), hs _ (by omega) (by omega), hs _ (by omega) (by omega), hs _ (by omega) (by omega), hs _ (by omega) (by omega)]
  exact h c hc
theorem D6.to (h : D6 I p S) (h0 : gF I1 35 (p + 30) = gF I 35 (p + 30)) (hm : ∀ a j, p + 31 ≤ a → a ≤ p + 33 → gA I1 a j = gA I a j) (s6 : S' 6 = S 6) (h6 : S 6 ≤ 24) (hs : ∀ j, 224 ≤ j → j < 296 → S' j = S j) : D6 I1 p S' := by
  refine ⟨by rw [h0, s6]; exact h.1, fun d hd => ?_⟩
  rw [s6] at hd
  rw [hm _ _ (by omega) (by omega), hm _ _ (by omega) (by omega), hm _ _ (by omega) (by omega), hs _ (by omega) (by omega), hs _ (by omega) (by omega), hs _ (by omega) (by omega)]
  exact h.2 d hd
theorem D7.to (h : D7 I p S) (h0 : gF I1 70 p = gF I 70 p) (hm : ∀ j, gA I1 (p + 34) j = gA I (p + 34) j) (s7 : S' 7 = S 7) (h7 : S 7 ≤ 24) (hs : ∀ j, 296 ≤ j → j < 320 → S' j = S j) : D7 I1 p S' := by
  refine ⟨by rw [h0, s7]; exact h.1, fun j hj => ?_⟩
  rw [s7] at hj
  rw [hm, hs _ (by omega) (by omega)]
  exact h.2 j hj
theorem D8.to (h : D8 I p S) (hm : ∀ j, gA I1 (p + 35) j = gA I (p + 35) j) (s4 : S' 4 = S 4) (hs : ∀ j, 320 ≤ j → S' j = S j) : D8 I1 p S' := by
  intro j hj
  rw [s4] at hj
  rw [hm, hs _ (by omega)]
  exact h j hj
theorem RR.to {r : Nat} (hr : r < 4) (h : RR I p S r) (h6 : S (128 + 4 * r + 3) ≤ 6) (hm : ∀ f, 81 ≤ f → f ≤ 84 → gF I1 f (p + 36 + 8 * r) = gF I f (p + 36 + 8 * r)) (hk : ∀ f k, 112 ≤ f → f ≤ 115 → k < 6 → gF I1 f (p + 36 + 8 * r + 2 + k) = gF I f (p + 36 + 8 * r + 2 + k)) (hs : ∀ j, 128 + 4 * r ≤ j → j < 128 + 4 * r + 4 → S' j = S j) (ht : ∀ j, 144 + 18 * r ≤ j → j < 144 + 18 * r + 18 → S' j = S j) : RR I1 p S' r := by
  obtain ⟨⟨a1, a2, a3, a4⟩, a5⟩ := h
  refine ⟨⟨by rw [hm _ (by omega) (by omega), hs _ (by omega) (by omega)]; exact a1, by rw [hm _ (by omega) (by omega), hs _ (by omega) (by omega)]; exact a2, by rw [hm _ (by omega) (by omega), hs _ (by omega) (by omega)]; exact a3, by rw [hm _ (by omega) (by omega), hs _ (by omega) (by omega)]; exact a4⟩, fun k hk2 => ?_⟩
  rw [hs _ (by omega) (by omega)] at hk2
  rw [hk _ _ (by omega) (by omega) (by omega), hk _ _ (by omega) (by omega) (by omega), hk _ _ (by omega) (by omega) (by omega), hk _ _ (by omega) (by omega) (by omega), ht _ (by omega) (by omega), ht _ (by omega) (by omega), ht _ (by omega) (by omega), begS_congr (S := S) (S' := S') (fun j hj => ht _ (by omega) (by omega))]
  exact a5 k hk2
theorem D9.to (h : D9 I p S) (h6 : ∀ r, r < 4 → S (128 + 4 * r + 3) ≤ 6) (hm : ∀ f a, (81 ≤ f ∧ f ≤ 84) ∨ (112 ≤ f ∧ f ≤ 115) → gF I1 f a = gF I f a) (hs : ∀ j, 128 ≤ j → j < 216 → S' j = S j) : D9 I1 p S' := fun r hr =>
  RR.to hr (h r hr) (h6 r hr) (fun f h1 h2 => hm f _ (by omega)) (fun f k h1 h2 _ => hm f _ (by omega)) (fun j h1 h2 => hs j (by omega) (by omega)) (fun j h1 h2 => hs j (by omega) (by omega))
theorem D10.to (h : D10 I p S) (hm : ∀ f a, f ≤ 1 → gF I1 f a = gF I f a) (hs : ∀ j, 216 ≤ j → j < 224 → S' j = S j) : D10 I1 p S' := fun ch hc => by
  rw [hm 0 _ (by omega), hm 1 _ (by omega), hs _ (by omega) (by omega), hs _ (by omega) (by omega)]
  exact h ch hc
/-! the levels -/
theorem q_fade (hfl : 10000 ≤ fl) (hX : XS X p) (hL : LN len p) (h : Iv S K) : ∀ (j k n : Nat) (I : Im), k + j = 4 → j < n → Cs I p (fadC S k) K w → ∃ I1, Fr p I I1 ∧ Cs I1 p (fadC S 4) K w ∧ m4_runSecond_6 fl len X n I p (nI k) = m4_runSecond_48 fl len X fl I1 p (nI (hearS (fadC S 4))) (nI 0) (p + 29) := by
  intro j
  induction j with
  | zero =>
    intro k n I hj hn hc
    obtain ⟨n, rfl⟩ : ∃ n', n = n' + 1 := ⟨n - 1, by omega⟩
    have hk : k = 4 := by omega
    rw [hk] at hc
    obtain ⟨d1, d2, d5, d6, d7, d8, d9, d10⟩ := id hc
    refine ⟨I, Fr.rfl, hc, ?_⟩
    show m4_runSecond_6b fl len X (m4_runSecond_6 fl len X n) _ p _ = _
    unfold m4_runSecond_6b
    have hf := h.fade
    rw [hk, hX.1.2.2.2.1, nn_s, hL.1.2.2.2.1, if_pos (Int32.le_refl _), q_lreels hfl hX hL d10 d9 hf.okH hf.2.2.2.1, nn_s, q_doors hfl hX hL d10 d6 hf.okH, nn_s, nI_add, lt_e]
    rfl
  | succ j ih =>
    intro k n I hj hn hc
    obtain ⟨n, rfl⟩ : ∃ n', n = n' + 1 := ⟨n - 1, by omega⟩
    obtain ⟨d1, d2, d5, d6, d7, d8, d9, d10⟩ := hc
    have hk4 : k < 4 := by omega
    have hN := h.2.2.2.2.2.2.2.2
    have b1 := hN (216 + 2 * k)
    have b2 := hN (216 + 2 * k + 1)
    have b3 := hN 2
    have e1 : fadC S k (216 + 2 * k) = S (216 + 2 * k) := fadC_far (by omega)
    have e2 : fadC S k (216 + 2 * k + 1) = S (216 + 2 * k + 1) := fadC_far (by omega)
    have e3 : fadC S k 2 = S 2 := fadC_far (by omega)
    have f1 := d10 k hk4
    have hfar : ∀ j, (j < 216 ∨ 224 ≤ j) → fadC S (k + 1) j = fadC S k j := fun j hj => by rw [fadC_far (by omega), fadC_far (by omega)]
    obtain ⟨I1, hI1⟩ : ∃ y, y = pF I 0 (p + 68 + k) (nI (nearS (S (216 + 2 * k)) (S (216 + 2 * k + 1)) (S 2))) := ⟨_, rfl⟩
    have gf : ∀ f a, f ≠ 0 → gF I1 f a = gF I f a := fun f a hf => by rw [hI1]; exact gF_f hf
    have ga : ∀ a j, gA I1 a j = gA I a j := fun a j => by rw [hI1]; rfl
    have h5l : fadC S k 5 ≤ 24 := by rw [fadC_far (by omega)]; exact h.2.1.2.2
    have h6l : fadC S k 6 ≤ 24 := by rw [fadC_far (by omega)]; have := h.2.2.2.2.2.2.1.1; have := h.2.1.2; omega
    have h7l : fadC S k 7 ≤ 24 := by rw [fadC_far (by omega), h.2.2.2.2.2.2.2.1.1]; exact cntT_le S 24
    have hc1 : Cs I1 p (fadC S (k + 1)) K w := by
      refine ⟨d1.to (fun j => ga _ j) (fun j hj => hfar j (by omega)), d2.to (gf _ _ (by omega)) (gf _ _ (by omega)) (gf _ _ (by omega)) (hfar _ (by omega)) (hfar _ (by omega)), d5.to (fun f a h1 h2 => gf f a (by omega)) (hfar _ (by omega)) h5l (fun j _ _ => hfar j (by omega)), d6.to (gf _ _ (by omega)) (fun a j _ _ => ga a j) (hfar _ (by omega)) h6l (fun j _ _ => hfar j (by omega)), d7.to (gf _ _ (by omega)) (fun j => ga _ j) (hfar _ (by omega)) h7l (fun j _ _ => hfar j (by omega)), d8.to (fun j => ga _ j) (hfar _ (by omega)) (fun j _ => hfar j (by omega)), d9.to (fun r hr => by rw [fadC_far (by omega)]; exact (h.2.2.2.1 r hr).1) (fun f a hf => gf f a (by omega)) (fun j _ _ => hfar j (by omega)), fun ch hch => ?_⟩
      by_cases ec : ch = k
      · subst ec
        rw [gf 1 _ (by omega), fadC_far (S := S) (k := ch + 1) (j := 216 + 2 * ch + 1) (by omega), hI1, gF_s]
        refine ⟨?_, by rw [f1.2, e2]⟩
        unfold fadC
        rw [if_pos (by omega)]
      · rw [gf 1 _ (by omega), hI1, gF_a (by omega)]
        have := d10 ch hch
        rw [this.1, this.2, fadC_far (S := S) (k := k + 1) (j := 216 + 2 * ch + 1) (by omega), fadC_far (S := S) (k := k) (j := 216 + 2 * ch + 1) (by omega)]
        refine ⟨?_, rfl⟩
        unfold fadC
        by_cases h3 : 216 ≤ 216 + 2 * ch ∧ 216 + 2 * ch < 216 + 2 * k ∧ (216 + 2 * ch) % 2 = 0
        · rw [if_pos h3, if_pos (by omega)]
        · rw [if_neg h3, if_neg (by omega)]
    obtain ⟨I2, hfr, hc2, hrun⟩ := ih (k + 1) n I1 (by omega) (by omega) hc1
    refine ⟨I2, Fr.trans (by rw [hI1]; exact Fr.rfl.pF (by omega) (by omega)) hfr, hc2, ?_⟩
    rw [← hrun]
    show m4_runSecond_6b fl len X (m4_runSecond_6 fl len X n) _ p _ = _
    unfold m4_runSecond_6b
    rw [hX.1.2.2.2.1, nn_s, hL.1.2.2.2.1, if_neg (by rw [nI_leI (by omega) (by omega)]; omega), ck_inb _ (by omega) (by omega), nI_clamp (by omega), hX.2.2 k hk4, nn_s, hX.1.1, nn_s, hL.1.1, L2, ck_inb _ (by omega) (by omega), nI_clamp (by omega), d1 2 (by omega), e3]
    unfold m0_fade
    rw [f1.1, f1.2, e1, e2, q_near (by omega) (by omega) (by omega), nn_s, lt_e, nn_s, lt_e, L1, nI_add, hI1]
/-! reels go on -/
def goA (S : Nat → Nat) (k : Nat) : Nat → Nat := fun j => if 128 ≤ j ∧ j < 128 + 4 * k then (if j % 4 = 0 then rO S ((j - 128) / 4) else if j % 4 = 1 then rP S ((j - 128) / 4) else if j % 4 = 2 then rL S ((j - 128) / 4) else S j) else S j
theorem goA_far {k j : Nat} (h : j < 128 ∨ 128 + 4 * k ≤ j ∨ j % 4 = 3) : goA S k j = S j := by
  unfold goA
  by_cases h1 : 128 ≤ j ∧ j < 128 + 4 * k
  · rw [if_pos h1, if_neg (by omega), if_neg (by omega), if_neg (by omega)]
  · rw [if_neg h1]
theorem goA_at {k r : Nat} (h : r < k) : goA S k (128 + 4 * r) = rO S r ∧ goA S k (128 + 4 * r + 1) = rP S r ∧ goA S k (128 + 4 * r + 2) = rL S r := by
  unfold goA
  refine ⟨?_, ?_, ?_⟩
  · rw [if_pos (by omega), if_pos (by omega), show (128 + 4 * r - 128) / 4 = r by omega]
  · rw [if_pos (by omega), if_neg (by omega), if_pos (by omega), show (128 + 4 * r + 1 - 128) / 4 = r by omega]
  · rw [if_pos (by omega), if_neg (by omega), if_neg (by omega), if_pos (by omega), show (128 + 4 * r + 2 - 128) / 4 = r by omega]
/-- one reel plays a second -/
theorem q_play {r : Nat} (hr : r < 4) (h : RR I p S r) (hR : IvR S) : ∃ I1, m5_playSecond fl len X I (p + 36 + 8 * r) = some I1 ∧ Fr p I I1 ∧ (∀ a j, gA I1 a j = gA I a j) ∧ (∀ f a, (f < 82 ∨ 84 < f) ∨ a ≠ p + 36 + 8 * r → gF I1 f a = gF I f a) ∧ gF I1 82 (p + 36 + 8 * r) = nI (rO S r) ∧ gF I1 83 (p + 36 + 8 * r) = plI (rP S r) ∧ gF I1 84 (p + 36 + 8 * r) = nI (rL S r) := by
  obtain ⟨⟨a1, a2, a3, a4⟩, a5⟩ := h
  obtain ⟨h1, h2, h3, h4, h5, h6⟩ := hR r hr
  unfold m5_playSecond m5_playSecond_43 rO rP rL
  by_cases hp : S (128 + 4 * r + 1) = 0
  · simp only [if_pos hp]
    rw [a3, hp, plI_0, if_pos rfl]
    exact ⟨I, rfl, Fr.rfl, fun _ _ => rfl, fun _ _ _ => rfl, a2, by rw [a3, hp]; rfl, a4⟩
  · simp only [if_neg hp]
    have hz : S (128 + 4 * r + 2) ≠ 0 := fun q => hp (h3.mpr q)
    rw [if_neg (by rw [a3, plI_eq (by omega)]; exact hp), lt_e, lt_e, gF_f (f := 82) (g := 84) (by omega), a4, a2, L1, nI_add, nI_sub (by omega), gF_s]
    obtain ⟨I1, hI1⟩ : ∃ y, y = pF (pF I 82 (p + 36 + 8 * r) (nI (S (128 + 4 * r) + 1))) 84 (p + 36 + 8 * r) (nI (S (128 + 4 * r + 2) - 1)) := ⟨_, rfl⟩
    rw [← hI1]
    have e82 : gF I1 82 (p + 36 + 8 * r) = nI (S (128 + 4 * r) + 1) := by rw [hI1, gF_f (by omega), gF_s]
    have e84 : gF I1 84 (p + 36 + 8 * r) = nI (S (128 + 4 * r + 2) - 1) := by rw [hI1, gF_s]
    have e83 : gF I1 83 (p + 36 + 8 * r) = plI (S (128 + 4 * r + 1)) := by rw [hI1, gF_f (by omega), gF_f (by omega), a3]
    have eo : ∀ f a, (f < 82 ∨ 84 < f) ∨ a ≠ p + 36 + 8 * r → gF I1 f a = gF I f a := by
      intro f a hf
      rw [hI1, gF_pF, if_neg (by omega), gF_pF, if_neg (by omega)]
    have eA : ∀ a j, gA I1 a j = gA I a j := by intro a j; rw [hI1]; rfl
    have eFr : Fr p I I1 := by rw [hI1]; exact (Fr.rfl.pF (by omega) (by omega)).pF (by omega) (by omega)
    by_cases hl : S (128 + 4 * r + 2) - 1 = 0
    · rw [if_neg (by rw [L0, nI_ltI (by omega) (by omega)]; omega), lt_e]
      refine ⟨pF I1 83 (p + 36 + 8 * r) (-6), rfl, eFr.pF (by omega) (by omega), fun a j => eA a j, fun f a hf => ?_, ?_, ?_, ?_⟩
      · rw [gF_pF, if_neg (by omega)]; exact eo f a hf
      · rw [gF_f (by omega), e82]
      · rw [gF_s, if_pos hl, plI_0]
      · rw [gF_f (by omega), e84]
    · rw [if_pos (by rw [L0, nI_ltI (by omega) (by omega)]; omega)]
      exact ⟨I1, rfl, eFr, eA, eo, e82, by rw [if_neg hl, e83], e84⟩
theorem goA_mid (h : Iv S K) : Bn (goA S 4) ∧ (∀ k, ∀ r, r < 4 → goA S k (128 + 4 * r + 3) ≤ 6) := by
  obtain ⟨iA, iB, iC, iR, iS, iH, iD, iP, iN⟩ := h
  refine ⟨fun j => ?_, fun k r hr => by rw [goA_far (by omega)]; exact (iR r hr).1⟩
  by_cases hj : j < 128 ∨ 128 + 4 * 4 ≤ j ∨ j % 4 = 3
  · rw [goA_far hj]; exact iN j
  · obtain ⟨r', hr', hj'⟩ : ∃ r', r' < 4 ∧ (j = 128 + 4 * r' ∨ j = 128 + 4 * r' + 1 ∨ j = 128 + 4 * r' + 2) := ⟨(j - 128) / 4, by omega, by omega⟩
    obtain ⟨c1, c2, c3, c4, c5⟩ := rO_le iR hr'
    obtain ⟨d1, d2, d3⟩ := goA_at (S := S) hr'
    have hx := iR r' hr'
    rcases hj' with e | e | e <;> rw [e]
    · rw [d1]; omega
    · rw [d2]; omega
    · rw [d3]; omega
end QB
