/-! ===== a whole second: the run, and what holds behind it ===== -/
section PG
variable {fl : Nat} {len : Nat → Nat} {X : Xm} {I : Im} {q : Nat} {S : Nat → Nat} {K : Nat}
theorem endS_far {j : Nat} (h6 : S 6 ≤ 24) (h4 : j ≠ 4) (h : j ≠ 6) (hj : j < 128 ∨ (144 ≤ j ∧ j < 224) ∨ 296 ≤ j ∨ (128 ≤ j ∧ j < 144 ∧ j % 4 = 3)) : endS S j = S j := by
  unfold endS
  have h6' : relC S 4 6 = S 6 := relC_far (by omega)
  rw [upN_ne h4, faF_far _ 0 0 _ (Nat.le_refl _) (by omega) j h (by omega), relC_far (by omega)]
theorem endS_4 (h6 : S 6 ≤ 24) : endS S 4 = S 4 + 1 := by
  unfold endS
  rw [upN_eq]
theorem endS_r (h6 : S 6 ≤ 24) {r : Nat} (hr : r < 4) : endS S (128 + 4 * r) = rC S r ∧ endS S (128 + 4 * r + 1) = rP S r ∧ endS S (128 + 4 * r + 2) = rL S r := by
  obtain ⟨a1, a2, a3⟩ := relC_at (S := S) hr
  unfold endS
  refine ⟨?_, ?_, ?_⟩
  · rw [upN_ne (by omega), faF_far _ 0 0 _ (Nat.le_refl _) (by omega) _ (by omega) (by omega), a1]
  · rw [upN_ne (by omega), faF_far _ 0 0 _ (Nat.le_refl _) (by omega) _ (by omega) (by omega), a2]
  · rw [upN_ne (by omega), faF_far _ 0 0 _ (Nat.le_refl _) (by omega) _ (by omega) (by omega), a3]
def dOk (N : Nat) (S : Nat → Nat) (d : Nat) : Prop := S (224 + 3 * d) ≤ 3 ∧ (1 ≤ S (224 + 3 * d + 1) ∧ S (224 + 3 * d + 1) ≤ 99) ∧ (1 ≤ S (224 + 3 * d + 2) ∧ S (224 + 3 * d + 2) ≤ 9) ∧ N + S (224 + 3 * d + 2) ≤ 1010
theorem dOk.to {N d : Nat} {S T : Nat → Nat} (h : dOk N S d) (h0 : T (224 + 3 * d) = S (224 + 3 * d)) (h1 : T (224 + 3 * d + 1) = S (224 + 3 * d + 1)) (h2 : T (224 + 3 * d + 2) = S (224 + 3 * d + 2)) : dOk N T d := by
  unfold dOk
  rw [h0, h1, h2]
  exact h
theorem faF_ok {N : Nat} : ∀ (j d l : Nat) (S : Nat → Nat), l ≤ d → (∀ e, e < l → dOk (N + 1) S e) → (∀ e, d ≤ e → e < d + j → dOk N S e) → faF j d l S 6 ≤ l + j ∧ ∀ e, e < faF j d l S 6 → dOk (N + 1) (faF j d l S) e
  | 0, d, l, S, _, h1, _ => by
    unfold faF
    rw [upN_eq]
    exact ⟨Nat.le_refl _, fun e he => (h1 e he).to (upN_ne (by omega)) (upN_ne (by omega)) (upN_ne (by omega))⟩
  | j + 1, d, l, S, hl, h1, h2 => by
    unfold faF
    obtain ⟨T1, eT1⟩ : ∃ T1, T1 = upN (upN (upN S (224 + 3 * l) (S (224 + 3 * d))) (224 + 3 * l + 1) (S (224 + 3 * d + 1))) (224 + 3 * l + 2) (S (224 + 3 * d + 2) - 1) := ⟨_, rfl⟩
    rw [← eT1]
    have hT1 : ∀ i, (i < 224 + 3 * l ∨ 224 + 3 * l + 2 < i) → T1 i = S i := by
      intro i hi; rw [eT1, upN_ne (by omega), upN_ne (by omega), upN_ne (by omega)]
    have t0 : T1 (224 + 3 * l) = S (224 + 3 * d) := by rw [eT1, upN_ne (by omega), upN_ne (by omega), upN_eq]
    have t1 : T1 (224 + 3 * l + 1) = S (224 + 3 * d + 1) := by rw [eT1, upN_ne (by omega), upN_eq]
    have t2 : T1 (224 + 3 * l + 2) = S (224 + 3 * d + 2) - 1 := by rw [eT1, upN_eq]
    obtain ⟨a1, a2, a3, a4⟩ := h2 d (Nat.le_refl _) (by omega)
    have ih := faF_ok (N := N) j (d + 1) (l + if S (224 + 3 * d + 2) - 1 = 0 then 0 else 1) T1 (by split <;> omega) (fun e he => by
      by_cases el : e < l
      · exact (h1 e el).to (hT1 _ (by omega)) (hT1 _ (by omega)) (hT1 _ (by omega))
      · split at he <;> rename_i hz
        · omega
        · obtain rfl : e = l := by omega
          unfold dOk
          rw [t0, t1, t2]
          omega) (fun e h3 h4 => (h2 e (by omega) (by omega)).to (hT1 _ (by omega)) (hT1 _ (by omega)) (hT1 _ (by omega)))
    refine ⟨Nat.le_trans ih.1 (by split <;> omega), ih.2⟩
theorem faF_Bn : ∀ (j d l : Nat) (S : Nat → Nat), Bn S → l + j < 1000 → Bn (faF j d l S)
  | 0, d, l, S, h, hl => h.up (by omega)
  | j + 1, d, l, S, h, hl => by
    unfold faF
    have n2 := h (224 + 3 * d + 2)
    exact faF_Bn j (d + 1) _ _ (((h.up (h _)).up (h _)).up (by omega)) (by split <;> omega)
theorem Iv.ends (h : Iv S K) (h4 : S 4 < 1200) (hK : K < S 5 → S 4 < S (8 + 5 * K)) : Iv (endS S) K := by
  have hI := h
  obtain ⟨iA, iB, iC, iR, iS, iH, iD, iP, iN⟩ := h
  have h6 : S 6 ≤ 24 := by have := iD.1; have := iB.2; omega
  have hf : ∀ j, j ≠ 4 → j ≠ 6 → (j < 128 ∨ (144 ≤ j ∧ j < 224) ∨ 296 ≤ j ∨ (128 ≤ j ∧ j < 144 ∧ j % 4 = 3)) → endS S j = S j := fun j h1 h2 h3 => endS_far h6 h1 h2 h3
  have e4 := endS_4 h6
  have hmm : ∀ r, r < 4 → endS S (128 + 4 * r + 3) = S (128 + 4 * r + 3) := fun r hr => hf _ (by omega) (by omega) (by omega)
  have hmono : ∀ d, K + d < S 5 → S (8 + 5 * K) ≤ S (8 + 5 * (K + d)) := by
    intro d
    induction d with
    | zero => intro _; exact Nat.le_refl _
    | succ d ihd =>
      intro hd
      exact Nat.le_trans (ihd (by omega)) (iC.2 (K + d) (by omega))
  have hdo := faF_ok (N := S 4) (S 6) 0 0 (relC S 4) (Nat.le_refl _) (fun e he => by omega) (fun e _ he => (show dOk (S 4) S e from iD.2 e (by omega)).to (relC_far (by omega)) (relC_far (by omega)) (relC_far (by omega)))
  have e6 : endS S 6 = faF (S 6) 0 0 (relC S 4) 6 := by unfold endS; rw [upN_ne (by omega)]
  have eD : ∀ j, 224 ≤ j → endS S j = faF (S 6) 0 0 (relC S 4) j := by intro j hj; unfold endS; rw [upN_ne (by omega)]
  refine ⟨iA.to fun j hj => hf j (by omega) (by omega) (by omega), ⟨by omega, by rw [hf 5 (by omega) (by omega) (by omega)]; exact iB.2.1, by rw [hf 5 (by omega) (by omega) (by omega)]; exact iB.2.2⟩, ⟨fun c hc => ?_, fun c hc => ?_⟩, fun r hr => ?_, ?_, iH.to (fun j _ _ => hf j (by omega) (by omega) (by omega)), ⟨?_, fun d hd => ?_⟩, ?_, ?_⟩
  · rw [hf 5 (by omega) (by omega) (by omega)] at hc
    have hc24 := iB.2.2
    have hh := iC.1 c hc
    have hv : okV (endS S) (S (8 + 5 * c + 1)) (S (8 + 5 * c + 2)) (S (8 + 5 * c + 3)) := by
      refine ⟨hh.2.1.1, hh.2.1.2.1, fun h0 => ?_, hh.2.1.2.2.2⟩
      rw [hmm _ (by have := hh.2.1.2.1; omega)]
      exact hh.2.1.2.2.1 h0
    rw [hf (8 + 5 * c) (by omega) (by omega) (by omega), hf (8 + 5 * c + 1) (by omega) (by omega) (by omega), hf (8 + 5 * c + 2) (by omega) (by omega) (by omega), hf (8 + 5 * c + 3) (by omega) (by omega) (by omega), hf (8 + 5 * c + 4) (by omega) (by omega) (by omega), e4]
    obtain ⟨g1, g2, g3, g4, g5, g6⟩ := hh
    refine ⟨g1, hv, g3, g4, fun q => by have := g5 q; omega, fun q => ?_⟩
    have h1 := hmono (c - K) (by omega)
    rw [show K + (c - K) = c by omega] at h1
    have h2 := hK (by omega)
    omega
  · rw [hf 5 (by omega) (by omega) (by omega)] at hc
    have hc24 := iB.2.2
    rw [hf (8 + 5 * c) (by omega) (by omega) (by omega), hf (8 + 5 * (c + 1)) (by omega) (by omega) (by omega)]
    exact iC.2 c hc
  · obtain ⟨a1, a2, a3⟩ := endS_r (S := S) h6 hr
    obtain ⟨b1, b2, b3, b4, b5⟩ := rO_le iR hr
    have hx := iR r hr
    have ht := tg_le hI hr (p := rO S r) (by omega)
    rw [a1, a2, a3, hmm r hr, e4]
    have hC : rC S r + rL S r ≤ 360 := by
      unfold rC
      split
      · rename_i hp
        have := b3.mp hp
        have := nearS_le (a := rO S r) (s := S 0) (m := 360) (by omega) ht
        omega
      · exact b1
    exact ⟨hx.1, by omega, b3, b2, hC, b5⟩
  · refine iS.to (fun j _ _ => hf j (by omega) (by omega) (by omega)) hmm (fun r hr => (iR r hr).1) (Nat.le_refl K)
  · rw [e6]
    have := hdo.1
    have := iD.1
    omega
  · rw [e6] at hd
    have := hdo.2 d hd
    rw [eD _ (by omega), eD _ (by omega), eD _ (by omega), e4]
    exact this
  · exact iP.to (fun j _ => hf _ (by omega) (by omega) (by omega)) (fun j _ _ => hf j (by omega) (by omega) (by omega)) (hf 7 (by omega) (by omega) (by omega)) hmm
  · have hRB : Bn (relC S 4) := by
      intro j
      by_cases hj : j < 128 ∨ 128 + 4 * 4 ≤ j ∨ j % 4 = 3
      · rw [relC_far hj]; exact iN j
      · obtain ⟨r', hr', hj'⟩ : ∃ r', r' < 4 ∧ (j = 128 + 4 * r' ∨ j = 128 + 4 * r' + 1 ∨ j = 128 + 4 * r' + 2) := ⟨(j - 128) / 4, by omega, by omega⟩
        obtain ⟨c1, c2, c3, c4, c5⟩ := rO_le iR hr'
        obtain ⟨d1, d2, d3⟩ := relC_at (S := S) hr'
        have hx := iR r' hr'
        have hC : rC S r' ≤ 360 := by
          unfold rC
          split
          · exact nearS_le (by omega) (tg_le hI hr' (by omega))
          · omega
        rcases hj' with e | e | e <;> rw [e]
        · rw [d1]; omega
        · rw [d2]; omega
        · rw [d3]; omega
    unfold endS
    simp only
    exact (faF_Bn _ _ _ _ hRB (by omega)).up (by omega)
theorem Iv.pass (h : Iv S K) (h4 : S 4 < 1200) : Iv (passS S K) (passK S K) ∧ passS S K 4 = S 4 + 1 ∧ passS S K 5 = S 5 := by
  have hKn := h.2.1.2.1
  obtain ⟨c1, c2, c3, c4⟩ := Iv.come (S 5 - K) K S 0 (by omega) h
  unfold passS passK
  generalize cK (S 5 - K) K S 0 = R at c1 c2 c3 c4
  have hm := c1.mids
  have m4 : midS R.1 4 = R.1 4 := by unfold midS; rw [upN_ne (by omega), fadC_far (by omega)]
  have m5 : midS R.1 5 = R.1 5 := by unfold midS; rw [upN_ne (by omega), fadC_far (by omega)]
  have h6 : midS R.1 6 ≤ 24 := by have := hm.2.2.2.2.2.2.1.1; have := hm.2.1.2; omega
  refine ⟨hm.ends (by omega) (fun hlt => ?_), ?_, ?_⟩
  · have hl24 := hm.2.1.2.2
    have e8 : midS R.1 (8 + 5 * R.2.1) = R.1 (8 + 5 * R.2.1) := by unfold midS; rw [upN_ne (by omega), fadC_far (by omega)]
    rw [e8, m4, c3]
    exact c4 (by omega)
  · rw [endS_4 h6, m4, c3]
  · rw [endS_far h6 (by omega) (by omega) (by omega), m5, c2]
end PG
