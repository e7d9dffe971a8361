/-! ===== a cue that comes keeps what holds ===== -/
section PD
variable {S : Nat → Nat} {K : Nat}
theorem stepS_far {c j : Nat} (h : Iv S K) (hc : c < S 5) (h6 : S 6 < 24) (hj : j < 6 ∨ (8 ≤ j ∧ j < 128) ∨ 320 ≤ j ∨ (128 ≤ j ∧ j < 144 ∧ (j % 4 = 0 ∨ j % 4 = 3)) ∨ (144 ≤ j ∧ j < 216 ∧ j % 3 ≠ 2) ∨ (216 ≤ j ∧ j < 224 ∧ j % 2 = 0)) (hne : j ≠ 8 + 5 * c + 4) : stepS S c j = S j := by
  unfold stepS
  rw [upN_ne hne, comeS_far h hc h6 hj]
theorem stepS_st {c : Nat} : stepS S c (8 + 5 * c + 4) = comeA S c := by
  unfold stepS
  rw [upN_eq]
theorem K_lt (h : Iv S K) (hK : K < S 5) : S 6 < 24 ∧ K < 24 := by
  have h1 := h.2.2.2.2.2.2.1.1
  have h2 := h.2.1.2.2
  omega
/-- the states of the cues behind a cue that came, second K being now -/
theorem IvC.step {S' : Nat → Nat} {a : Nat} (h : IvC S K) (hK : K < S 5) (h5l : S 5 ≤ 24) (hs : S (8 + 5 * K) = S 4) (ha : 1 ≤ a ∧ a ≤ 3) (hc : ∀ j, 8 ≤ j → j < 128 → j ≠ 8 + 5 * K + 4 → S' j = S j) (ha' : S' (8 + 5 * K + 4) = a) (h4 : S' 4 = S 4) (h5 : S' 5 = S 5) (hm : ∀ r, r < 4 → S' (128 + 4 * r + 3) = S (128 + 4 * r + 3)) : IvC S' (K + 1) := by
  refine ⟨fun c hlt => ?_, fun c hlt => ?_⟩
  · rw [h5] at hlt
    have hh := h.1 c hlt
    have hv : okV S' (S (8 + 5 * c + 1)) (S (8 + 5 * c + 2)) (S (8 + 5 * c + 3)) := by
      refine ⟨hh.2.1.1, hh.2.1.2.1, fun h0 => ?_, hh.2.1.2.2.2⟩
      rw [hm _ (by have := hh.2.1.2.1; omega)]
      exact hh.2.1.2.2.1 h0
    rw [hc (8 + 5 * c) (by omega) (by omega) (by omega), hc (8 + 5 * c + 1) (by omega) (by omega) (by omega), hc (8 + 5 * c + 2) (by omega) (by omega) (by omega), hc (8 + 5 * c + 3) (by omega) (by omega) (by omega), h4]
    obtain ⟨g1, g2, g3, g4, g5, g6⟩ := hh
    by_cases e : c = K
    · subst e
      rw [ha']
      refine ⟨g1, hv, ha.2, ⟨fun q => by omega, fun q => by omega⟩, fun _ => by omega, fun q => by omega⟩
    · rw [hc (8 + 5 * c + 4) (by omega) (by omega) (by omega)]
      refine ⟨g1, hv, g3, ?_, fun q => g5 (by omega), fun q => g6 (by omega)⟩
      rw [g4]
      omega
  · rw [h5] at hlt
    rw [hc (8 + 5 * c) (by omega) (by omega) (by omega), hc (8 + 5 * (c + 1)) (by omega) (by omega) (by omega)]
    exact h.2 c hlt
theorem Iv.step (h : Iv S K) (hK : K < S 5) (hs : S (8 + 5 * K) = S 4) : Iv (stepS S K) (K + 1) := by
  obtain ⟨h6, hK24⟩ := K_lt h hK
  obtain ⟨hk, hw, hv⟩ := h.mid hK
  have hw4 : S (8 + 5 * K + 2) < 4 := by omega
  have hA := comeA_le S K
  have hI := h
  obtain ⟨iA, iB, iC, iR, iS, iH, iD, iP, iN⟩ := h
  have h5l := iB.2.2
  have hcue := iC.1 K hK
  have hsec := hcue.1
  have hst0 : S (8 + 5 * K + 4) = 0 := hcue.2.2.2.1.mpr (Nat.le_refl _)
  -- the three kinds
  by_cases k2 : S (8 + 5 * K + 1) = 2
  · have e : stepS S K = upN (upN S (216 + 2 * S (8 + 5 * K + 2) + 1) (S (8 + 5 * K + 3))) (8 + 5 * K + 4) (comeA S K) := by
      unfold stepS comeS; rw [if_pos k2]
    have hv100 := hcue.2.1.2.2.2.2 k2
    have hf : ∀ j, j ≠ 216 + 2 * S (8 + 5 * K + 2) + 1 → j ≠ 8 + 5 * K + 4 → stepS S K j = S j := by
      intro j h1 h2; rw [e, upN_ne h2, upN_ne h1]
    refine ⟨iA.to fun j hj => hf j (by omega) (by omega), ⟨by rw [hf 4 (by omega) (by omega)]; exact iB.1, by rw [hf 5 (by omega) (by omega)]; omega, by rw [hf 5 (by omega) (by omega)]; omega⟩, ?_, iR.to (fun j _ _ => hf j (by omega) (by omega)) (hf 4 (by omega) (by omega)), iS.to (fun j _ _ => hf j (by omega) (by omega)) (fun r hr => hf _ (by omega) (by omega)) (fun r hr => (iR r hr).1) (Nat.le_succ K), ?_, iD.to (fun j _ _ => hf j (by omega) (by omega)) (hf 4 (by omega) (by omega)) (hf 6 (by omega) (by omega)) (by omega) (Nat.le_succ K), iP.to (fun j _ => hf _ (by omega) (by omega)) (fun j _ _ => hf j (by omega) (by omega)) (hf 7 (by omega) (by omega)) (fun r hr => hf _ (by omega) (by omega)), ?_⟩
    · exact iC.step hK h5l hs hA (fun j _ _ hj => hf j (by omega) hj) stepS_st (hf 4 (by omega) (by omega)) (hf 5 (by omega) (by omega)) (fun r hr => hf _ (by omega) (by omega))
    · intro ch hc
      rw [hf (216 + 2 * ch) (by omega) (by omega)]
      refine ⟨(iH ch hc).1, ?_⟩
      by_cases ec : ch = S (8 + 5 * K + 2)
      · rw [e, ec, upN_ne (by omega), upN_eq]; exact hv100
      · rw [hf _ (by omega) (by omega)]; exact (iH ch hc).2
    · rw [e]; exact (iN.up (iN _)).up (by omega)
  · by_cases k1 : S (8 + 5 * K + 1) = 1
    · have e : stepS S K = upN (upN (upN (upN (upN S (224 + 3 * S 6) (S (8 + 5 * K + 2))) (224 + 3 * S 6 + 1) (S (8 + 5 * K + 3))) (224 + 3 * S 6 + 2) (S 1)) 6 (S 6 + 1)) (8 + 5 * K + 4) (comeA S K) := by
        unfold stepS comeS; rw [if_neg k2, if_pos k1]
      have hv99 := hcue.2.1.2.2.2.1 k1
      have hf : ∀ j, j ≠ 224 + 3 * S 6 → j ≠ 224 + 3 * S 6 + 1 → j ≠ 224 + 3 * S 6 + 2 → j ≠ 6 → j ≠ 8 + 5 * K + 4 → stepS S K j = S j := by
        intro j h1 h2 h3 h4 h5; rw [e, upN_ne h5, upN_ne h4, upN_ne h3, upN_ne h2, upN_ne h1]
      have hg : ∀ j, (j < 6 ∨ (6 < j ∧ j < 224) ∨ 296 ≤ j) → j ≠ 8 + 5 * K + 4 → stepS S K j = S j := by
        intro j h1 h2; exact hf j (by omega) (by omega) (by omega) (by omega) h2
      refine ⟨iA.to fun j hj => hg j (by omega) (by omega), ⟨by rw [hg 4 (by omega) (by omega)]; exact iB.1, by rw [hg 5 (by omega) (by omega)]; omega, by rw [hg 5 (by omega) (by omega)]; omega⟩, ?_, iR.to (fun j _ _ => hg j (by omega) (by omega)) (hg 4 (by omega) (by omega)), iS.to (fun j _ _ => hg j (by omega) (by omega)) (fun r hr => hg _ (by omega) (by omega)) (fun r hr => (iR r hr).1) (Nat.le_succ K), iH.to (fun j _ _ => hg j (by omega) (by omega)), ?_, iP.to (fun j _ => hg _ (by omega) (by omega)) (fun j _ _ => hg j (by omega) (by omega)) (hg 7 (by omega) (by omega)) (fun r hr => hg _ (by omega) (by omega)), ?_⟩
      · exact iC.step hK h5l hs hA (fun j _ _ hj => hg j (by omega) hj) stepS_st (hg 4 (by omega) (by omega)) (hg 5 (by omega) (by omega)) (fun r hr => hg _ (by omega) (by omega))
      · have e6 : stepS S K 6 = S 6 + 1 := by rw [e, upN_ne (by omega), upN_eq]
        have iD1 := iD.1
        refine ⟨by rw [e6]; omega, fun d hd => ?_⟩
        rw [e6] at hd
        rw [hg 4 (by omega) (by omega)]
        by_cases ed : d = S 6
        · have a1 : stepS S K (224 + 3 * d) = S (8 + 5 * K + 2) := by rw [e, ed]; simp (disch := omega) only [upN_ne, upN_eq]
          have a2 : stepS S K (224 + 3 * d + 1) = S (8 + 5 * K + 3) := by rw [e, ed]; simp (disch := omega) only [upN_ne, upN_eq]
          have a3 : stepS S K (224 + 3 * d + 2) = S 1 := by rw [e, ed]; simp (disch := omega) only [upN_ne, upN_eq]
          have b1 := iA.2.1
          rw [a1, a2, a3]
          omega
        · rw [hf _ (by omega) (by omega) (by omega) (by omega) (by omega), hf (224 + 3 * d + 1) (by omega) (by omega) (by omega) (by omega) (by omega), hf (224 + 3 * d + 2) (by omega) (by omega) (by omega) (by omega) (by omega)]
          exact iD.2 d (by omega)
      · rw [e]
        exact (((((iN.up (iN _)).up (iN _)).up (iN _)).up (by omega)).up (by omega))
    · have k0 : S (8 + 5 * K + 1) = 0 := by omega
      have hv := hv k0
      have hR := iR _ hw4
      have hok : ∀ (e : comeS S K = S), Iv (stepS S K) (K + 1) := by
        intro ec
        have hf : ∀ j, j ≠ 8 + 5 * K + 4 → stepS S K j = S j := by
          intro j h2; unfold stepS; rw [upN_ne h2, ec]
        refine ⟨iA.to fun j hj => hf j (by omega), ⟨by rw [hf 4 (by omega)]; exact iB.1, by rw [hf 5 (by omega)]; omega, by rw [hf 5 (by omega)]; omega⟩, ?_, iR.to (fun j _ _ => hf j (by omega)) (hf 4 (by omega)), iS.to (fun j _ _ => hf j (by omega)) (fun r hr => hf _ (by omega)) (fun r hr => (iR r hr).1) (Nat.le_succ K), iH.to (fun j _ _ => hf j (by omega)), iD.to (fun j _ _ => hf j (by omega)) (hf 4 (by omega)) (hf 6 (by omega)) (by omega) (Nat.le_succ K), iP.to (fun j _ => hf _ (by omega)) (fun j _ _ => hf j (by omega)) (hf 7 (by omega)) (fun r hr => hf _ (by omega)), ?_⟩
        · exact iC.step hK h5l hs hA (fun j _ _ hj => hf j hj) stepS_st (hf 4 (by omega)) (hf 5 (by omega)) (fun r hr => hf _ (by omega))
        · unfold stepS; rw [ec]; exact iN.up (by omega)
      by_cases hp : S (128 + 4 * S (8 + 5 * K + 2) + 1) = 0
      · by_cases hpl : S (128 + 4 * S (8 + 5 * K + 2)) = begS S (S (8 + 5 * K + 2)) (S (8 + 5 * K + 3))
        · have ec : comeS S K = startS S (S (8 + 5 * K + 2)) (S (8 + 5 * K + 3)) := by
            unfold comeS; rw [if_neg k2, if_neg k1, if_pos hp, if_pos hpl]
          obtain ⟨r, er⟩ : ∃ r, r = S (8 + 5 * K + 2) := ⟨_, rfl⟩
          obtain ⟨k, ek⟩ : ∃ k, k = S (8 + 5 * K + 3) := ⟨_, rfl⟩
          rw [← er, ← ek] at ec hpl
          rw [← er] at hw4 hR hp hv
          rw [← ek] at hv
          have hk6 : k < 6 := by omega
          have hsnd := iS.1 r hw4 k hv
          have htm := iS.2.1 (6 * r + k) (by omega)
          have h7 : S (144 + 3 * (6 * r + k) + 2) = 0 → S 7 < 24 := fun q => h7_lt hI hw4 hk6 q
          have hbeg := begS_le60 iS hw4 (k + 1) (by omega)
          have hbg : begS S r k + S (144 + 3 * (6 * r + k)) ≤ 60 * (k + 1) := hbeg
          have h7le : S 7 ≤ 24 := by rw [iP.1]; exact cntT_le S 24
          obtain ⟨s1, s2, s3, s4, s5⟩ := startS_1 hw4 hk6 h7
          have e : ∀ j, j ≠ 8 + 5 * K + 4 → stepS S K j = startS S r k j := by
            intro j hj; unfold stepS; rw [upN_ne hj, ec]
          have hf : ∀ j, j ≠ 128 + 4 * r + 1 → j ≠ 128 + 4 * r + 2 → j ≠ 144 + 3 * (6 * r + k) + 2 → j ≠ 7 → (j < 296 ∨ 320 ≤ j) → j ≠ 8 + 5 * K + 4 → stepS S K j = S j := by
            intro j h1 h2 h3 h4 h5 h6; rw [e j h6]; exact startS_far hw4 hk6 h7 h1 h2 h3 h4 h5
          have hg : ∀ j, (j < 7 ∨ (8 ≤ j ∧ j < 128) ∨ 216 ≤ j ∧ j < 296 ∨ 320 ≤ j) → j ≠ 8 + 5 * K + 4 → stepS S K j = S j := by
            intro j h1 h2; exact hf j (by omega) (by omega) (by omega) (by omega) (by omega) h2
          have hmm : ∀ r', r' < 4 → stepS S K (128 + 4 * r' + 3) = S (128 + 4 * r' + 3) := fun r' hr' => hf _ (by omega) (by omega) (by omega) (by omega) (by omega) (by omega)
          refine ⟨iA.to fun j hj => hg j (by omega) (by omega), ⟨by rw [hg 4 (by omega) (by omega)]; exact iB.1, by rw [hg 5 (by omega) (by omega)]; omega, by rw [hg 5 (by omega) (by omega)]; omega⟩, ?_, ?_, ?_, iH.to (fun j _ _ => hg j (by omega) (by omega)), iD.to (fun j _ _ => hg j (by omega) (by omega)) (hg 4 (by omega) (by omega)) (hg 6 (by omega) (by omega)) (by omega) (Nat.le_succ K), ?_, ?_⟩
          · exact iC.step hK h5l hs hA (fun j _ _ hj => hg j (by omega) hj) stepS_st (hg 4 (by omega) (by omega)) (hg 5 (by omega) (by omega)) hmm
          · intro r' hr'
            rw [hmm r' hr', hg 4 (by omega) (by omega), hf (128 + 4 * r') (by omega) (by omega) (by omega) (by omega) (by omega) (by omega)]
            by_cases er' : r' = r
            · subst er'
              rw [e (128 + 4 * r' + 1) (by omega), e (128 + 4 * r' + 2) (by omega), s1, s2]
              omega
            · rw [hf (128 + 4 * r' + 1) (by omega) (by omega) (by omega) (by omega) (by omega) (by omega), hf (128 + 4 * r' + 2) (by omega) (by omega) (by omega) (by omega) (by omega) (by omega)]
              exact iR r' hr'
          · refine ⟨fun r' hr' k' hk' => ?_, fun j hj => ?_, fun r' hr' k' hk' h6' => ?_⟩
            · rw [hmm r' hr'] at hk'
              have := (iR r' hr').1
              rw [hf (144 + 3 * (6 * r' + k')) (by omega) (by omega) (by omega) (by omega) (by omega) (by omega), hf (144 + 3 * (6 * r' + k') + 1) (by omega) (by omega) (by omega) (by omega) (by omega) (by omega)]
              exact iS.1 r' hr' k' hk'
            · by_cases ej : j = 6 * r + k
              · rw [ej, e _ (by omega), s3]; omega
              · rw [hf _ (by omega) (by omega) (by omega) (by omega) (by omega) (by omega)]
                have := iS.2.1 j hj
                omega
            · rw [hmm r' hr'] at hk'
              have hd := iS.2.2 r' hr' k' hk' h6'
              by_cases ej : 6 * r' + k' = 6 * r + k
              · have : r' = r ∧ k' = k := by omega
                obtain ⟨rfl, rfl⟩ := this
                omega
              · rw [hf _ (by omega) (by omega) (by omega) (by omega) (by omega) (by omega)]
                exact hd
          · have hct : ∀ j, j < 24 → stepS S K (144 + 3 * j + 2) = upN S (144 + 3 * (6 * r + k) + 2) (S (144 + 3 * (6 * r + k) + 2) + 1) (144 + 3 * j + 2) := by
              intro j hj
              by_cases ej : j = 6 * r + k
              · rw [ej, e _ (by omega), s3, upN_eq]
              · rw [hf _ (by omega) (by omega) (by omega) (by omega) (by omega) (by omega), upN_ne (by omega)]
            have e7 : stepS S K 7 = (if S (144 + 3 * (6 * r + k) + 2) = 0 then S 7 + 1 else S 7) := by rw [e 7 (by omega), s4]
            refine ⟨?_, fun i hi => ?_⟩
            · rw [e7, cntT_congr hct]
              split <;> rename_i h0
              · rw [cntT_up h0 (by omega) (by omega), iP.1]
              · rw [cntT_same h0 (by omega), iP.1]
            · rw [e7] at hi
              have hi24 : i < 24 := by
                split at hi <;> rename_i h0
                · have := h7 h0; omega
                · omega
              rw [e _ (by omega), s5 i hi24]
              by_cases h0 : S (144 + 3 * (6 * r + k) + 2) = 0 ∧ i = S 7
              · rw [if_pos h0]
                exact ⟨r, k, hw4, by rw [hmm r hw4]; exact hv, rfl⟩
              · rw [if_neg h0]
                have hi2 : i < S 7 := by
                  split at hi <;> rename_i h1
                  · by_cases hi7 : i = S 7
                    · exact absurd ⟨h1, hi7⟩ h0
                    · omega
                  · exact hi
                obtain ⟨r', k', g1, g2, g3⟩ := iP.2 i hi2
                exact ⟨r', k', g1, by rw [hmm r' g1]; exact g2, g3⟩
          · unfold stepS
            rw [ec]
            refine Bn.up ?_ (by omega)
            unfold startS
            have n1 := iN (144 + 3 * (6 * r + k))
            split
            · exact (((((iN.up (by omega)).up n1).up (by omega)).up (by omega)).up (by omega))
            · exact (((iN.up (by omega)).up n1).up (by omega))
        · exact hok (by unfold comeS; rw [if_neg k2, if_neg k1, if_pos hp, if_neg hpl])
      · exact hok (by unfold comeS; rw [if_neg k2, if_neg k1, if_neg hp])
end PD
