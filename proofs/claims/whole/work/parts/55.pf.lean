/-! ===== a whole second of the reference, its end ===== -/
section PF
variable {fl : Nat} {len : Nat → Nat} {X : Xm} {I : Im} {q : Nat} {S : Nat → Nat} {K : Nat}
/-- reels -/
theorem relC_far {k j : Nat} (h : j < 128 ∨ 128 + 4 * k ≤ j ∨ j % 4 = 3) : relC S k j = S j := by
  unfold relC
  by_cases h1 : 128 ≤ j ∧ j < 128 + 4 * k
  · rw [if_pos h1, if_neg (by omega), if_neg (by omega), if_neg (by omega)]
  · rw [if_neg h1]
theorem relC_at {k r : Nat} (h : r < k) : relC S k (128 + 4 * r) = rC S r ∧ relC S k (128 + 4 * r + 1) = rP S r ∧ relC S k (128 + 4 * r + 2) = rL S r := by
  unfold relC
  refine ⟨?_, ?_, ?_⟩
  · rw [if_pos (by omega), if_pos (by omega), show (128 + 4 * r - 128) / 4 = r by omega]
  · rw [if_pos (by omega), if_neg (by omega), if_pos (by omega), show (128 + 4 * r + 1 - 128) / 4 = r by omega]
  · rw [if_pos (by omega), if_neg (by omega), if_neg (by omega), if_pos (by omega), show (128 + 4 * r + 2 - 128) / 4 = r by omega]
theorem goS_at (r : Nat) : goS S r (128 + 4 * r) = rO S r ∧ goS S r (128 + 4 * r + 1) = rP S r ∧ goS S r (128 + 4 * r + 2) = rL S r ∧ ∀ j, j ≠ 128 + 4 * r → j ≠ 128 + 4 * r + 1 → j ≠ 128 + 4 * r + 2 → goS S r j = S j := by
  unfold goS rO rP rL
  by_cases h : S (128 + 4 * r + 1) = 0
  · simp only [if_pos h]
    refine ⟨trivial, h, trivial, fun _ _ _ _ => trivial⟩
  · simp only [if_neg h]
    refine ⟨?_, ?_, ?_, fun j h1 h2 h3 => ?_⟩
    · rw [upN_ne (by omega), upN_ne (by omega), upN_eq]
    · rw [upN_eq]
    · rw [upN_ne (by omega), upN_eq]
    · rw [upN_ne h2, upN_ne h3, upN_ne h1]
theorem nxF_congr {S' : Nat → Nat} {r : Nat} : ∀ {j c : Nat}, (∀ i, c ≤ i → i < c + j → S' (8 + 5 * i + 4) = S (8 + 5 * i + 4) ∧ S' (8 + 5 * i + 1) = S (8 + 5 * i + 1) ∧ S' (8 + 5 * i + 2) = S (8 + 5 * i + 2)) → nxF S' r j c = nxF S r j c
  | 0, _, _ => rfl
  | j + 1, c, h => by
    unfold nxF
    obtain ⟨h1, h2, h3⟩ := h c (Nat.le_refl _) (by omega)
    rw [h1, h2, h3, nxF_congr (fun i hi1 hi2 => h i (by omega) (by omega))]
theorem tg_le (h : Iv S K) {r p : Nat} (hr : r < 4) (hp : p ≤ 360) : tgS S r p ≤ 360 := by
  obtain ⟨iA, iB, iC, iR, iS, iH, iD, iP, iN⟩ := h
  unfold tgS
  split
  · exact hp
  · rename_i c hc
    obtain ⟨-, h2, -, h4, h5⟩ := nxF_some hc
    have hcue := (iC.1 c (by omega)).2.1
    have := hcue.2.2.1 h4
    rw [h5] at this
    have := begS_le60 iS hr (S (8 + 5 * c + 3)) (by omega)
    have := (iR r hr).1
    omega
theorem rO_le (h : IvR S) {r : Nat} (hr : r < 4) : rO S r + rL S r ≤ 360 ∧ rL S r ≤ 60 ∧ (rP S r = 0 ↔ rL S r = 0) ∧ rP S r ≤ S (128 + 4 * r + 1) ∧ (rP S r ≠ 0 → S 4 + 1 + rL S r ≤ 1060) := by
  have := h r hr
  unfold rO rL rP
  by_cases hp : S (128 + 4 * r + 1) = 0
  · obtain ⟨h1, h2, h3, h4, h5, h6⟩ := this
    have hz := h3.mp hp
    simp only [if_pos hp]
    refine ⟨by omega, by omega, ⟨fun _ => hz, fun _ => trivial⟩, by omega, fun h => absurd rfl h⟩
  · simp only [if_neg hp]
    split <;> omega
theorem p_passes_140 (hfl : 10000 ≤ fl) (h144 : gR X 144 q = some (q + 1)) (hl : len (q + 1) = 1620) (h : Iv S K) (m : Nat) {V : Option (Int32 × Im)} (hend : (nn (m9_fall fl len X (mS I (q + 1) (relC S 4)) q) fun zI2 => ck (inb (nI 4) (len (q + 1)) = true) <| lt (pA zI2 (q + 1) (nI 4).toNatClampNeg ((gA zI2 (q + 1) (nI 4).toNatClampNeg) + nI 1)) fun zI5 => some (nI m, zI5)) = V) : ∀ (j r n : Nat), r + j = 4 → j < n → m9_passes_140 fl len X n (mS I (q + 1) (relC S r)) q (nI m) (nI r) (q + 1) = V := by
  obtain ⟨iA, iB, iC, iR, iS, iH, iD, iP, iN⟩ := id h
  intro j
  induction j with
  | zero =>
    intro r n hj hn
    obtain ⟨n, rfl⟩ : ∃ n', n = n' + 1 := ⟨n - 1, by omega⟩
    show m9_passes_140b fl len X (m9_passes_140 fl len X n) _ q _ _ _ = _
    unfold m9_passes_140b
    have hr4 : r = 4 := by omega
    rw [hr4, L4, if_pos (Int32.le_refl _)]
    exact hend
  | succ j ih =>
    intro r n hj hn
    obtain ⟨n, rfl⟩ : ∃ n', n = n' + 1 := ⟨n - 1, by omega⟩
    have hr : r < 4 := by omega
    have ih := ih (r + 1) n (by omega) (by omega)
    obtain ⟨b1, b2, b3, b4, b5⟩ := rO_le iR hr
    obtain ⟨T, eT⟩ : ∃ T, T = relC S r := ⟨_, rfl⟩
    have hT : ∀ j, (j < 128 ∨ 128 + 4 * r ≤ j ∨ j % 4 = 3) → T j = S j := fun j hj => by rw [eT]; exact relC_far hj
    have hTB : Bn T := by
      intro j
      rw [eT]
      by_cases hj : j < 128 ∨ 128 + 4 * r ≤ j ∨ j % 4 = 3
      · rw [relC_far hj]; exact iN j
      · obtain ⟨r', hr', hj'⟩ : ∃ r', r' < r ∧ (j = 128 + 4 * r' ∨ j = 128 + 4 * r' + 1 ∨ j = 128 + 4 * r' + 2) := ⟨(j - 128) / 4, by omega, by omega⟩
        obtain ⟨c1, c2, c3, c4, c5⟩ := rO_le iR (r := r') (by omega)
        obtain ⟨d1, d2, d3⟩ := relC_at (S := S) hr'
        have hx := iR r' (by omega)
        have hC : rC S r' ≤ 360 := by
          unfold rC
          split
          · exact nearS_le (by omega) (tg_le h (by omega) (by omega))
          · omega
        rcases hj' with e | e | e <;> rw [e]
        · rw [d1]; omega
        · rw [d2]; omega
        · rw [d3]; omega
    have eO : rO T r = rO S r := by unfold rO; rw [hT _ (by omega), hT _ (by omega)]
    have eP : rP T r = rP S r := by unfold rP; rw [hT _ (by omega), hT _ (by omega)]
    have eL : rL T r = rL S r := by unfold rL; rw [hT _ (by omega), hT _ (by omega)]
    obtain ⟨g1, g2, g3, g4⟩ := goS_at (S := T) r
    have hx := iR r hr
    have hGB : Bn (goS T r) := by
      intro j
      by_cases j1 : j = 128 + 4 * r
      · rw [j1, g1, eO]; omega
      · by_cases j2 : j = 128 + 4 * r + 1
        · rw [j2, g2, eP]; omega
        · by_cases j3 : j = 128 + 4 * r + 2
          · rw [j3, g3, eL]; omega
          · rw [g4 j j1 j2 j3]; exact hTB j
    have hGn : nxF (goS T r) r (goS T r 5) 0 = nxF S r (S 5) 0 := by
      rw [g4 5 (by omega) (by omega) (by omega), hT 5 (by omega)]
      have := iB.2.2
      refine nxF_congr fun i _ hi => ?_
      rw [g4 _ (by omega) (by omega) (by omega), g4 _ (by omega) (by omega) (by omega), g4 _ (by omega) (by omega) (by omega), hT _ (by omega), hT _ (by omega), hT _ (by omega)]
      exact ⟨rfl, rfl, rfl⟩
    have hfin : ∀ t, t ≤ 360 → t = tgS S r (rO S r) → windS (goS T r) r t = relC S (r + 1) := by
      intro t _ et
      funext j
      unfold windS
      rw [g2, eP]
      by_cases j1 : j = 128 + 4 * r
      · rw [j1, (relC_at (S := S) (k := r + 1) (r := r) (by omega)).1]
        unfold rC
        by_cases hp : rP S r = 0
        · rw [if_pos hp, if_pos hp, upN_eq, g1, eO, et, g4 0 (by omega) (by omega) (by omega), hT 0 (by omega)]
        · rw [if_neg hp, if_neg hp, g1, eO]
      · have e1 : (if rP S r = 0 then upN (goS T r) (128 + 4 * r) (nearS (goS T r (128 + 4 * r)) t (goS T r 0)) else goS T r) j = goS T r j := by
          split
          · exact upN_ne j1
          · rfl
        rw [e1]
        by_cases j2 : j = 128 + 4 * r + 1
        · rw [j2, g2, eP, (relC_at (S := S) (k := r + 1) (r := r) (by omega)).2.1]
        · by_cases j3 : j = 128 + 4 * r + 2
          · rw [j3, g3, eL, (relC_at (S := S) (k := r + 1) (r := r) (by omega)).2.2]
          · rw [g4 j j1 j2 j3, eT]
            unfold relC
            by_cases hj : 128 ≤ j ∧ j < 128 + 4 * r
            · rw [if_pos hj, if_pos (show 128 ≤ j ∧ j < 128 + 4 * (r + 1) by omega)]
            · rw [if_neg hj]
              by_cases hj2 : 128 ≤ j ∧ j < 128 + 4 * (r + 1)
              · rw [if_pos hj2, if_neg (by omega), if_neg (by omega), if_neg (by omega)]
              · rw [if_neg hj2]
    have hend2 : ∀ t, t ≤ 360 → t = tgS S r (rO S r) → m9_passes_182 fl len X (m9_passes_140 fl len X n) (mS I (q + 1) (goS T r)) q (nI m) (nI r) q (nI r) (nI t) (q + 1) = V := by
      intro t ht et
      unfold m9_passes_182
      rw [p_winds h144 hl hr hGB (by omega), nn_s, hfin t ht et, lt_e, L1, nI_add]
      exact ih
    rw [← eT]
    show m9_passes_140b fl len X (m9_passes_140 fl len X n) _ q _ _ _ = _
    unfold m9_passes_140b
    rw [L4, if_neg (by rw [nI_leI (by omega) (by omega)]; omega), p_goesOn h144 hl hr hTB (by rw [hT _ (by omega), hT _ (by omega)]; omega), nn_s, p_next hfl h144 hl hr hGB (by rw [g4 5 (by omega) (by omega) (by omega), hT 5 (by omega)]; exact iB.2.2), nn_s, hGn]
    have htg := tg_le h hr (p := rO S r) (by omega)
    cases hx9 : nxF S r (S 5) 0 with
    | none =>
      rw [show (oI none) = (-6 : Int32) from rfl, if_neg (by decide), L0, p_reel h144 hl hr (by omega), nn_s, show 128 + 4 * r + 0 = 128 + 4 * r from rfl, g1, eO]
      refine hend2 _ (by omega) ?_
      unfold tgS
      rw [hx9]
    | some c =>
      obtain ⟨-, h2, -, h4, h5⟩ := nxF_some hx9
      have h5l := iB.2.2
      have hcue := (iC.1 c (by omega)).2.1
      have hv := hcue.2.2.1 h4
      rw [h5] at hv
      have et : tgS S r (rO S r) = begS S r (S (8 + 5 * c + 3)) := by unfold tgS; rw [hx9]
      rw [show (oI (some c)) = nI c from rfl, if_pos (by rw [L0, nI_leI (by omega) (by omega)]; omega), L3, p_of h144 hl (by omega) (by omega), nn_s, g4 _ (by omega) (by omega) (by omega), hT _ (by omega), p_beginning hfl h144 hl hr (by omega), nn_s]
      have eb : begS (goS T r) r (S (8 + 5 * c + 3)) = begS S r (S (8 + 5 * c + 3)) := begS_congr fun i hi => by
        rw [g4 _ (by omega) (by omega) (by omega), hT _ (by omega)]
      rw [eb]
      exact hend2 _ (by omega) et.symm
/-- doors -/
theorem faF_far : ∀ (j d l : Nat) (S : Nat → Nat), l ≤ d → d + j ≤ 24 → ∀ i, i ≠ 6 → (i < 224 ∨ 296 ≤ i) → faF j d l S i = S i
  | 0, d, l, S, _, _, i, h6, _ => upN_ne h6
  | j + 1, d, l, S, hl, hd, i, h6, hi => by
    unfold faF
    rw [faF_far j (d + 1) _ _ (by split <;> omega) (by omega) i h6 hi, upN_ne (by omega), upN_ne (by omega), upN_ne (by omega)]
theorem p_fall (hfl : 10000 ≤ fl) (h144 : gR X 144 q = some (q + 1)) (hl : len (q + 1) = 1620) (h6 : S 6 ≤ 24) (hd : ∀ d, d < S 6 → 1 ≤ S (224 + 3 * d + 2) ∧ S (224 + 3 * d + 2) ≤ 9) : m9_fall fl len X (mS I (q + 1) S) q = some (mS I (q + 1) (faF (S 6) 0 0 S)) := by
  have key : ∀ (j d l n : Nat) (T : Nat → Nat), d + j = T 6 → T 6 ≤ 24 → l ≤ d → j < n → (∀ e, d ≤ e → e < T 6 → 1 ≤ T (224 + 3 * e + 2) ∧ T (224 + 3 * e + 2) ≤ 9) → m9_fall_4 fl len X n (mS I (q + 1) T) q (nI l) (nI d) = some (mS I (q + 1) (faF j d l T)) := by
    intro j
    induction j with
    | zero =>
      intro d l n T hj h6 hld hn hT
      obtain ⟨n, rfl⟩ : ∃ n', n = n' + 1 := ⟨n - 1, by omega⟩
      show m9_fall_4b fl len X (m9_fall_4 fl len X n) _ q _ _ = _
      unfold m9_fall_4b
      rw [h144, nn_s, L6, hl, ck_inb _ (by omega) (by omega), nI_clamp (by omega), gA_mS, if_pos (by rw [nI_leI (by omega) (by omega)]; omega), lt_e, pA_mS]
      rfl
    | succ j ih =>
      intro d l n T hj h6 hld hn hT
      obtain ⟨n, rfl⟩ : ∃ n', n = n' + 1 := ⟨n - 1, by omega⟩
      have ht := hT d (Nat.le_refl _) (by omega)
      obtain ⟨T1, eT1⟩ : ∃ T1, T1 = upN (upN (upN T (224 + 3 * l) (T (224 + 3 * d))) (224 + 3 * l + 1) (T (224 + 3 * d + 1))) (224 + 3 * l + 2) (T (224 + 3 * d + 2) - 1) := ⟨_, rfl⟩
      have hT1 : ∀ i, (i < 224 + 3 * l ∨ 224 + 3 * l + 2 < i) → T1 i = T i := by
        intro i hi; rw [eT1, upN_ne (by omega), upN_ne (by omega), upN_ne (by omega)]
      have ih := ih (d + 1) (l + if T (224 + 3 * d + 2) - 1 = 0 then 0 else 1) n T1 (by rw [hT1 6 (by omega)]; omega) (by rw [hT1 6 (by omega)]; exact h6) (by split <;> omega) (by omega) (fun e he1 he2 => by rw [hT1 6 (by omega)] at he2; rw [hT1 _ (by omega)]; exact hT e (by omega) he2)
      show m9_fall_4b fl len X (m9_fall_4 fl len X n) _ q _ _ = _
      unfold m9_fall_4b m9_fall_120
      rw [h144, nn_s, L6, hl, ck_inb _ (by omega) (by omega), nI_clamp (by omega), gA_mS, if_neg (by rw [nI_leI (by omega) (by omega)]; omega)]
      rw [L224, L3, L1, L2, L0, nI_mul, nI_mul, nI_add, nI_add, ck_inb _ (by omega) (by omega), ck_inb _ (by omega) (by omega), nI_clamp (by omega), nI_clamp (by omega), lt_e, gA_mS, pA_mS]
      rw [nI_add, nI_add, ck_inb _ (by omega) (by omega), ck_inb _ (by omega) (by omega), nI_clamp (by omega), nI_clamp (by omega), lt_e, gA_mS, upN_ne (by omega), pA_mS]
      rw [nI_add, nI_add, ck_inb _ (by omega) (by omega), ck_inb _ (by omega) (by omega), nI_clamp (by omega), nI_clamp (by omega), lt_e, gA_mS, upN_ne (by omega), upN_ne (by omega), nI_sub (by omega), pA_mS, gA_mS, upN_eq, ← eT1]
      have ef : faF (j + 1) d l T = faF j (d + 1) (l + if T (224 + 3 * d + 2) - 1 = 0 then 0 else 1) T1 := by rw [eT1]; rfl
      rw [ef, ← ih]
      by_cases hz : T (224 + 3 * d + 2) - 1 = 0
      · rw [if_pos (by rw [nI_leI (by omega) (by omega)]; omega), if_pos hz, lt_e, lt_e, nI_add, nI_add]
      · rw [if_neg (by rw [nI_leI (by omega) (by omega)]; omega), if_neg hz, lt_e, lt_e, nI_add, nI_add]
  have e := key (S 6) 0 0 fl S (by omega) h6 (Nat.le_refl _) (by omega) (fun e _ he => hd e he)
  exact e
end PF
