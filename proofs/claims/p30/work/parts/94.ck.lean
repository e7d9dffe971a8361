/-! ===== the law begins the play anew ===== -/
section CK
variable {fl : Nat} {len : Nat → Nat} {X : Xm} {I : Im} {a : Nat}
theorem g_restart (hfl : 10000 ≤ fl) (hL : LL len a) {S : Nat → Nat} {K : Nat} {T : Nat → Nat → Nat} (h : LT T S) (hv : Iv S K) : ∃ T', LT T' (bgS S) ∧ m9_restart fl len X (mL I a T) a (a + 2) (a + 3) (a + 4) (a + 5) = some (mL I a T') := by
  obtain ⟨l0, l1, l2, l3, l4, l5, l6, l7, l8⟩ := id hL
  have hB := h.2.2.2.2.2.2.2.2
  obtain ⟨Ta, eTa⟩ : ∃ y, y = up2 (up2 (up2 T 0 4 0) 0 6 0) 0 7 0 := ⟨_, rfl⟩
  have ra : ∀ i j, (i ≠ 0 ∨ (j ≠ 4 ∧ j ≠ 6 ∧ j ≠ 7)) → Ta i j = T i j := fun i j q => by
    rw [eTa]
    rcases q with q | ⟨q1, q2, q3⟩
    · rw [up2_i q, up2_i q, up2_i q]
    · rw [up2_j q3, up2_j q2, up2_j q1]
  have ra0 : Ta 0 4 = 0 ∧ Ta 0 6 = 0 ∧ Ta 0 7 = 0 := by
    rw [eTa]
    refine ⟨?_, ?_, ?_⟩
    · rw [up2_j (by omega), up2_j (by omega), up2_s]
    · rw [up2_j (by omega), up2_s]
    · rw [up2_s]
  have hBa : BT Ta := by rw [eTa]; exact ((hB.up (by omega)).up (by omega)).up (by omega)
  -- levels and reels
  have loop2 : ∀ (Tb : Nat → Nat → Nat) (j k n : Nat) (T1 : Nat → Nat → Nat), k + j = 8 → j < n → (∀ i j, i ≠ 3 → i ≠ 5 → T1 i j = Tb i j) → (∀ j, j < k → T1 5 j = 50) → (∀ j, j % 4 = 3 → T1 3 j = Tb 3 j) → (∀ q, q < k → T1 3 (q / 2 * 4 + q % 2) = 0 ∧ T1 3 (q / 2 * 4 + 2) = 0) → BT T1 → ∃ T', (∀ i j, i ≠ 3 → i ≠ 5 → T' i j = Tb i j) ∧ (∀ j, j < 8 → T' 5 j = 50) ∧ (∀ j, j % 4 = 3 → T' 3 j = Tb 3 j) ∧ (∀ q, q < 8 → T' 3 (q / 2 * 4 + q % 2) = 0 ∧ T' 3 (q / 2 * 4 + 2) = 0) ∧ BT T' ∧ m9_restart_53 fl len X n (mL I a T1) (a + 3) (a + 5) (nI k) = some (mL I a T') := by
    intro Tb j
    induction j with
    | zero =>
      intro k n T1 hj hn h1 h2 h3 h4 hb
      obtain ⟨n, rfl⟩ : ∃ n', n = n' + 1 := ⟨n - 1, by omega⟩
      refine ⟨T1, h1, fun j hj' => h2 j (by omega), h3, fun q hq => h4 q (by omega), hb, ?_⟩
      show m9_restart_53b fl len X (m9_restart_53 fl len X n) _ _ _ _ = _
      rw [m9_restart_53b, if_pos (by rw [L8, nI_leI (by omega) (by omega)]; omega)]
    | succ j ih =>
      intro k n T1 hj hn h1 h2 h3 h4 hb
      obtain ⟨n, rfl⟩ : ∃ n', n = n' + 1 := ⟨n - 1, by omega⟩
      obtain ⟨T', g1, g2, g3, g4, g5, g6⟩ := ih (k + 1) n (up2 (up2 (up2 T1 5 k 50) 3 (k / 2 * 4 + k % 2) 0) 3 (k / 2 * 4 + 2) 0) (by omega) (by omega) (fun i j q1 q2 => by rw [up2_i q1, up2_i q1, up2_i q2, h1 i j q1 q2]) (fun j hj' => by
        rw [up2_i (by omega), up2_i (by omega)]
        by_cases e : j = k
        · rw [e, up2_s]
        · rw [up2_j e, h2 j (by omega)]) (fun j hj' => by rw [up2_j (by omega), up2_j (by omega), up2_i (by omega), h3 j hj']) (fun q hq => by
        have zz : ∀ x, (T1 3 x = 0 ∨ x = k / 2 * 4 + k % 2 ∨ x = k / 2 * 4 + 2) → up2 (up2 (up2 T1 5 k 50) 3 (k / 2 * 4 + k % 2) 0) 3 (k / 2 * 4 + 2) 0 3 x = 0 := fun x hx => by
          by_cases e1 : x = k / 2 * 4 + 2
          · rw [e1, up2_s]
          · rw [up2_j e1]
            by_cases e2 : x = k / 2 * 4 + k % 2
            · rw [e2, up2_s]
            · rw [up2_j e2, up2_i (by omega)]
              rcases hx with hx | hx | hx
              · exact hx
              · exact absurd hx e2
              · exact absurd hx e1
        by_cases e : q = k
        · rw [e]
          exact ⟨zz _ (Or.inr (Or.inl rfl)), zz _ (Or.inr (Or.inr rfl))⟩
        · obtain ⟨y1, y2⟩ := h4 q (by omega)
          exact ⟨zz _ (Or.inl y1), zz _ (Or.inl y2)⟩) (((hb.up (by omega)).up (by omega)).up (by omega))
      refine ⟨T', g1, g2, g3, g4, g5, ?_⟩
      rw [← g6]
      show m9_restart_53b fl len X (m9_restart_53 fl len X n) _ _ _ _ = _
      rw [m9_restart_53b, if_neg (by rw [L8, nI_leI (by omega) (by omega)]; omega), l5, ck_inb _ (by omega) (by omega), nI_clamp (by omega), L50, pA_mL (by omega), lt_e, L2, nI_mod (by omega) (by omega), nI_div (by omega) (by omega), L4, nI_mul, nI_add, nI_add, l3, ck_inb _ (by omega) (by omega), nI_clamp (by omega), L0, pA_mL (by omega), lt_e, ck_inb _ (by omega) (by omega), nI_clamp (by omega), pA_mL (by omega), lt_e, L1, nI_add, lt_e]
  -- cues and sounds
  have loop1 : ∀ (j k n : Nat) (T1 : Nat → Nat → Nat), k + j = 24 → j < n → (∀ i j, i ≠ 2 → i ≠ 4 → T1 i j = Ta i j) → (∀ j, j < k → T1 2 j = Ta 2 j % 2048 ∧ T1 4 j = Ta 4 j % 8192) → (∀ j, k ≤ j → T1 2 j = Ta 2 j ∧ T1 4 j = Ta 4 j) → BT T1 → ∃ T', (∀ i j, i ≠ 2 → i ≠ 4 → T' i j = Ta i j) ∧ (∀ j, j < 24 → T' 2 j = Ta 2 j % 2048 ∧ T' 4 j = Ta 4 j % 8192) ∧ BT T' ∧ m9_restart_17 fl len X n (mL I a T1) (a + 2) (a + 3) (a + 4) (a + 5) (nI k) = m9_restart_53 fl len X fl (mL I a T') (a + 3) (a + 5) (nI 0) := by
    intro j
    induction j with
    | zero =>
      intro k n T1 hj hn h1 h2 h3 hb
      obtain ⟨n, rfl⟩ : ∃ n', n = n' + 1 := ⟨n - 1, by omega⟩
      refine ⟨T1, h1, fun j hj' => h2 j (by omega), hb, ?_⟩
      show m9_restart_17b fl len X (m9_restart_17 fl len X n) _ _ _ _ _ _ = _
      rw [m9_restart_17b, if_pos (by rw [L24, nI_leI (by omega) (by omega)]; omega)]
      rfl
    | succ j ih =>
      intro k n T1 hj hn h1 h2 h3 hb
      obtain ⟨n, rfl⟩ : ∃ n', n = n' + 1 := ⟨n - 1, by omega⟩
      obtain ⟨y2, y4⟩ := h3 k (Nat.le_refl _)
      have b2 := hb 2 k
      have b4 := hb 4 k
      obtain ⟨T', g1, g2, g3, g4⟩ := ih (k + 1) n (up2 (up2 T1 2 k (T1 2 k % 2048)) 4 k (T1 4 k % 8192)) (by omega) (by omega) (fun i j q1 q2 => by rw [up2_i q2, up2_i q1, h1 i j q1 q2]) (fun j hj' => by
        by_cases e : j = k
        · rw [e, up2_i (by omega), up2_s, up2_s, y2, y4]
          exact ⟨rfl, rfl⟩
        · rw [up2_j e, up2_j e, up2_j e, up2_j e]
          exact h2 j (by omega)) (fun j hj' => by
        rw [up2_j (by omega), up2_j (by omega), up2_j (by omega), up2_j (by omega)]
        exact h3 j (by omega)) ((hb.up (by omega)).up (by omega))
      refine ⟨T', g1, g2, g3, ?_⟩
      rw [← g4]
      show m9_restart_17b fl len X (m9_restart_17 fl len X n) _ _ _ _ _ _ = _
      rw [m9_restart_17b, if_neg (by rw [L24, nI_leI (by omega) (by omega)]; omega), l2, ck_inb _ (by omega) (by omega), nI_clamp (by omega), gA_mL (by omega), L2048, nI_mod (by omega) (by omega), pA_mL (by omega), lt_e, l4, ck_inb _ (by omega) (by omega), gA_mL (by omega), up2_i (by omega), L8192, nI_mod (by omega) (by omega), pA_mL (by omega), lt_e, L1, nI_add, lt_e]
  obtain ⟨Tb, b1, b2, b3, pb⟩ := loop1 24 0 fl Ta (by omega) (by omega) (fun _ _ _ _ => rfl) (fun j hj => by omega) (fun _ _ => ⟨rfl, rfl⟩) hBa
  obtain ⟨Tc, c1, c2, c3, c4, c5, pc⟩ := loop2 Tb 8 0 fl Tb (by omega) (by omega) (fun _ _ _ _ => rfl) (fun j hj => by omega) (fun _ _ => rfl) (fun q hq => by omega) b3
  have h5l := hv.m6.1
  obtain ⟨y4, y5, y6, y7, y0⟩ := bgS_at (S := S)
  refine ⟨Tc, ⟨fun j hj => ?_, fun c hc => ?_, fun j hj => ?_, fun r hr k hk => ?_, fun j hj => ?_, fun d hd => by rw [y6] at hd; omega, fun i hi => by rw [y7] at hi; omega, fun k hk => by rw [y4] at hk; omega, c5⟩, ?_⟩
  · rw [c1 0 j (by omega) (by omega), b1 0 j (by omega) (by omega)]
    by_cases q4 : j = 4
    · rw [q4, ra0.1, y4]
    · by_cases q6 : j = 6
      · rw [q6, ra0.2.1, y6]
      · by_cases q7 : j = 7
        · rw [q7, ra0.2.2, y7]
        · rw [ra 0 j (Or.inr ⟨q4, q6, q7⟩)]
          by_cases q5 : j = 5
          · rw [q5, y5]; exact h.1 5 (by omega)
          · rw [y0 j (by omega)]; exact h.1 j hj
  · rw [y5] at hc
    obtain ⟨z0, z1, z2, z3, z4⟩ := bgS_cue hc h5l
    obtain ⟨e1, e2⟩ := h.2.1 c hc
    obtain ⟨⟨v1, v2, v3, v4⟩, ⟨w1, w2, w3, w4⟩, w5⟩ := cv_ok hv hc
    rw [c1 1 c (by omega) (by omega), b1 1 c (by omega) (by omega), ra 1 c (by omega), c1 2 c (by omega) (by omega), (b2 c (by omega)).1, ra 2 c (by omega), e1, e2]
    unfold cv
    rw [z0, z1, z2, z3, z4]
    refine ⟨rfl, ?_⟩
    omega
  · by_cases q : j % 4 = 3
    · rw [c3 j q, b1 3 j (by omega) (by omega), ra 3 j (by omega), h.2.2.1 j hj]
      obtain ⟨-, -, -, z3⟩ := bgS_reel (S := S) (r := j / 4) (by omega) h5l
      rw [show 128 + 4 * (j / 4) + 3 = 128 + j by omega] at z3
      exact z3.symm
    · obtain ⟨z0, z1, z2, -⟩ := bgS_reel (S := S) (r := j / 4) (by omega) h5l
      have : j % 4 = 0 ∨ j % 4 = 1 ∨ j % 4 = 2 := by omega
      rcases this with e | e | e
      · have := (c4 (2 * (j / 4)) (by omega)).1
        rw [show 2 * (j / 4) / 2 * 4 + 2 * (j / 4) % 2 = j by omega] at this
        rw [this, show 128 + j = 128 + 4 * (j / 4) by omega, z0]
      · have := (c4 (2 * (j / 4) + 1) (by omega)).1
        rw [show (2 * (j / 4) + 1) / 2 * 4 + (2 * (j / 4) + 1) % 2 = j by omega] at this
        rw [this, show 128 + j = 128 + 4 * (j / 4) + 1 by omega, z1]
      · have := (c4 (2 * (j / 4)) (by omega)).2
        rw [show 2 * (j / 4) / 2 * 4 + 2 = j by omega] at this
        rw [this, show 128 + j = 128 + 4 * (j / 4) + 2 by omega, z2]
  · obtain ⟨-, -, -, z3⟩ := bgS_reel (S := S) hr h5l
    rw [z3] at hk
    have hm6 := hv.m6.2 r hr
    obtain ⟨s0, s1, s2⟩ := bgS_snd (S := S) (k := 6 * r + k) (by omega) h5l
    obtain ⟨⟨v1, v2, v3⟩, ⟨w1, w2, w3⟩, w4⟩ := uv_ok hv hr hk
    rw [c1 4 _ (by omega) (by omega), (b2 (6 * r + k) (by omega)).2, ra 4 _ (by omega), h.2.2.2.1 r hr k hk]
    unfold uv
    rw [s0, s1, s2]
    omega
  · rw [c2 j hj, bgS_ch hj h5l]
  · rw [m9_restart, l0, L4, ck_inb _ (by omega) (by omega), nI_clamp (by omega), L0, pA_mL0, lt_e, L6, ck_inb _ (by omega) (by omega), nI_clamp (by omega), pA_mL0, lt_e, L7, ck_inb _ (by omega) (by omega), nI_clamp (by omega), pA_mL0, lt_e, ← eTa, pb]
    exact pc
end CK
