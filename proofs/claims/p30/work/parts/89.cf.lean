/-! ===== the law's rows where little changes; a cue that came ===== -/
section CF
variable {fl : Nat} {len : Nat → Nat} {X : Xm} {I : Im} {a : Nat} {S S' : Nat → Nat} {K : Nat} {T T' : Nat → Nat → Nat}
theorem T0.to (h : T0 T S) (ht : ∀ j, j < 8 → T' 0 j = T 0 j) (hs : ∀ j, j < 8 → S' j = S j) : T0 T' S' := fun j hj => by rw [ht j hj, hs j hj]; exact h j hj
theorem T1.to (h : T1 T S) (ht : ∀ i j, i = 1 ∨ i = 2 → T' i j = T i j) (h5 : S' 5 = S 5) (h5l : S 5 ≤ 24) (hs : ∀ j, 8 ≤ j → j < 128 → S' j = S j) : T1 T' S' := fun c hc => by
  rw [h5] at hc
  unfold cv
  rw [ht 1 c (by omega), ht 2 c (by omega), hs _ (by omega) (by omega), hs _ (by omega) (by omega), hs _ (by omega) (by omega), hs _ (by omega) (by omega), hs _ (by omega) (by omega)]
  exact h c hc
theorem T3.to (h : T3 T S) (ht : ∀ j, T' 3 j = T 3 j) (hs : ∀ j, 128 ≤ j → j < 144 → S' j = S j) : T3 T' S' := fun j hj => by rw [ht, hs _ (by omega) (by omega)]; exact h j hj
theorem T4.to (h : T4 T S) (ht : ∀ j, T' 4 j = T 4 j) (hm6 : ∀ r, r < 4 → S (128 + 4 * r + 3) ≤ 6) (hm : ∀ r, r < 4 → S' (128 + 4 * r + 3) = S (128 + 4 * r + 3)) (hs : ∀ j, 144 ≤ j → j < 216 → S' j = S j) : T4 T' S' := fun r hr k hk => by
  rw [hm r hr] at hk
  have := hm6 r hr
  unfold uv
  rw [ht, hs _ (by omega) (by omega), hs _ (by omega) (by omega), hs _ (by omega) (by omega)]
  exact h r hr k hk
theorem T5.to (h : T5 T S) (ht : ∀ j, T' 5 j = T 5 j) (hs : ∀ j, 216 ≤ j → j < 224 → S' j = S j) : T5 T' S' := fun j hj => by rw [ht, hs _ (by omega) (by omega)]; exact h j hj
theorem T6.to (h : T6 T S) (ht : ∀ j, T' 6 j = T 6 j) (s6 : S' 6 = S 6) (h6 : S 6 ≤ 24) (hs : ∀ j, 224 ≤ j → j < 296 → S' j = S j) : T6 T' S' := fun d hd => by
  rw [s6] at hd
  unfold wv
  rw [ht, hs _ (by omega) (by omega), hs _ (by omega) (by omega), hs _ (by omega) (by omega)]
  exact h d hd
theorem T7.to (h : T7 T S) (ht : ∀ j, T' 7 j = T 7 j) (s7 : S' 7 = S 7) (h7 : S 7 ≤ 24) (hs : ∀ j, 296 ≤ j → j < 320 → S' j = S j) : T7 T' S' := fun i hi => by
  rw [s7] at hi
  rw [ht, hs _ (by omega) (by omega)]
  exact h i hi
theorem T8.to (h : T8 T S) (ht : ∀ j, T' 8 j = T 8 j) (s4 : S' 4 = S 4) (hs : ∀ j, 320 ≤ j → S' j = S j) : T8 T' S' := fun k hk hk2 => by
  rw [s4] at hk hk2
  rw [ht, hs _ (by omega)]
  exact h k hk hk2
/-- the cue's own number, behind it -/
theorem T1.came (h : T1 T S) (hv : Iv S K) (hK : K < S 5) {A : Nat} (ht : ∀ i j, i = 1 ∨ i = 2 → T' i j = T i j) (h5 : S' 5 = S 5) (hs : ∀ j, 8 ≤ j → j < 128 → j ≠ 8 + 5 * K + 4 → S' j = S j) (hA : S' (8 + 5 * K + 4) = A) : T1 (up2 T' 2 K (cv S K + 2048 * A)) S' := fun c hc => by
  have h5l := hv.m6.1
  rw [h5] at hc
  have h0 := (hv.2.2.1.1 K hK).2.2.2.1.mpr (Nat.le_refl _)
  refine ⟨?_, ?_⟩
  · rw [up2_i (by omega), ht 1 c (by omega), hs _ (by omega) (by omega) (by omega)]
    exact (h c hc).1
  · by_cases e : c = K
    · subst e
      rw [up2_s]
      unfold cv
      rw [hA, h0, hs _ (by omega) (by omega) (by omega), hs _ (by omega) (by omega) (by omega), hs _ (by omega) (by omega) (by omega)]
      omega
    · rw [up2_j e, ht 2 c (by omega), (h c hc).2]
      unfold cv
      rw [hs _ (by omega) (by omega) (by omega), hs _ (by omega) (by omega) (by omega), hs _ (by omega) (by omega) (by omega), hs _ (by omega) (by omega) (by omega)]
theorem LT.step (h : LT T S) (hv : Iv S K) (hK : K < S 5) : LT (up2 (cmT T S K) 2 K (cv S K + 2048 * comeA S K)) (stepS S K) := by
  obtain ⟨h6, hK24⟩ := K_lt hv hK
  have h67 := h67_le hv
  have h5l := hv.m6.1
  have hm6 := hv.m6.2
  obtain ⟨-, ⟨b1, b2, b3, b4⟩, b5⟩ := cv_ok hv hK
  have hcA := comeA_le S K
  obtain ⟨t0, t1, t3, t4, t5, t6, t7, t8, tB⟩ := h
  have hst : stepS S K (8 + 5 * K + 4) = comeA S K := stepS_st
  have e5 := (step_5 hv hK).1
  have e4 := (step_5 hv hK).2
  have far : ∀ j, (j < 6 ∨ (8 ≤ j ∧ j < 128) ∨ 320 ≤ j ∨ (128 ≤ j ∧ j < 144 ∧ (j % 4 = 0 ∨ j % 4 = 3)) ∨ (144 ≤ j ∧ j < 216 ∧ j % 3 ≠ 2) ∨ (216 ≤ j ∧ j < 224 ∧ j % 2 = 0)) → j ≠ 8 + 5 * K + 4 → stepS S K j = S j := fun j hj hne => stepS_far hv hK h6 hj hne
  have hsnd := (hv.2.2.1.1 K hK).2.1.2.2.1
  obtain ⟨wh, ew⟩ : ∃ wh, wh = S (8 + 5 * K + 2) := ⟨_, rfl⟩
  obtain ⟨v, ev⟩ : ∃ v, v = S (8 + 5 * K + 3) := ⟨_, rfl⟩
  have hs1 := hv.1.2.1
  rw [← ew] at b2 hsnd
  rw [← ev] at b3 hsnd
  have c1 : (∀ i j, i = 1 ∨ i = 2 → cmT T S K i j = T i j) → T1 (up2 (cmT T S K) 2 K (cv S K + 2048 * comeA S K)) (stepS S K) := fun hr => T1.came t1 hv hK hr e5 (fun j h1 h2 h3 => far j (by omega) h3) hst
  have c8 : (∀ j, cmT T S K 8 j = T 8 j) → T8 (up2 (cmT T S K) 2 K (cv S K + 2048 * comeA S K)) (stepS S K) := fun hr => t8.to (fun j => by rw [up2_i (by omega), hr]) e4 (fun j hj => far j (by omega) (by omega))
  have cB : BT (cmT T S K) → BT (up2 (cmT T S K) 2 K (cv S K + 2048 * comeA S K)) := fun hb => hb.up (by omega)
  have : S (8 + 5 * K + 1) = 2 ∨ S (8 + 5 * K + 1) = 1 ∨ S (8 + 5 * K + 1) = 0 := by omega
  rcases this with k1 | k1 | k1
  · have eT : cmT T S K = up2 T 5 (2 * wh + 1) v := by unfold cmT; rw [← ew, ← ev, if_pos k1]
    have eS : ∀ j, j ≠ 8 + 5 * K + 4 → j ≠ 216 + 2 * wh + 1 → stepS S K j = S j := fun j h1 h2 => by
      unfold stepS comeS
      rw [upN_ne h1, if_pos k1, ← ew, upN_ne h2]
    have eS1 : stepS S K (216 + 2 * wh + 1) = v := by
      unfold stepS comeS
      rw [upN_ne (by omega), if_pos k1, ← ew, ← ev, upN_eq]
    have r : ∀ i j, i ≠ 5 → cmT T S K i j = T i j := fun i j hi => by rw [eT, up2_i hi]
    refine ⟨t0.to (fun j _ => by rw [up2_i (by omega), r _ _ (by omega)]) (fun j hj => eS j (by omega) (by omega)), c1 (fun i j hi => r i j (by omega)), t3.to (fun j => by rw [up2_i (by omega), r _ _ (by omega)]) (fun j _ _ => eS j (by omega) (by omega)), t4.to (fun j => by rw [up2_i (by omega), r _ _ (by omega)]) hm6 (fun r hr => eS _ (by omega) (by omega)) (fun j _ _ => eS j (by omega) (by omega)), fun j hj => ?_, t6.to (fun j => by rw [up2_i (by omega), r _ _ (by omega)]) (eS 6 (by omega) (by omega)) h67.1 (fun j _ _ => eS j (by omega) (by omega)), t7.to (fun j => by rw [up2_i (by omega), r _ _ (by omega)]) (eS 7 (by omega) (by omega)) h67.2 (fun j _ _ => eS j (by omega) (by omega)), c8 (fun j => r 8 j (by omega)), cB (by rw [eT]; exact tB.up (by omega))⟩
    rw [up2_i (by omega), eT]
    by_cases e : j = 2 * wh + 1
    · rw [e, up2_s, show 216 + (2 * wh + 1) = 216 + 2 * wh + 1 by omega, eS1]
    · rw [up2_j e, eS _ (by omega) (by omega)]
      exact t5 j hj
  · have eT : cmT T S K = up2 (up2 T 6 (S 6) (wh + 4 * v + 512 * S 1)) 0 6 (S 6 + 1) := by unfold cmT; rw [← ew, ← ev, if_neg (by omega), if_pos k1]
    have eS : ∀ j, j ≠ 8 + 5 * K + 4 → j ≠ 6 → j ≠ 224 + 3 * S 6 → j ≠ 224 + 3 * S 6 + 1 → j ≠ 224 + 3 * S 6 + 2 → stepS S K j = S j := fun j h1 h2 h3 h4 h5 => by
      unfold stepS comeS
      rw [upN_ne h1, if_neg (by omega), if_pos k1, upN_ne h2, upN_ne h5, upN_ne h4, upN_ne h3]
    have eS6 : stepS S K 6 = S 6 + 1 := by
      unfold stepS comeS
      rw [upN_ne (by omega), if_neg (by omega), if_pos k1, upN_eq]
    have eD : stepS S K (224 + 3 * S 6) = wh ∧ stepS S K (224 + 3 * S 6 + 1) = v ∧ stepS S K (224 + 3 * S 6 + 2) = S 1 := by
      unfold stepS comeS
      rw [upN_ne (by omega), upN_ne (by omega), upN_ne (by omega), if_neg (by omega), if_pos k1, ← ew, ← ev]
      refine ⟨?_, ?_, ?_⟩
      · rw [upN_ne (by omega), upN_ne (by omega), upN_ne (by omega), upN_eq]
      · rw [upN_ne (by omega), upN_ne (by omega), upN_eq]
      · rw [upN_ne (by omega), upN_eq]
    have r : ∀ i j, i ≠ 6 → i ≠ 0 → cmT T S K i j = T i j := fun i j hi h0 => by rw [eT, up2_i h0, up2_i hi]
    refine ⟨fun j hj => ?_, c1 (fun i j hi => r i j (by omega) (by omega)), t3.to (fun j => by rw [up2_i (by omega), r _ _ (by omega) (by omega)]) (fun j _ _ => eS j (by omega) (by omega) (by omega) (by omega) (by omega)), t4.to (fun j => by rw [up2_i (by omega), r _ _ (by omega) (by omega)]) hm6 (fun r hr => eS _ (by omega) (by omega) (by omega) (by omega) (by omega)) (fun j _ _ => eS j (by omega) (by omega) (by omega) (by omega) (by omega)), t5.to (fun j => by rw [up2_i (by omega), r _ _ (by omega) (by omega)]) (fun j _ _ => eS j (by omega) (by omega) (by omega) (by omega) (by omega)), fun d hd => ?_, t7.to (fun j => by rw [up2_i (by omega), r _ _ (by omega) (by omega)]) (eS 7 (by omega) (by omega) (by omega) (by omega) (by omega)) h67.2 (fun j _ _ => eS j (by omega) (by omega) (by omega) (by omega) (by omega)), c8 (fun j => r 8 j (by omega) (by omega)), cB (by rw [eT]; exact (tB.up (by omega)).up (by omega))⟩
    · rw [up2_i (by omega), eT]
      by_cases e : j = 6
      · rw [e, up2_s, eS6]
      · rw [up2_j e, up2_i (by omega), eS j (by omega) e (by omega) (by omega) (by omega)]
        exact t0 j hj
    · rw [eS6] at hd
      rw [up2_i (by omega), eT, up2_i (by omega)]
      unfold wv
      by_cases e : d = S 6
      · rw [e, up2_s, eD.1, eD.2.1, eD.2.2]
      · rw [up2_j e, eS _ (by omega) (by omega) (by omega) (by omega) (by omega), eS _ (by omega) (by omega) (by omega) (by omega) (by omega), eS _ (by omega) (by omega) (by omega) (by omega) (by omega)]
        exact t6 d (by omega)
  · by_cases eA : comeA S K = 1
    · have hvc := hsnd k1
      have hmw := hm6 wh (by omega)
      have eT : cmT T S K = up2 (up2 (up2 (up2 (up2 T 3 (4 * wh + 1) (v + 1)) 3 (4 * wh + 2) (S (144 + 3 * (6 * wh + v)))) 7 (S 7) (6 * wh + v)) 0 7 (if S (144 + 3 * (6 * wh + v) + 2) = 0 then S 7 + 1 else S 7)) 4 (6 * wh + v) (uv S (6 * wh + v) + 8192) := by unfold cmT; rw [← ew, ← ev, if_neg (by omega), if_neg (by omega), if_pos eA]
      obtain ⟨-, ⟨w1, w2, w3⟩, w4⟩ := uv_ok hv (r := wh) (k := v) (by omega) hvc
      have h7 : S (144 + 3 * (6 * wh + v) + 2) = 0 → S 7 < 24 := h7_lt hv (by omega) (by omega)
      have eC : comeS S K = startS S wh v := by
        unfold comeS
        unfold comeA at eA
        rw [← ew, ← ev, if_neg (by omega), if_neg (by omega)]
        rw [← ew, ← ev, if_neg (by omega), if_neg (by omega)] at eA
        by_cases p1 : S (128 + 4 * wh + 1) = 0
        · rw [if_pos p1] at eA ⊢
          by_cases p2 : S (128 + 4 * wh) = begS S wh v
          · rw [if_pos p2]
          · rw [if_neg p2] at eA; omega
        · rw [if_neg p1] at eA; omega
      have eS : ∀ j, j ≠ 8 + 5 * K + 4 → j ≠ 128 + 4 * wh + 1 → j ≠ 128 + 4 * wh + 2 → j ≠ 144 + 3 * (6 * wh + v) + 2 → j ≠ 7 → (j < 296 ∨ 320 ≤ j) → stepS S K j = S j := fun j h1 h2 h3 h4 h5 h6 => by
        unfold stepS
        rw [upN_ne h1, eC, startS_far (by omega) (by omega) h7 h2 h3 h4 h5 h6]
      obtain ⟨z1, z2, z3, z4, z5⟩ := startS_1 (S := S) (r := wh) (k := v) (by omega) (by omega) h7
      have y1 : stepS S K (128 + 4 * wh + 1) = v + 1 := by unfold stepS; rw [upN_ne (by omega), eC, z1]
      have y2 : stepS S K (128 + 4 * wh + 2) = S (144 + 3 * (6 * wh + v)) := by unfold stepS; rw [upN_ne (by omega), eC, z2]
      have y3 : stepS S K (144 + 3 * (6 * wh + v) + 2) = S (144 + 3 * (6 * wh + v) + 2) + 1 := by unfold stepS; rw [upN_ne (by omega), eC, z3]
      have y4 : stepS S K 7 = if S (144 + 3 * (6 * wh + v) + 2) = 0 then S 7 + 1 else S 7 := by unfold stepS; rw [upN_ne (by omega), eC, z4]
      have y5 : ∀ i, i < 24 → stepS S K (296 + i) = if S (144 + 3 * (6 * wh + v) + 2) = 0 ∧ i = S 7 then 6 * wh + v else S (296 + i) := fun i hi => by unfold stepS; rw [upN_ne (by omega), eC, z5 i hi]
      have r : ∀ i j, i ≠ 3 → i ≠ 7 → i ≠ 0 → i ≠ 4 → cmT T S K i j = T i j := fun i j q1 q2 q3 q4 => by rw [eT, up2_i q4, up2_i q3, up2_i q2, up2_i q1, up2_i q1]
      refine ⟨fun j hj => ?_, c1 (fun i j hi => r i j (by omega) (by omega) (by omega) (by omega)), fun j hj => ?_, fun r' hr' k hk => ?_, t5.to (fun j => by rw [up2_i (by omega), r _ _ (by omega) (by omega) (by omega) (by omega)]) (fun j _ _ => eS j (by omega) (by omega) (by omega) (by omega) (by omega) (by omega)), t6.to (fun j => by rw [up2_i (by omega), r _ _ (by omega) (by omega) (by omega) (by omega)]) (eS 6 (by omega) (by omega) (by omega) (by omega) (by omega) (by omega)) h67.1 (fun j _ _ => eS j (by omega) (by omega) (by omega) (by omega) (by omega) (by omega)), fun i hi => ?_, c8 (fun j => r 8 j (by omega) (by omega) (by omega) (by omega)), cB ?_⟩
      · rw [up2_i (by omega), eT, up2_i (by omega)]
        by_cases e : j = 7
        · rw [e, up2_s, y4]
        · rw [up2_j e, up2_i (by omega), up2_i (by omega), up2_i (by omega), eS j (by omega) (by omega) (by omega) (by omega) e (by omega)]
          exact t0 j hj
      · rw [up2_i (by omega), eT, up2_i (by omega), up2_i (by omega), up2_i (by omega)]
        by_cases e : j = 4 * wh + 2
        · rw [e, up2_s, show 128 + (4 * wh + 2) = 128 + 4 * wh + 2 by omega, y2]
        · rw [up2_j e]
          by_cases e2 : j = 4 * wh + 1
          · rw [e2, up2_s, show 128 + (4 * wh + 1) = 128 + 4 * wh + 1 by omega, y1]
          · rw [up2_j e2, eS _ (by omega) (by omega) (by omega) (by omega) (by omega) (by omega)]
            exact t3 j hj
      · rw [far _ (by omega) (by omega)] at hk
        have hm' := hm6 r' hr'
        rw [up2_i (by omega), eT]
        unfold uv
        rw [far _ (by omega) (by omega), far (144 + 3 * (6 * r' + k) + 1) (by omega) (by omega)]
        by_cases e : 6 * r' + k = 6 * wh + v
        · rw [e, up2_s, y3]
          omega
        · rw [up2_j e, up2_i (by omega), up2_i (by omega), up2_i (by omega), up2_i (by omega), eS _ (by omega) (by omega) (by omega) (by omega) (by omega) (by omega)]
          exact t4 r' hr' k hk
      · have hi24 : i < 24 := by
          rw [y4] at hi
          by_cases q : S (144 + 3 * (6 * wh + v) + 2) = 0
          · have := h7 q
            rw [if_pos q] at hi
            omega
          · rw [if_neg q] at hi
            omega
        rw [up2_i (by omega), eT, up2_i (by omega), up2_i (by omega), y5 i hi24]
        by_cases e : i = S 7
        · by_cases q : S (144 + 3 * (6 * wh + v) + 2) = 0
          · rw [if_pos ⟨q, e⟩, e, up2_s]
          · rw [y4, if_neg q] at hi
            omega
        · rw [if_neg (fun q => e q.2), up2_j e, up2_i (by omega), up2_i (by omega)]
          refine t7 i ?_
          rw [y4] at hi
          by_cases q : S (144 + 3 * (6 * wh + v) + 2) = 0
          · rw [if_pos q] at hi; omega
          · rw [if_neg q] at hi; omega
      · rw [eT]
        refine ((((tB.up (by omega)).up (by omega)).up (by omega)).up ?_).up (by omega)
        split <;> omega
    · have eT : cmT T S K = T := by unfold cmT; rw [if_neg (by omega), if_neg (by omega), if_neg eA]
      have eC : comeS S K = S := by
        unfold comeS
        unfold comeA at eA
        rw [← ew, ← ev, if_neg (by omega), if_neg (by omega)]
        rw [← ew, ← ev, if_neg (by omega), if_neg (by omega)] at eA
        by_cases p1 : S (128 + 4 * wh + 1) = 0
        · rw [if_pos p1] at eA ⊢
          by_cases p2 : S (128 + 4 * wh) = begS S wh v
          · rw [if_pos p2] at eA; exact absurd rfl eA
          · rw [if_neg p2]
        · rw [if_neg p1]
      have eS : ∀ j, j ≠ 8 + 5 * K + 4 → stepS S K j = S j := fun j h1 => by
        unfold stepS
        rw [upN_ne h1, eC]
      have r : ∀ i j, cmT T S K i j = T i j := fun i j => by rw [eT]
      exact ⟨t0.to (fun j _ => by rw [up2_i (by omega), r]) (fun j hj => eS j (by omega)), c1 (fun i j _ => r i j), t3.to (fun j => by rw [up2_i (by omega), r]) (fun j _ _ => eS j (by omega)), t4.to (fun j => by rw [up2_i (by omega), r]) hm6 (fun r hr => eS _ (by omega)) (fun j _ _ => eS j (by omega)), t5.to (fun j => by rw [up2_i (by omega), r]) (fun j _ _ => eS j (by omega)), t6.to (fun j => by rw [up2_i (by omega), r]) (eS 6 (by omega)) h67.1 (fun j _ _ => eS j (by omega)), t7.to (fun j => by rw [up2_i (by omega), r]) (eS 7 (by omega)) h67.2 (fun j _ _ => eS j (by omega)), c8 (fun j => r 8 j), cB (by rw [eT]; exact tB)⟩
end CF
