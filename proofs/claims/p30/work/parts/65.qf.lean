/-! ===== a second of the class is a second of the reference ===== -/
section QF
variable {fl : Nat} {len : Nat → Nat} {X : Xm} {I I1 : Im} {p : Nat} {S S' : Nat → Nat} {K : Nat} {w : Nat → Nat}
theorem faF_congr : ∀ (j d l : Nat) (S S' : Nat → Nat), l ≤ d → d + j ≤ 24 → (∀ i, 224 ≤ i → i < 296 → S' i = S i) → ∀ i, (i = 6 ∨ (224 ≤ i ∧ i < 296)) → faF j d l S' i = faF j d l S i
  | 0, d, l, S, S', _, _, h, i, hi => by
    unfold faF
    by_cases h6 : i = 6
    · rw [h6, upN_eq, upN_eq]
    · rw [upN_ne h6, upN_ne h6, h i (by omega) (by omega)]
  | j + 1, d, l, S, S', hl, hd, h, i, hi => by
    unfold faF
    rw [h (224 + 3 * d) (by omega) (by omega), h (224 + 3 * d + 1) (by omega) (by omega), h (224 + 3 * d + 2) (by omega) (by omega)]
    refine faF_congr j (d + 1) _ _ _ (by split <;> omega) (by omega) (fun i h1 h2 => ?_) i hi
    unfold upN
    repeat' split
    all_goals first | rfl | exact h i h1 h2
theorem Cs.eq (h : Cs I p S K w) (he : ∀ j, S' j = S j) : Cs I p S' K w := by
  have : S' = S := funext he
  rw [this]
  exact h
def loudP (S : Nat → Nat) (K : Nat) : Nat := hearS (fadC (cK (S 5 - K) K S 0).1 4)
theorem q_second (hfl : 10000 ≤ fl) (hX : XS X p) (hL : LN len p) (hC : XC X p w) (h : Iv S K) (h4 : S 4 < 1200) (hc : Cs I p S K w) : ∃ I1, Fr p I I1 ∧ Cs I1 p (passS S K) (passK S K) w ∧ m4_runSecond fl len X I p = some (nI (loudP S K), I1) := by
  have hB5 := h.2.1.2.2
  have hBK := h.2.1.2.1
  obtain ⟨Ia, f1, ca, r1⟩ := q_comes (fl := fl) (len := len) hX hL hC (S 5 - K) K fl S 0 I (by omega) (by omega) h hc
  obtain ⟨g1, g2, g3, g4⟩ := Iv.come (S 5 - K) K S 0 (by omega) h
  unfold passS passK loudP
  generalize cK (S 5 - K) K S 0 = R at ca g1 g2 g3 g4
  obtain ⟨U, K', m⟩ := R
  simp only at ca g1 g2 g3 g4 ⊢
  obtain ⟨Ib, f2, cb, r2⟩ := q_fade (fl := fl) (len := len) hfl hX hL g1 4 0 fl Ia (by omega) (by omega) (ca.eq fun j => fadC_far (by omega))
  have hF := g1.fade
  obtain ⟨F, eF⟩ : ∃ F, F = fadC U 4 := ⟨_, rfl⟩
  rw [← eF] at cb r2 hF ⊢
  have F4 : F 4 = S 4 := by rw [eF, fadC_far (by omega), g3]
  obtain ⟨Ic, f3, cc, r3⟩ := q_plays (fl := fl) (len := len) hX hL hF (nI (hearS F)) 4 0 fl Ib (by omega) (by omega) (cb.eq fun j => goA_far (by omega))
  obtain ⟨iA, iB, iC, iR, iS, iH, iD, iP, iN⟩ := id hF
  have h67 := h67_le hF
  have hv := hearS_le hF.okH
  obtain ⟨d1, d2, d5, d6, d7, d8, d9, d10⟩ := cc
  obtain ⟨Id, r4, f4, k1, k2, k3⟩ := q_hear (fl := fl) (len := len) hfl hX hL d6 (by rw [goA_far (by omega)]; exact h67.1) (fun d hd => by
    rw [goA_far (by omega)] at hd ⊢
    exact (iD.2 d hd).2.2.1)
  rw [goA_far (j := 6) (by omega)] at k3
  obtain ⟨T, eT⟩ : ∃ T, T = faF (F 6) 0 0 (goA F 4) := ⟨_, rfl⟩
  rw [← eT] at k3
  have hT : ∀ j, j ≠ 6 → (j < 224 ∨ 296 ≤ j) → T j = goA F 4 j := fun j h1 h2 => by rw [eT]; exact faF_far _ 0 0 _ (Nat.le_refl _) (by omega) j h1 h2
  have hTF : ∀ j, j ≠ 6 → (j < 128 ∨ (144 ≤ j ∧ j < 224) ∨ 296 ≤ j ∨ (128 ≤ j ∧ j < 144 ∧ j % 4 = 3)) → T j = F j := fun j h1 h2 => by rw [hT j h1 (by omega), goA_far (by omega)]
  have hT6 : T 6 ≤ 24 := by
    have := (faF_ok (N := F 4) (F 6) 0 0 (goA F 4) (Nat.le_refl _) (fun e he => by omega) (fun e _ he => (show dOk (F 4) F e from iD.2 e (by omega)).to (goA_far (by omega)) (goA_far (by omega)) (goA_far (by omega)))).1
    rw [eT]; omega
  have gm := goA_mid hF
  have hTB : Bn T := by rw [eT]; exact faF_Bn _ _ _ _ gm.1 (by omega)
  have cT : Cs Id p T K' w := ⟨d1.to (fun j => k2 _ _ (by omega)) (fun j hj => hT j (by omega) (by omega)), d2.to (k1 _ _ (by omega)) (k1 _ _ (by omega)) (k1 _ _ (by omega)) (hT _ (by omega) (by omega)) (hT _ (by omega) (by omega)), d5.to (fun f a h1 h2 => k1 _ _ (by omega)) (hT _ (by omega) (by omega)) (by rw [goA_far (by omega)]; exact iB.2.2) (fun j _ _ => hT j (by omega) (by omega)), k3, d7.to (k1 _ _ (by omega)) (fun j => k2 _ _ (by omega)) (hT _ (by omega) (by omega)) (by rw [goA_far (by omega)]; exact h67.2) (fun j _ _ => hT j (by omega) (by omega)), d8.to (fun j => k2 _ _ (by omega)) (hT _ (by omega) (by omega)) (fun j _ => hT j (by omega) (by omega)), d9.to (fun r hr => gm.2 4 r hr) (fun f a hf => k1 _ _ (by omega)) (fun j _ _ => hT j (by omega) (by omega)), d10.to (fun f a hf => k1 _ _ (by omega)) (fun j _ _ => hT j (by omega) (by omega))⟩
  have iCT : IvC T K' := iC.to (fun j _ _ => hTF j (by omega) (by omega)) (hTF _ (by omega) (by omega)) (hTF _ (by omega) (by omega)) iB.2.2 (fun r hr => hTF _ (by omega) (by omega))
  have iBT : IvB T K' := ⟨by rw [hTF 4 (by omega) (by omega)]; exact iB.1, by rw [hTF 5 (by omega) (by omega)]; exact iB.2.1, by rw [hTF 5 (by omega) (by omega)]; exact iB.2.2⟩
  obtain ⟨Ie, f5, ce, r5⟩ := q_winds (fl := fl) (len := len) hfl hX hL hC iCT iBT hTB (fun r hr => by rw [hTF _ (by omega) (by omega)]; exact (iR r hr).1) ⟨hT6, by rw [hTF _ (by omega) (by omega)]; exact h67.2⟩ 4 0 fl Id (by omega) (by omega) (cT.eq fun j => wdA_far (by omega))
  obtain ⟨d1, d2, d5, d6, d7, d8, d9, d10⟩ := ce
  have hW : ∀ j, (j < 128 ∨ 144 ≤ j ∨ j % 4 ≠ 0) → wdA T 4 j = T j := fun j hj => wdA_far (by omega)
  have W4 : wdA T 4 4 = S 4 := by rw [hW 4 (by omega), hTF 4 (by omega) (by omega), F4]
  -- what both sides come to
  have hfin : ∀ j, endS (midS U) j = upN (upN (wdA T 4) (320 + S 4) (hearS F)) 4 (S 4 + 1) j := by
    intro j
    have eM : midS U = upN F (320 + S 4) (hearS F) := by unfold midS; rw [← eF, g3]
    rw [eM]
    obtain ⟨M, hM⟩ : ∃ M, M = upN F (320 + S 4) (hearS F) := ⟨_, rfl⟩
    rw [← hM]
    have hMf : ∀ j, j < 320 → M j = F j := fun j hj => by rw [hM, upN_ne (by omega)]
    have M6 : M 6 ≤ 24 := by rw [hMf 6 (by omega)]; exact h67.1
    by_cases j4 : j = 4
    · rw [j4, upN_eq, endS_4 M6, hMf 4 (by omega), F4]
    · rw [upN_ne j4]
      by_cases j3 : j = 320 + S 4
      · rw [j3, upN_eq, endS_far M6 (by omega) (by omega) (by omega), hM, upN_eq]
      · rw [upN_ne j3]
        by_cases jr : 128 ≤ j ∧ j < 144 ∧ j % 4 ≠ 3
        · obtain ⟨r, hr, hj'⟩ : ∃ r, r < 4 ∧ (j = 128 + 4 * r ∨ j = 128 + 4 * r + 1 ∨ j = 128 + 4 * r + 2) := ⟨(j - 128) / 4, by omega, by omega⟩
          obtain ⟨a1, a2, a3⟩ := endS_r (S := M) M6 hr
          obtain ⟨b1, b2, b3⟩ := goA_at (S := F) hr
          have e1 : rO M r = rO F r := by unfold rO; rw [hMf _ (by omega), hMf _ (by omega)]
          have e2 : rP M r = rP F r := by unfold rP; rw [hMf _ (by omega), hMf _ (by omega)]
          have e3 : rL M r = rL F r := by unfold rL; rw [hMf _ (by omega), hMf _ (by omega)]
          rcases hj' with e | e | e <;> rw [e]
          · rw [a1, wdA_at hr, hT _ (by omega) (by omega), hT _ (by omega) (by omega), b1, b2, hTF 0 (by omega) (by omega)]
            unfold rC
            have et : tgS M r (rO M r) = tgS T r (rO F r) := by
              have en : nxF M r (M 5) 0 = nxF F r (F 5) 0 := by
                rw [hMf 5 (by omega)]
                exact nxF_congr fun i _ hi => by have := iB.2.2; exact ⟨hMf _ (by omega), hMf _ (by omega), hMf _ (by omega)⟩
              have en2 : nxF T r (T 5) 0 = nxF F r (F 5) 0 := by
                rw [hTF 5 (by omega) (by omega)]
                exact nxF_congr fun i _ hi => by have := iB.2.2; exact ⟨hTF _ (by omega) (by omega), hTF _ (by omega) (by omega), hTF _ (by omega) (by omega)⟩
              unfold tgS
              rw [en, en2, e1]
              cases hx : nxF F r (F 5) 0 with
              | none => rfl
              | some c =>
                obtain ⟨-, h2, -, h4', h5⟩ := nxF_some hx
                have hcu := (iC.1 c (by omega)).2.1.2.2.1 h4'
                rw [h5] at hcu
                have hm6 := (iR r hr).1
                have h5l := iB.2.2
                simp only
                rw [hMf _ (by omega), hTF (8 + 5 * c + 3) (by omega) (by omega), begS_congr (S := F) (S' := M) (fun i hi => hMf _ (by omega)), begS_congr (S := F) (S' := T) (fun i hi => hTF _ (by omega) (by omega))]
            rw [et, e1, e2, hMf 0 (by omega)]
          · rw [a2, hW _ (by omega), hT _ (by omega) (by omega), b2, e2]
          · rw [a3, hW _ (by omega), hT _ (by omega) (by omega), b3, e3]
        · by_cases jd : j = 6 ∨ (224 ≤ j ∧ j < 296)
          · rw [hW j (by omega), eT]
            unfold endS
            rw [upN_ne j4, hMf 6 (by omega)]
            exact faF_congr _ 0 0 _ _ (Nat.le_refl _) (by omega) (fun i h1 h2 => by rw [relC_far (by omega), goA_far (by omega), hMf i (by omega)]) j jd
          · rw [endS_far M6 j4 (by omega) (by omega), hW j (by omega), hTF j (by omega) (by omega), hM, upN_ne j3]
  obtain ⟨V, eV⟩ : ∃ V, V = upN (upN (wdA T 4) (320 + S 4) (hearS F)) 4 (S 4 + 1) := ⟨_, rfl⟩
  rw [← eV] at hfin
  have hVW : ∀ j, j ≠ 4 → j < 320 → V j = wdA T 4 j := fun j h1 h2 => by rw [eV, upN_ne h1, upN_ne (by omega)]
  have V4 : V 4 = S 4 + 1 := by rw [eV, upN_eq]
  have l5 : wdA T 4 5 ≤ 24 := by rw [hW 5 (by omega), hTF 5 (by omega) (by omega)]; exact iB.2.2
  have l6 : wdA T 4 6 ≤ 24 := by rw [hW 6 (by omega)]; exact hT6
  have l7 : wdA T 4 7 ≤ 24 := by rw [hW 7 (by omega), hTF 7 (by omega) (by omega)]; exact h67.2
  refine ⟨pF (pA Ie (p + 35) (S 4) (nI (hearS F))) 72 p (nI (S 4 + 1)), ((((f1.trans f2).trans f3).trans f4).trans f5).pA (by omega) (by omega) |>.pF (by omega) (by omega), Cs.eq (S := V) ⟨d1.to (fun j => by rw [gA_pF, gA_a (by omega)]) (fun j hj => hVW j (by omega) (by omega)), ⟨by rw [gF_s, V4], by rw [gF_f (by omega), gF_pA, hVW 5 (by omega) (by omega)]; exact d2.2.1, by rw [gF_f (by omega), gF_pA]; exact d2.2.2⟩, d5.to (fun f a h1 h2 => by rw [gF_f (by omega), gF_pA]) (hVW _ (by omega) (by omega)) l5 (fun j _ _ => hVW j (by omega) (by omega)), d6.to (by rw [gF_f (by omega), gF_pA]) (fun a j _ _ => by rw [gA_pF, gA_a (by omega)]) (hVW _ (by omega) (by omega)) l6 (fun j _ _ => hVW j (by omega) (by omega)), d7.to (by rw [gF_f (by omega), gF_pA]) (fun j => by rw [gA_pF, gA_a (by omega)]) (hVW _ (by omega) (by omega)) l7 (fun j _ _ => hVW j (by omega) (by omega)), fun j hj => ?_, d9.to (fun r hr => by rw [hW _ (by omega), hTF _ (by omega) (by omega)]; exact (iR r hr).1) (fun f a hf => by rw [gF_f (by omega), gF_pA]) (fun j _ _ => hVW j (by omega) (by omega)), d10.to (fun f a hf => by rw [gF_f (by omega), gF_pA]) (fun j _ _ => hVW j (by omega) (by omega))⟩ hfin, ?_⟩
  · rw [V4] at hj
    rw [gA_pF]
    by_cases ej : j = S 4
    · rw [ej, gA_s, eV, upN_ne (by omega), upN_eq]
    · rw [gA_j ej, eV, upN_ne (by omega), upN_ne (by omega)]
      exact d8 j (by rw [W4]; omega)
  · have hd0 := d2.1
    rw [W4] at hd0
    rw [m4_runSecond, m4_letCuesCome, hX.1.2.1, nn_s, hc.2.1.2.2, lt_e, r1, nn_s]
    rw [show m4_runSecond_6 fl len X fl Ia p (0 : Int32) = m4_runSecond_6 fl len X fl Ia p (nI 0) from rfl, r2, r3, m4_runSecond_48b, hX.1.2.2.1, nn_s, hL.1.2.2.1, if_pos (Int32.le_refl _), hX.1.2.2.2.2.1, nn_s, r4, nn_s, m4_windReels, show m4_windReels_2 fl len X fl Id p (0 : Int32) = m4_windReels_2 fl len X fl Id p (nI 0) from rfl, r5, nn_s, hd0, if_neg (nI_nneg (by omega)), hX.1.2.2.2.2.2.2.1, nn_s, hL.1.2.2.2.2.2.2.2.2, if_neg (by rw [nI_leI (by omega) (by omega)]; omega), ck_inb _ (by omega) (by omega), nI_clamp (by omega), lt_e, m4_runSecond_112, gF_pA, hd0, L1, nI_add, lt_e]
end QF
