/-! ===== sound, pass ===== -/
section RH
variable {fl : Nat} {len : Nat → Nat} {X : Xm} {I I1 : Im} {p q b : Nat} {S S' : Nat → Nat} {K : Nat} {w : Nat → Nat}
theorem okV.mono {kd a v : Nat} (h : okV S kd a v) (hm : ∀ r, r < 4 → S (128 + 4 * r + 3) ≤ S' (128 + 4 * r + 3)) : okV S' kd a v :=
  ⟨h.1, h.2.1, fun h0 => Nat.lt_of_lt_of_le (h.2.2.1 h0) (hm a (by have := h.2.1; omega)), h.2.2.2⟩
theorem IvC.mono (h : IvC S K) (hc : ∀ j, 8 ≤ j → j < 128 → S' j = S j) (h4 : S' 4 = S 4) (h5 : S' 5 = S 5) (h5l : S 5 ≤ 24) (hm : ∀ r, r < 4 → S (128 + 4 * r + 3) ≤ S' (128 + 4 * r + 3)) : IvC S' K := by
  refine ⟨fun c hlt => ?_, fun c hlt => ?_⟩
  · rw [h5] at hlt
    have hh := h.1 c hlt
    rw [hc (8 + 5 * c) (by omega) (by omega), hc (8 + 5 * c + 1) (by omega) (by omega), hc (8 + 5 * c + 2) (by omega) (by omega), hc (8 + 5 * c + 3) (by omega) (by omega), hc (8 + 5 * c + 4) (by omega) (by omega), h4]
    exact ⟨hh.1, hh.2.1.mono hm, hh.2.2⟩
  · rw [h5] at hlt
    rw [hc (8 + 5 * c) (by omega) (by omega), hc (8 + 5 * (c + 1)) (by omega) (by omega)]
    exact h.2 c hlt
def sndS (S : Nat → Nat) (r a c : Nat) : Nat → Nat := upN (upN (upN (upN S (144 + 3 * (6 * r + S (128 + 4 * r + 3))) a) (144 + 3 * (6 * r + S (128 + 4 * r + 3)) + 1) c) (144 + 3 * (6 * r + S (128 + 4 * r + 3)) + 2) 0) (128 + 4 * r + 3) (S (128 + 4 * r + 3) + 1)
theorem sndS_far {r a c j : Nat} (hr : r < 4) (hm : S (128 + 4 * r + 3) < 6) (h1 : j ≠ 144 + 3 * (6 * r + S (128 + 4 * r + 3))) (h2 : j ≠ 144 + 3 * (6 * r + S (128 + 4 * r + 3)) + 1) (h3 : j ≠ 144 + 3 * (6 * r + S (128 + 4 * r + 3)) + 2) (h4 : j ≠ 128 + 4 * r + 3) : sndS S r a c j = S j := by
  unfold sndS
  rw [upN_ne h4, upN_ne h3, upN_ne h2, upN_ne h1]
theorem sndS_at {r a c : Nat} (hr : r < 4) (hm : S (128 + 4 * r + 3) < 6) : sndS S r a c (144 + 3 * (6 * r + S (128 + 4 * r + 3))) = a ∧ sndS S r a c (144 + 3 * (6 * r + S (128 + 4 * r + 3)) + 1) = c ∧ sndS S r a c (144 + 3 * (6 * r + S (128 + 4 * r + 3)) + 2) = 0 ∧ sndS S r a c (128 + 4 * r + 3) = S (128 + 4 * r + 3) + 1 := by
  unfold sndS
  refine ⟨?_, ?_, ?_, ?_⟩ <;> simp (disch := omega) only [upN_ne, upN_eq]
theorem Iv.snd (h : Iv S K) {r a c : Nat} (hr : r < 4) (hm : S (128 + 4 * r + 3) < 6) (ha : 1 ≤ a ∧ a ≤ 60) (hcc : 1 ≤ c ∧ c ≤ 99) : Iv (sndS S r a c) K := by
  obtain ⟨iA, iB, iC, iR, iS, iH, iD, iP, iN⟩ := h
  obtain ⟨s1, s2, s3, s4⟩ := sndS_at (a := a) (c := c) hr hm
  have hg : ∀ j, (j < 128 ∨ 216 ≤ j) → sndS S r a c j = S j := fun j hj => sndS_far hr hm (by omega) (by omega) (by omega) (by omega)
  have hme : ∀ r', r' < 4 → r' ≠ r → sndS S r a c (128 + 4 * r' + 3) = S (128 + 4 * r' + 3) := fun r' hr' hne => sndS_far hr hm (by omega) (by omega) (by omega) (by omega)
  have hml : ∀ r', r' < 4 → S (128 + 4 * r' + 3) ≤ sndS S r a c (128 + 4 * r' + 3) := fun r' hr' => by
    by_cases e : r' = r
    · rw [e, s4]; omega
    · rw [hme r' hr' e]; exact Nat.le_refl _
  have ht : ∀ j, j < 24 → sndS S r a c (144 + 3 * j + 2) = S (144 + 3 * j + 2) := fun j hj => by
    by_cases e : j = 6 * r + S (128 + 4 * r + 3)
    · rw [e, s3]; exact (iS.2.2 r hr _ (Nat.le_refl _) hm).symm
    · exact sndS_far hr hm (by omega) (by omega) (by omega) (by omega)
  refine ⟨iA.to fun j hj => hg j (by omega), ⟨by rw [hg 4 (by omega)]; exact iB.1, by rw [hg 5 (by omega)]; exact iB.2.1, by rw [hg 5 (by omega)]; exact iB.2.2⟩, iC.mono (fun j _ _ => hg j (by omega)) (hg 4 (by omega)) (hg 5 (by omega)) iB.2.2 hml, fun r' hr' => ?_, ⟨fun r' hr' k hk => ?_, fun j hj => by rw [ht j hj]; exact iS.2.1 j hj, fun r' hr' k hk h6 => ?_⟩, iH.to (fun j _ _ => hg j (by omega)), iD.to (fun j _ _ => hg j (by omega)) (hg 4 (by omega)) (hg 6 (by omega)) (by have := iD.1; have := iB.2; omega) (Nat.le_refl K), ⟨by rw [hg 7 (by omega), cntT_congr ht]; exact iP.1, fun i hi => ?_⟩, ?_⟩
  · have h1 := iR r' hr'
    rw [sndS_far (j := 128 + 4 * r' + 1) hr hm (by omega) (by omega) (by omega) (by omega), sndS_far (j := 128 + 4 * r' + 2) hr hm (by omega) (by omega) (by omega) (by omega), sndS_far (j := 128 + 4 * r') hr hm (by omega) (by omega) (by omega) (by omega), hg 4 (by omega)]
    by_cases e : r' = r
    · subst e; rw [s4]; omega
    · rw [hme r' hr' e]; exact h1
  · have h1 := (iR r' hr').1
    by_cases e : r' = r ∧ k = S (128 + 4 * r + 3)
    · rw [e.1, e.2, s1, s2]; exact ⟨ha, hcc⟩
    · have hk' : k < S (128 + 4 * r' + 3) := by
        by_cases er : r' = r
        · rw [er, s4] at hk
          rw [er]
          by_cases ek : k = S (128 + 4 * r + 3)
          · exact absurd ⟨er, ek⟩ e
          · omega
        · rw [hme r' hr' er] at hk; exact hk
      have hne : 6 * r' + k ≠ 6 * r + S (128 + 4 * r + 3) := by
        intro q
        have : r' = r ∧ k = S (128 + 4 * r + 3) := by omega
        exact e this
      rw [sndS_far (j := 144 + 3 * (6 * r' + k)) hr hm (by omega) (by omega) (by omega) (by omega), sndS_far (j := 144 + 3 * (6 * r' + k) + 1) hr hm (by omega) (by omega) (by omega) (by omega)]
      exact iS.1 r' hr' k hk'
  · rw [ht (6 * r' + k) (by omega)]
    exact iS.2.2 r' hr' k (Nat.le_trans (hml r' hr') hk) h6
  · rw [hg 7 (by omega)] at hi
    have h7 : S 7 ≤ 24 := by rw [iP.1]; exact cntT_le S 24
    obtain ⟨r', k, g1, g2, g3⟩ := iP.2 i hi
    exact ⟨r', k, g1, Nat.lt_of_lt_of_le g2 (hml r' g1), by rw [hg _ (by omega)]; exact g3⟩
  · unfold sndS
    exact (((iN.up (by omega)).up (by omega)).up (by omega)).up (by omega)
/-! pass -/
def nP : Nat → (Nat → Nat) → Nat → (Nat → Nat) × Nat × Nat
  | 0, S, K => (S, K, 0)
  | j + 1, S, K => ((nP j (passS S K) (passK S K)).1, (nP j (passS S K) (passK S K)).2.1, passM S K + (nP j (passS S K) (passK S K)).2.2)
theorem Iv.passes : ∀ (j : Nat) (S : Nat → Nat) (K : Nat), Iv S K → S 4 + j ≤ 1200 → Iv (nP j S K).1 (nP j S K).2.1
  | 0, _, _, h, _ => h
  | j + 1, S, K, h, h4 => by
    obtain ⟨a, e4, e5⟩ := h.pass (by omega)
    exact Iv.passes j _ _ a (by omega)
/-- missed cues of a state -/
def msd (S : Nat → Nat) : Nat := cntC S 2 (S 5) + cntC S 3 (S 5)
theorem cntC_congr {S S' : Nat → Nat} {v : Nat} : ∀ {n : Nat}, (∀ c, c < n → S' (8 + 5 * c + 4) = S (8 + 5 * c + 4)) → cntC S' v n = cntC S v n
  | 0, _ => rfl
  | n + 1, h => by
    show cntC S' v n + _ = cntC S v n + _
    rw [cntC_congr (fun c hc => h c (by omega)), h n (by omega)]
theorem cntC_step {S : Nat → Nat} {v K a : Nat} (hv : v ≠ 0) (h0 : S (8 + 5 * K + 4) = 0) : ∀ {n}, K < n → (∀ c, c < n → c ≠ K → S' (8 + 5 * c + 4) = S (8 + 5 * c + 4)) → S' (8 + 5 * K + 4) = a → cntC S' v n = cntC S v n + if a = v then 1 else 0
  | 0, h, _, _ => absurd h (Nat.not_lt_zero _)
  | n + 1, h, hs, ha => by
    show cntC S' v n + _ = cntC S v n + _ + _
    by_cases e : K = n
    · subst e
      rw [cntC_congr (fun c hc => hs c (by omega) (by omega)), ha, h0, if_neg (Ne.symm hv)]
      omega
    · rw [cntC_step hv h0 (n := n) (by omega) (fun c hc hne => hs c (by omega) hne) ha, hs n (by omega) (Ne.symm e)]
      omega
theorem msd_step (h : Iv S K) (hK : K < S 5) : msd (stepS S K) = msd S + if comeA S K ≤ 1 then 0 else 1 := by
  obtain ⟨h6, hK24⟩ := K_lt h hK
  obtain ⟨e5, e4⟩ := step_5 h hK
  have h0 := (h.2.2.1.1 K hK).2.2.2.1.mpr (Nat.le_refl _)
  have hA := comeA_le S K
  have h5 := h.m6.1
  have hs : ∀ c, c < S 5 → c ≠ K → stepS S K (8 + 5 * c + 4) = S (8 + 5 * c + 4) := fun c hc hne => stepS_far h hK h6 (by omega) (by omega)
  unfold msd
  rw [e5, cntC_step (S' := stepS S K) (v := 2) (a := comeA S K) (by omega) h0 hK hs stepS_st, cntC_step (S' := stepS S K) (v := 3) (a := comeA S K) (by omega) h0 hK hs stepS_st]
  by_cases h1 : comeA S K ≤ 1
  · rw [if_pos h1, if_neg (by omega), if_neg (by omega)]; omega
  · rw [if_neg h1]
    by_cases h2 : comeA S K = 2
    · rw [if_pos h2, if_neg (by omega)]; omega
    · rw [if_neg h2, if_pos (by omega)]; omega
theorem msd_cK : ∀ (j K : Nat) (S : Nat → Nat) (m : Nat), K + j = S 5 → Iv S K → msd (cK j K S m).1 + m = msd S + (cK j K S m).2.2
  | 0, K, S, m, _, _ => rfl
  | j + 1, K, S, m, hj, h => by
    unfold cK
    split
    · rename_i hs
      have hK : K < S 5 := by omega
      obtain ⟨e5, e4⟩ := step_5 h hK
      have ih := msd_cK j (K + 1) (stepS S K) (m + if comeA S K ≤ 1 then 0 else 1) (by rw [e5]; omega) (h.step hK hs)
      rw [msd_step h hK] at ih
      omega
    · rfl
theorem msd_pass (h : Iv S K) (h4 : S 4 < 1200) : msd (passS S K) = msd S + passM S K := by
  have hKn := h.2.1.2.1
  have e := msd_cK (S 5 - K) K S 0 (by omega) h
  obtain ⟨c1, c2, c3, c4⟩ := Iv.come (S 5 - K) K S 0 (by omega) h
  unfold passS passM
  generalize cK (S 5 - K) K S 0 = R at e c1 c2 c3 c4
  have hm := c1.mids
  have h6 : midS R.1 6 ≤ 24 := (h67_le hm).1
  have hf : ∀ j, j = 5 ∨ (8 ≤ j ∧ j < 128) → endS (midS R.1) j = R.1 j := fun j hj => by
    rw [endS_far h6 (by omega) (by omega) (by omega)]
    unfold midS
    rw [upN_ne (by omega), fadC_far (by omega)]
  have h5 := c1.m6.1
  have : msd (endS (midS R.1)) = msd R.1 := by
    unfold msd
    rw [hf 5 (by omega), cntC_congr (v := 2) (fun c hc => hf _ (by omega)), cntC_congr (v := 3) (fun c hc => hf _ (by omega))]
  rw [this]
  omega
theorem msd_nP : ∀ (j : Nat) (S : Nat → Nat) (K : Nat), Iv S K → S 4 + j ≤ 1200 → msd (nP j S K).1 = msd S + (nP j S K).2.2
  | 0, _, _, _, _ => rfl
  | j + 1, S, K, h, h4 => by
    obtain ⟨a, e4, e5⟩ := h.pass (by omega)
    have ih := msd_nP j _ _ a (by omega)
    rw [msd_pass h (by omega)] at ih
    show msd (nP j (passS S K) (passK S K)).1 = msd S + (passM S K + (nP j (passS S K) (passK S K)).2.2)
    omega
theorem q_missed (hfl : 10000 ≤ fl) (hX : XS X p) (hN : LN len p) (hC : XC X p w) (hv : Iv S K) (hc : Cs I p S K w) : m6_missedCues fl len X I (p + 2) = some (nI (msd S)) := by
  have hB := hv.2.2.2.2.2.2.2.2
  rw [m6_missedCues, L2, q_countOf hfl hX hN hC hc.2.1.2.1 hc.2.2.1 hB hv.m6.1 (by omega), nn_s, L3, q_countOf hfl hX hN hC hc.2.1.2.1 hc.2.2.1 hB hv.m6.1 (by omega), nn_s, nI_add]
  rfl
theorem msd_le (h : Iv S K) : msd S ≤ 48 := by
  have := h.m6.1
  have a := cntC_le S 2 (S 5)
  have b := cntC_le S 3 (S 5)
  unfold msd
  omega
/-- the class passes some seconds -/
theorem q_seconds (hfl : 10000 ≤ fl) (hX : XS X p) (hN : LN len p) (hC : XC X p w) (m : Int32) (s : Nat) (hs : s ≤ 200) : ∀ (j k n : Nat) (S : Nat → Nat) (K : Nat) (I : Im), k + j = s → j < n → Iv S K → Cs I p S K w → S 4 + j ≤ 1200 → ∃ I1, Fr p I I1 ∧ Cs I1 p (nP j S K).1 (nP j S K).2.1 w ∧ m4_runSeconds_39 fl len X n I p (nI s) m (nI k) (p + 2) = some (nI (msd (nP j S K).1) - m, I1) := by
  intro j
  induction j with
  | zero =>
    intro k n S K I hj hn h hc h4
    obtain ⟨n, rfl⟩ : ∃ n', n = n' + 1 := ⟨n - 1, by omega⟩
    refine ⟨I, Fr.rfl, hc, ?_⟩
    show m4_runSeconds_39b fl len X (m4_runSeconds_39 fl len X n) _ _ _ _ _ _ = _
    rw [m4_runSeconds_39b, if_pos (by rw [nI_leI (by omega) (by omega)]; omega), q_missed hfl hX hN hC h hc, nn_s]
    rfl
  | succ j ih =>
    intro k n S K I hj hn h hc h4
    obtain ⟨n, rfl⟩ : ∃ n', n = n' + 1 := ⟨n - 1, by omega⟩
    obtain ⟨I1, f1, c1, r1⟩ := q_second (fl := fl) (len := len) hfl hX hN hC h (by omega) hc
    obtain ⟨a, e4, e5⟩ := h.pass (by omega)
    obtain ⟨I2, f2, c2, r2⟩ := ih (k + 1) n _ _ I1 (by omega) (by omega) a c1 (by omega)
    refine ⟨I2, f1.trans f2, c2, ?_⟩
    show m4_runSeconds_39b fl len X (m4_runSeconds_39 fl len X n) _ _ _ _ _ _ = _
    rw [m4_runSeconds_39b, if_neg (by rw [nI_leI (by omega) (by omega)]; omega), r1, nn_s]
    simp only
    rw [lt_e, L1, nI_add, r2]
    rfl
end RH
