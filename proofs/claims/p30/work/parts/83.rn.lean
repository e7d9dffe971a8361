/-! ===== the rest of a play: how long it goes on, and who sees it ===== -/
def gon (S : Nat → Nat) (K : Nat) : Prop := K < S 5 ∨ 0 < S 6 ∨ pbS S 4 ≠ 0
def tcm (S : Nat → Nat) (K : Nat) : Prop := K < S 5
/-- so many seconds go on, then it is done -/
def rd (G : (Nat → Nat) → Nat → Prop) : Nat → (Nat → Nat) → Nat → Prop
  | 0, S, K => ¬ G S K
  | j + 1, S, K => G S K ∧ rd G j (passS S K) (passK S K)
section RN
variable {fl : Nat} {len : Nat → Nat} {X X1 : Xm} {I I1 I2 I3 : Im} {p q b : Nat} {S S' T : Nat → Nat} {K : Nat} {w w' : Nat → Nat}
theorem pb_ex (h : pbS S 4 ≠ 0) : ∃ r, r < 4 ∧ S (128 + 4 * r + 1) ≠ 0 := by
  by_cases h0 : S (128 + 4 * 0 + 1) = 0
  · by_cases h1 : S (128 + 4 * 1 + 1) = 0
    · by_cases h2 : S (128 + 4 * 2 + 1) = 0
      · by_cases h3 : S (128 + 4 * 3 + 1) = 0
        · exact absurd (by unfold pbS pbS pbS pbS pbS; rw [if_pos h0, if_pos h1, if_pos h2, if_pos h3]) h
        · exact ⟨3, by omega, h3⟩
      · exact ⟨2, by omega, h2⟩
    · exact ⟨1, by omega, h1⟩
  · exact ⟨0, by omega, h0⟩
theorem pb_pos : pbS S 4 = 0 ∨ 0 < pbS S 4 := by
  unfold pbS pbS pbS pbS pbS
  repeat' split
  all_goals decide
theorem gon_lt (h : Iv S K) (hg : gon S K) : S 4 < 1200 := by
  obtain ⟨iA, iB, iC, iR, iS, iH, iD, iP, iN⟩ := h
  rcases hg with hg | hg | hg
  · have := iC.1 K hg
    have := this.2.2.2.2.2 (Nat.le_refl _)
    omega
  · have := iD.2 0 hg
    omega
  · obtain ⟨r, hr, hp⟩ := pb_ex hg
    have := (iR r hr).2.2.2.2.2 hp
    omega
theorem tcm_gon (h : tcm S K) : gon S K := Or.inl h
theorem rd_ex {G : (Nat → Nat) → Nat → Prop} (hG : ∀ S K, Iv S K → G S K → S 4 < 1200) : ∀ (n : Nat) (S : Nat → Nat) (K : Nat), Iv S K → 1200 - S 4 ≤ n → ∃ j, rd G j S K ∧ S 4 + j ≤ 1200
  | 0, S, K, h, hn => ⟨0, fun hg => by have := hG S K h hg; omega, h.2.1.1⟩
  | n + 1, S, K, h, hn => by
    by_cases hg : G S K
    · have h4 := hG S K h hg
      obtain ⟨a, e4, e5⟩ := h.pass h4
      obtain ⟨j, h1, h2⟩ := rd_ex hG n _ _ a (by omega)
      exact ⟨j + 1, ⟨hg, h1⟩, by omega⟩
    · exact ⟨0, hg, h.2.1.1⟩
theorem cK_far : ∀ (j K : Nat) (S : Nat → Nat) (m : Nat), K + j = S 5 → Iv S K → ∀ i, (i < 4 ∨ 320 ≤ i) → (cK j K S m).1 i = S i
  | 0, K, S, m, _, _, i, _ => rfl
  | j + 1, K, S, m, hj, h, i, hi => by
    unfold cK
    split
    · rename_i hs
      have hK : K < S 5 := by omega
      obtain ⟨e5, e4⟩ := step_5 h hK
      rw [cK_far j (K + 1) (stepS S K) _ (by rw [e5]; omega) (h.step hK hs) i hi]
      have := h.m6.1
      exact stepS_far h hK (K_lt h hK).1 (by omega) (by omega)
    · rfl
theorem cK_st : ∀ (j K : Nat) (S : Nat → Nat) (m : Nat), K + j = S 5 → Iv S K → K ≤ (cK j K S m).2.1 ∧ ∀ c, c < K → (cK j K S m).1 (8 + 5 * c + 4) = S (8 + 5 * c + 4)
  | 0, K, S, m, _, _ => ⟨Nat.le_refl _, fun _ _ => rfl⟩
  | j + 1, K, S, m, hj, h => by
    unfold cK
    split
    · rename_i hs
      have hK : K < S 5 := by omega
      obtain ⟨e5, e4⟩ := step_5 h hK
      obtain ⟨a, b⟩ := cK_st j (K + 1) (stepS S K) (m + if comeA S K ≤ 1 then 0 else 1) (by rw [e5]; omega) (h.step hK hs)
      have := h.m6.1
      refine ⟨by omega, fun c hc => ?_⟩
      rw [b c (by omega)]
      exact stepS_far h hK (K_lt h hK).1 (by omega) (by omega)
    · exact ⟨Nat.le_refl _, fun _ _ => rfl⟩
/-- what a second leaves as it was, and what was heard in it -/
theorem pass_row (h : Iv S K) (h4 : S 4 < 1200) : passS S K (320 + S 4) = loudP S K ∧ (∀ j, 320 ≤ j → j ≠ 320 + S 4 → passS S K j = S j) ∧ (∀ j, j < 4 → passS S K j = S j) := by
  have hKn := h.2.1.2.1
  have hfar := cK_far (S 5 - K) K S 0 (by omega) h
  obtain ⟨c1, c2, c3, c4⟩ := Iv.come (S 5 - K) K S 0 (by omega) h
  unfold passS loudP
  generalize cK (S 5 - K) K S 0 = R at c1 c2 c3 c4 hfar
  have h6 : midS R.1 6 ≤ 24 := (h67_le c1.mids).1
  refine ⟨?_, fun j h1 h2 => ?_, fun j hj => ?_⟩
  · rw [endS_far h6 (by omega) (by omega) (by omega)]
    unfold midS
    rw [c3, upN_eq]
  · rw [endS_far h6 (by omega) (by omega) (by omega)]
    unfold midS
    rw [c3, upN_ne h2, fadC_far (by omega), hfar j (by omega)]
  · rw [endS_far h6 (by omega) (by omega) (by omega)]
    unfold midS
    rw [upN_ne (by omega), fadC_far (by omega), hfar j (by omega)]
theorem pass_st (h : Iv S K) (h4 : S 4 < 1200) : K ≤ passK S K ∧ ∀ c, c < K → passS S K (8 + 5 * c + 4) = S (8 + 5 * c + 4) := by
  have hKn := h.2.1.2
  obtain ⟨a, b⟩ := cK_st (S 5 - K) K S 0 (by omega) h
  obtain ⟨c1, c2, c3, c4⟩ := Iv.come (S 5 - K) K S 0 (by omega) h
  unfold passS passK
  generalize cK (S 5 - K) K S 0 = R at c1 c2 c3 c4 a b
  have h6 : midS R.1 6 ≤ 24 := (h67_le c1.mids).1
  refine ⟨a, fun c hc => ?_⟩
  rw [endS_far h6 (by omega) (by omega) (by omega)]
  unfold midS
  rw [upN_ne (by omega), fadC_far (by omega), b c hc]
theorem pass_done (hK : ¬ tcm S K) (h : Iv S K) : passM S K = 0 ∧ passK S K = K := by
  have hKn := h.2.1.2.1
  have e : S 5 - K = 0 := by unfold tcm at hK; omega
  unfold passM passK
  rw [e]
  exact ⟨rfl, rfl⟩
theorem nP_4 : ∀ (j : Nat) (S : Nat → Nat) (K : Nat), Iv S K → S 4 + j ≤ 1200 → (nP j S K).1 4 = S 4 + j ∧ (nP j S K).1 5 = S 5
  | 0, S, K, _, _ => ⟨rfl, rfl⟩
  | j + 1, S, K, h, h4 => by
    obtain ⟨a, e4, e5⟩ := h.pass (by omega)
    obtain ⟨f4, f5⟩ := nP_4 j _ _ a (by omega)
    exact ⟨by show (nP j (passS S K) (passK S K)).1 4 = _; omega, by show (nP j (passS S K) (passK S K)).1 5 = _; omega⟩
/-- behind the last cue none is missed -/
theorem nP_done : ∀ (j : Nat) (S : Nat → Nat) (K : Nat), Iv S K → S 4 + j ≤ 1200 → ¬ tcm S K → (nP j S K).2.2 = 0
  | 0, _, _, _, _, _ => rfl
  | j + 1, S, K, h, h4, hd => by
    obtain ⟨a, e4, e5⟩ := h.pass (by omega)
    obtain ⟨m0, k0⟩ := pass_done hd h
    have := nP_done j (passS S K) (passK S K) a (by omega) (by unfold tcm at hd ⊢; omega)
    show passM S K + (nP j (passS S K) (passK S K)).2.2 = 0
    omega
theorem rd_m : ∀ (j j' : Nat) (S : Nat → Nat) (K : Nat), Iv S K → S 4 + j ≤ 1200 → rd gon j S K → rd tcm j' S K → (nP j S K).2.2 = (nP j' S K).2.2
  | j, 0, S, K, h, h4, _, h2 => by
    show (nP j S K).2.2 = 0
    exact nP_done j S K h h4 h2
  | 0, j' + 1, S, K, _, _, h1, h2 => absurd (tcm_gon h2.1) h1
  | j + 1, j' + 1, S, K, h, h4, h1, h2 => by
    obtain ⟨a, e4, e5⟩ := h.pass (by omega)
    have := rd_m j j' _ _ a (by omega) h1.2 h2.2
    show passM S K + (nP j (passS S K) (passK S K)).2.2 = passM S K + (nP j' (passS S K) (passK S K)).2.2
    rw [this]
theorem nP_st : ∀ (j : Nat) (S : Nat → Nat) (K : Nat), Iv S K → S 4 + j ≤ 1200 → ∀ c, c < K → (nP j S K).1 (8 + 5 * c + 4) = S (8 + 5 * c + 4)
  | 0, _, _, _, _, _, _ => rfl
  | j + 1, S, K, h, h4, c, hc => by
    obtain ⟨a, e4, e5⟩ := h.pass (by omega)
    obtain ⟨k1, s1⟩ := pass_st h (by omega)
    have := nP_st j (passS S K) (passK S K) a (by omega) c (by omega)
    show (nP j (passS S K) (passK S K)).1 (8 + 5 * c + 4) = _
    rw [this, s1 c hc]
/-- what becomes of a cue is seen when it came, and later -/
theorem rd_st {c : Nat} : ∀ (j j' : Nat) (S : Nat → Nat) (K : Nat), Iv S K → c < S 5 → S 4 + j' ≤ 1200 → rd (fun S _ => S (8 + 5 * c + 4) = 0) j S K → rd tcm j' S K → (nP j S K).1 (8 + 5 * c + 4) = (nP j' S K).1 (8 + 5 * c + 4)
  | 0, j', S, K, h, hc, h4, h1, h2 => by
    have hK : c < K := by
      have := (h.2.2.1.1 c hc).2.2.2.1
      unfold rd at h1
      omega
    exact (nP_st j' S K h h4 c hK).symm
  | j + 1, 0, S, K, h, hc, h4, h1, h2 => by
    have := (h.2.2.1.1 c hc).2.2.2.1.mp h1.1
    unfold rd tcm at h2
    omega
  | j + 1, j' + 1, S, K, h, hc, h4, h1, h2 => by
    obtain ⟨a, e4, e5⟩ := h.pass (by omega)
    exact rd_st j j' _ _ a (by omega) (by omega) h1.2 h2.2
/-! the reference -/
theorem cntC_0 (h : IvC S K) : ∀ n, n ≤ S 5 → cntC S 0 n = n - K
  | 0, _ => by unfold cntC; omega
  | n + 1, hn => by
    have ih := cntC_0 h n (by omega)
    have := (h.1 n (by omega)).2.2.2.1
    show cntC S 0 n + _ = _
    rw [ih]
    split <;> omega
theorem cpR_loop {a s : Nat} {v : Nat → Int32} (I : Im) (hv : ∀ k, v k = gA I s k) (k : Nat) : pA (cpR I a 0 s k) a k (v k) = cpR I a 0 s (k + 1) := by
  have := cpR_up (I := I) (a := a) (o := 0) (s := s) (k := k) (hv k)
  rwa [Nat.zero_add] at this
/-! the class -/
theorem q_any1 (hc : Cs I p S K w) (hv : Iv S K) (hk : K < S 5) : m6_anyToCome fl len X I (p + 2) = some (1 : Int32) := by
  have h5 := hv.m6.1
  rw [m6_anyToCome, hc.2.1.2.1, hc.2.1.2.2, if_neg (by rw [nI_leI (by omega) (by omega)]; omega), m6_anyToCome_16, ck_isbl1]
theorem q_any0 (hc : Cs I p S K w) (hv : Iv S K) (hk : ¬ K < S 5) : m6_anyToCome fl len X I (p + 2) = some (0 : Int32) := by
  have h5 := hv.m6.1
  have hB := hv.2.1.2.1
  rw [m6_anyToCome, hc.2.1.2.1, hc.2.1.2.2, if_pos (by rw [nI_leI (by omega) (by omega)]; omega), m6_anyToCome_16, ck_isbl0]
theorem L1M : (1000000 : Int32) = nI 1000000 := rfl
theorem q_inTrial (hfl : 10000 ≤ fl) (hX : XS X p) (hN : LN len p) (hC : XC X p w) (m : Int32) : ∀ (j k n : Nat) (S : Nat → Nat) (K : Nat) (I : Im), k + j ≤ 1200 → j < n → Iv S K → Cs I p S K w → S 4 + j ≤ 1200 → rd tcm j S K → ∃ I1, Fr p I I1 ∧ Cs I1 p (nP j S K).1 (nP j S K).2.1 w ∧ m8_missedInTrial_13 fl len X n I b m (nI k) p (p + 2) = some (nI (msd (nP j S K).1) - m, I1) := by
  intro j
  induction j with
  | zero =>
    intro k n S K I hj hn h hc h4 hr
    obtain ⟨n, rfl⟩ : ∃ n', n = n' + 1 := ⟨n - 1, by omega⟩
    refine ⟨I, Fr.rfl, hc, ?_⟩
    show m8_missedInTrial_13b fl len X (m8_missedInTrial_13 fl len X n) _ _ _ _ _ _ = _
    rw [m8_missedInTrial_13b, L1M, if_neg (by rw [nI_leI (by omega) (by omega)]; omega), q_any0 hc h hr, nn_s, if_pos (by decide), m8_missedInTrial_46, q_missed hfl hX hN hC h hc, nn_s]
    rfl
  | succ j ih =>
    intro k n S K I hj hn h hc h4 hr
    obtain ⟨n, rfl⟩ : ∃ n', n = n' + 1 := ⟨n - 1, by omega⟩
    obtain ⟨I1, f1, c1, r1⟩ := q_second (fl := fl) (len := len) hfl hX hN hC h (by omega) hc
    obtain ⟨a, e4, e5⟩ := h.pass (by omega)
    obtain ⟨I2, f2, c2, r2⟩ := ih (k + 1) n _ _ I1 (by omega) (by omega) a c1 (by omega) hr.2
    refine ⟨I2, f1.trans f2, c2, ?_⟩
    show m8_missedInTrial_13b fl len X (m8_missedInTrial_13 fl len X n) _ _ _ _ _ _ = _
    rw [m8_missedInTrial_13b, L1M, if_neg (by rw [nI_leI (by omega) (by omega)]; omega), q_any1 hc h hr.1, nn_s, if_neg (by decide), r1, nn_s]
    simp only
    rw [L1, nI_add, lt_e, r2]
    rfl
theorem q_missedIn (hfl : 10000 ≤ fl) (hX : XS X p) (hN : LN len p) (hC : XC X p w) (h129 : gR X 129 b = some p) (hv : Iv S K) (hc : Cs I p S K w) {j : Nat} (h4 : S 4 + j ≤ 1200) (hr : rd tcm j S K) : ∃ I1, Fr p I I1 ∧ Cs I1 p (nP j S K).1 (nP j S K).2.1 w ∧ m8_missedInTrial fl len X I b = some (nI (nP j S K).2.2, I1) := by
  have hm := msd_nP j S K hv h4
  have hi := Iv.passes j S K hv h4
  have h48 := msd_le hi
  obtain ⟨I1, f1, c1, r1⟩ := q_inTrial (fl := fl) (len := len) (b := b) hfl hX hN hC (nI (msd S)) j 0 fl S K I (by omega) (by omega) hv hc h4 hr
  refine ⟨I1, f1, c1, ?_⟩
  rw [m8_missedInTrial, h129, nn_s, hX.1.2.1, nn_s, q_missed hfl hX hN hC hv hc, nn_s, show m8_missedInTrial_13 fl len X fl I b (nI (msd S)) (0 : Int32) p (p + 2) = m8_missedInTrial_13 fl len X fl I b (nI (msd S)) (nI 0) p (p + 2) from rfl, r1, nI_sub (by omega), hm, Nat.add_sub_cancel_left]
end RN
