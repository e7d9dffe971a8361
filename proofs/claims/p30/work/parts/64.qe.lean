/-! ===== a second of the class, whole ===== -/
section QE
variable {fl : Nat} {len : Nat → Nat} {X : Xm} {I I1 : Im} {p : Nat} {S S' : Nat → Nat} {K : Nat} {w : Nat → Nat}
theorem h67_le (h : Iv S K) : S 6 ≤ 24 ∧ S 7 ≤ 24 := ⟨by have := h.2.2.2.2.2.2.1.1; have := h.2.1.2; omega, by rw [h.2.2.2.2.2.2.2.1.1]; exact cntT_le S 24⟩
/-- one cue comes -/
theorem q_come (hX : XS X p) (hL : LN len p) (hC : XC X p w) (h : Iv S K) (hK : K < S 5) (hc : Cs I p S K w) {zr8 : Im → Nat → Int32 → Nat → Option Im} (hs : S (8 + 5 * K) = S 4) : ∃ I1, Fr p I I1 ∧ Cs I1 p (stepS S K) (K + 1) w ∧ m4_letCuesCome_8b fl len X zr8 I p (nI K) (p + 2) = zr8 I1 p (nI (K + 1)) (p + 2) := by
  obtain ⟨d1, d2, d5, d6, d7, d8, d9, d10⟩ := hc
  obtain ⟨h6, hK24⟩ := K_lt h hK
  obtain ⟨hk, hw, hv⟩ := h.mid hK
  have hI := h
  obtain ⟨iA, iB, iC, iR, iS, iH, iD, iP, iN⟩ := h
  have h5l := iB.2.2
  have hcue := iC.1 K hK
  obtain ⟨e0, e1, e2, e3, e4⟩ := d5 K hK
  obtain ⟨wq, wr, wi⟩ := hC K (by omega)
  have h67 := h67_le hI
  have hn4 := iN 4
  -- the two fields that are set first
  obtain ⟨J, eJ⟩ : ∃ y, y = pF (pF I 98 (p + 2) (nI (K + 1))) 20 (w K) (nI 1) := ⟨_, rfl⟩
  have jA : ∀ a j, gA J a j = gA I a j := fun a j => by rw [eJ]; rfl
  have jF : ∀ f a, f ≠ 98 → f ≠ 20 → gF J f a = gF I f a := fun f a h1 h2 => by rw [eJ, gF_f h2, gF_f h1]
  have j98 : gF J 98 (p + 2) = nI (K + 1) := by rw [eJ, gF_f (by omega), gF_s]
  have j20 : gF J 20 (w K) = nI 1 := by rw [eJ, gF_s]
  have j20o : ∀ c, c < 24 → c ≠ K → gF J 20 (w c) = gF I 20 (w c) := fun c hc hne => by
    rw [eJ, gF_a (fun q => hne ((wi c hc q.symm).symm)), gF_f (by omega)]
  have jFr : Fr p I J := by rw [eJ]; exact (Fr.rfl.pF (by omega) (by omega)).pF (by omega) (by omega)
  have hfarS : ∀ j, (j < 6 ∨ (8 ≤ j ∧ j < 128 ∧ j ≠ 8 + 5 * K + 4) ∨ 320 ≤ j) → stepS S K j = S j := fun j hj => stepS_far hI hK h6 (by omega) (by omega)
  -- the cues, over any memory whose cues are J's but for this one's state
  have cues : ∀ I2, (∀ f a, 16 ≤ f → f ≤ 19 → gF I2 f a = gF J f a) → (∀ c, c < 24 → c ≠ K → gF I2 20 (w c) = gF J 20 (w c)) → gF I2 20 (w K) = nI (comeA S K) → D5 I2 (stepS S K) w := by
    intro I2 f1 f2 f3 c hlt
    rw [hfarS 5 (by omega)] at hlt
    obtain ⟨c0, c1, c2, c3, c4⟩ := d5 c hlt
    rw [f1 _ _ (by omega) (by omega), f1 _ _ (by omega) (by omega), f1 _ _ (by omega) (by omega), f1 _ _ (by omega) (by omega), jF _ _ (by omega) (by omega), jF _ _ (by omega) (by omega), jF _ _ (by omega) (by omega), jF _ _ (by omega) (by omega), hfarS _ (by omega), hfarS (8 + 5 * c + 1) (by omega), hfarS (8 + 5 * c + 2) (by omega), hfarS (8 + 5 * c + 3) (by omega)]
    refine ⟨c0, c1, c2, c3, ?_⟩
    by_cases ec : c = K
    · rw [ec, f3, stepS_st]
    · rw [f2 c (by omega) ec, j20o c (by omega) ec, hfarS _ (by omega)]
      exact c4
  have start : ∀ V, (if gF J 17 (w K) = 0 then
          nn (m4_callSound fl len X J p (gF J 18 (w K)) (gF J 19 (w K))) fun x =>
          lt (pF x.2 20 (w K) x.1) fun zI22 =>
          m4_letCuesCome_130 fl len X zr8 zI22 p (nI K) (p + 2)
        else
          if gF J 17 (w K) = nI 1 then
            nn (gR X 68 p) fun v14 =>
            nn (gR X 64 p) fun v15 =>
            ck (inb (nI 1) (len v15) = true) <|
            nn (m2_slam fl len X J v14 (gF J 18 (w K)) (gF J 19 (w K)) (gA J v15 ((nI 1)).toNatClampNeg)) fun zI17 =>
            m4_letCuesCome_130 fl len X zr8 zI17 p (nI K) (p + 2)
          else
            nn (m4_putGoal fl len X J p (gF J 18 (w K)) (gF J 19 (w K))) fun x =>
            m4_letCuesCome_130 fl len X zr8 x.2 p (nI K) (p + 2)) = V → m4_letCuesCome_8b fl len X zr8 I p (nI K) (p + 2) = V := by
    intro V hV
    rw [m4_letCuesCome_8b, d2.2.1, if_neg (by rw [nI_leI (by omega) (by omega)]; omega), q_cue hX hL hC h5l d2.2.1 hK, nn_s, if_neg (by simp), nn_s, e0, d2.1, if_pos (by rw [nI_leI (by omega) (by omega)]; omega), lt_e, lt_e, L1, nI_add, ← eJ]
    exact hV
  rw [jF 17 _ (by omega) (by omega), jF 18 _ (by omega) (by omega), jF 19 _ (by omega) (by omega), e1, e2, e3] at start
  by_cases k2 : S (8 + 5 * K + 1) = 2
  · have eA : comeA S K = 1 := by unfold comeA; rw [if_pos k2]
    have eS : ∀ j, j ≠ 8 + 5 * K + 4 → stepS S K j = upN S (216 + 2 * S (8 + 5 * K + 2) + 1) (S (8 + 5 * K + 3)) j := by
      intro j hj; unfold stepS comeS; rw [upN_ne hj, if_pos k2]
    have hf : ∀ j, j ≠ 216 + 2 * S (8 + 5 * K + 2) + 1 → j ≠ 8 + 5 * K + 4 → stepS S K j = S j := fun j h1 h2 => by rw [eS j h2, upN_ne h1]
    have hv100 := hcue.2.1.2.2.2.2 k2
    refine ⟨pF J 1 (p + 68 + S (8 + 5 * K + 2)) (nI (S (8 + 5 * K + 3))), jFr.pF (by omega) (by omega), ⟨d1.to (fun j => by rw [gA_pF, jA]) (fun j hj => hf j (by omega) (by omega)), ⟨by rw [gF_f (by omega), jF _ _ (by omega) (by omega), hf 4 (by omega) (by omega)]; exact d2.1, by rw [gF_f (by omega), jF _ _ (by omega) (by omega), hf 5 (by omega) (by omega)]; exact d2.2.1, by rw [gF_f (by omega), j98]⟩, cues _ (fun f a h1 h2 => gF_f (by omega)) (fun c _ _ => gF_f (by omega)) (by rw [gF_f (by omega), j20, eA]), d6.to (by rw [gF_f (by omega), jF _ _ (by omega) (by omega)]) (fun a j _ _ => by rw [gA_pF, jA]) (hf _ (by omega) (by omega)) h67.1 (fun j _ _ => hf j (by omega) (by omega)), d7.to (by rw [gF_f (by omega), jF _ _ (by omega) (by omega)]) (fun j => by rw [gA_pF, jA]) (hf _ (by omega) (by omega)) h67.2 (fun j _ _ => hf j (by omega) (by omega)), d8.to (fun j => by rw [gA_pF, jA]) (hf _ (by omega) (by omega)) (fun j _ => hf j (by omega) (by omega)), d9.to (fun r hr => (iR r hr).1) (fun f a hf' => by rw [gF_f (by omega), jF _ _ (by omega) (by omega)]) (fun j _ _ => hf j (by omega) (by omega)), fun ch hch => ?_⟩, ?_⟩
    · obtain ⟨g0, g1⟩ := d10 ch hch
      rw [gF_f (f := 1) (g := 0) (by omega), jF _ _ (by omega) (by omega), hf (216 + 2 * ch) (by omega) (by omega)]
      refine ⟨g0, ?_⟩
      by_cases ec : ch = S (8 + 5 * K + 2)
      · rw [← ec, gF_s, eS _ (by omega), ← ec, upN_eq]
      · rw [gF_a (by omega), jF _ _ (by omega) (by omega), hf _ (by omega) (by omega)]
        exact g1
    · refine start _ ?_
      rw [k2, if_neg (by decide), if_neg (by decide), m4_putGoal, q_chan hX hL (by omega), nn_s, if_neg (by simp), q_within1 ⟨by rw [L0, nI_leI (by omega) (by omega)]; omega, by rw [L100, nI_leI (by omega) (by omega)]; omega⟩, nn_s, if_neg (by decide), nn_s, lt_e, lt_e, nn_s, m4_letCuesCome_130, L1, nI_add, lt_e]
  · by_cases k1 : S (8 + 5 * K + 1) = 1
    · have eA : comeA S K = 1 := by unfold comeA; rw [if_neg k2, if_pos k1]
      obtain ⟨T, eT⟩ : ∃ T, T = upN (upN (upN (upN S (224 + 3 * S 6) (S (8 + 5 * K + 2))) (224 + 3 * S 6 + 1) (S (8 + 5 * K + 3))) (224 + 3 * S 6 + 2) (S 1)) 6 (S 6 + 1) := ⟨_, rfl⟩
      have eS : ∀ j, j ≠ 8 + 5 * K + 4 → stepS S K j = T j := by
        intro j hj; unfold stepS comeS; rw [upN_ne hj, if_neg k2, if_pos k1, eT]
      have hf : ∀ j, (j < 6 ∨ (6 < j ∧ j < 224) ∨ 296 ≤ j) → j ≠ 8 + 5 * K + 4 → stepS S K j = S j := fun j h1 h2 => by
        rw [eS j h2, eT, upN_ne (by omega), upN_ne (by omega), upN_ne (by omega), upN_ne (by omega)]
      have d6J : D6 J p S := d6.to (jF _ _ (by omega) (by omega)) (fun a j _ _ => jA a j) rfl h67.1 (fun _ _ _ => rfl)
      obtain ⟨I2, run, f1, f2, f3, f4⟩ := q_slam (fl := fl) (len := len) (X := X) (a := S (8 + 5 * K + 2)) (b := S (8 + 5 * K + 3)) (c := S 1) hX hL d6J h6
      rw [← eT] at f4
      have e6T : T 6 ≤ 24 := by rw [eT, upN_eq]; omega
      refine ⟨I2, jFr.trans f1, ⟨d1.to (fun j => by rw [f3 _ _ (by omega), jA]) (fun j hj => hf j (by omega) (by omega)), ⟨by rw [f2 _ _ (by omega), jF _ _ (by omega) (by omega), hf 4 (by omega) (by omega)]; exact d2.1, by rw [f2 _ _ (by omega), jF _ _ (by omega) (by omega), hf 5 (by omega) (by omega)]; exact d2.2.1, by rw [f2 _ _ (by omega), j98]⟩, cues _ (fun f a h1 h2 => f2 _ _ (by omega)) (fun c _ _ => f2 _ _ (by omega)) (by rw [f2 _ _ (by omega), j20, eA]), f4.to rfl (fun _ _ _ _ => rfl) (eS _ (by omega)) e6T (fun j _ _ => eS j (by omega)), d7.to (by rw [f2 _ _ (by omega), jF _ _ (by omega) (by omega)]) (fun j => by rw [f3 _ _ (by omega), jA]) (hf _ (by omega) (by omega)) h67.2 (fun j _ _ => hf j (by omega) (by omega)), d8.to (fun j => by rw [f3 _ _ (by omega), jA]) (hf _ (by omega) (by omega)) (fun j _ => hf j (by omega) (by omega)), d9.to (fun r hr => (iR r hr).1) (fun f a hf' => by rw [f2 _ _ (by omega), jF _ _ (by omega) (by omega)]) (fun j _ _ => hf j (by omega) (by omega)), d10.to (fun f a hf' => by rw [f2 _ _ (by omega), jF _ _ (by omega) (by omega)]) (fun j _ _ => hf j (by omega) (by omega))⟩, ?_⟩
      refine start _ ?_
      rw [k1, if_neg (by decide), if_pos rfl, hX.1.2.2.2.2.1, nn_s, hX.1.1, nn_s, hL.1.1, ck_inb _ (by omega) (by omega), nI_clamp (by omega), jA, d1 1 (by omega), run, nn_s, m4_letCuesCome_130, L1, nI_add, lt_e]
    · have k0 : S (8 + 5 * K + 1) = 0 := by omega
      have hv := hv k0
      have hw4 : S (8 + 5 * K + 2) < 4 := by omega
      have d7J : D7 J p S := d7.to (jF _ _ (by omega) (by omega)) (fun j => jA _ j) rfl h67.2 (fun _ _ _ => rfl)
      have d9J : D9 J p S := d9.to (fun r hr => (iR r hr).1) (fun f a hf' => jF f a (by omega) (by omega)) (fun _ _ _ => rfl)
      obtain ⟨c1, c2, c3⟩ := q_call (fl := fl) (len := len) (X := X) (I := J) hX hL hI d7J d9J hw4 hv
      -- where nothing starts
      have stay : ∀ a, comeA S K = a → comeS S K = S → m4_callSound fl len X J p (nI (S (8 + 5 * K + 2))) (nI (S (8 + 5 * K + 3))) = some (nI a, J) → ∃ I1, Fr p I I1 ∧ Cs I1 p (stepS S K) (K + 1) w ∧ m4_letCuesCome_8b fl len X zr8 I p (nI K) (p + 2) = zr8 I1 p (nI (K + 1)) (p + 2) := by
        intro a ha hcs hrun
        have hf : ∀ j, j ≠ 8 + 5 * K + 4 → stepS S K j = S j := fun j h2 => by unfold stepS; rw [upN_ne h2, hcs]
        refine ⟨pF J 20 (w K) (nI a), jFr.pF (by omega) (by omega), ⟨d1.to (fun j => by rw [gA_pF, jA]) (fun j hj => hf j (by omega)), ⟨by rw [gF_f (by omega), jF _ _ (by omega) (by omega), hf 4 (by omega)]; exact d2.1, by rw [gF_f (by omega), jF _ _ (by omega) (by omega), hf 5 (by omega)]; exact d2.2.1, by rw [gF_f (by omega), j98]⟩, cues _ (fun f a h1 h2 => gF_f (by omega)) (fun c hc hne => gF_a (fun q => hne ((wi c hc q.symm).symm))) (by rw [gF_s, ha]), d6.to (by rw [gF_f (by omega), jF _ _ (by omega) (by omega)]) (fun a j _ _ => by rw [gA_pF, jA]) (hf _ (by omega)) h67.1 (fun j _ _ => hf j (by omega)), d7.to (by rw [gF_f (by omega), jF _ _ (by omega) (by omega)]) (fun j => by rw [gA_pF, jA]) (hf _ (by omega)) h67.2 (fun j _ _ => hf j (by omega)), d8.to (fun j => by rw [gA_pF, jA]) (hf _ (by omega)) (fun j _ => hf j (by omega)), d9.to (fun r hr => (iR r hr).1) (fun f a hf' => by rw [gF_f (by omega), jF _ _ (by omega) (by omega)]) (fun j _ _ => hf j (by omega)), d10.to (fun f a hf' => by rw [gF_f (by omega), jF _ _ (by omega) (by omega)]) (fun j _ _ => hf j (by omega))⟩, ?_⟩
        refine start _ ?_
        rw [k0, if_pos (show nI 0 = (0 : Int32) from rfl), hrun, nn_s, lt_e, m4_letCuesCome_130, L1, nI_add, lt_e]
      by_cases hp : S (128 + 4 * S (8 + 5 * K + 2) + 1) = 0
      · by_cases hpl : S (128 + 4 * S (8 + 5 * K + 2)) = begS S (S (8 + 5 * K + 2)) (S (8 + 5 * K + 3))
        · have eA : comeA S K = 1 := by unfold comeA; rw [if_neg k2, if_neg k1, if_pos hp, if_pos hpl]
          have hm6 := (iR _ hw4).1
          obtain ⟨T, eT⟩ : ∃ T, T = startS S (S (8 + 5 * K + 2)) (S (8 + 5 * K + 3)) := ⟨_, rfl⟩
          have h7' : S (144 + 3 * (6 * S (8 + 5 * K + 2) + S (8 + 5 * K + 3)) + 2) = 0 → S 7 < 24 := fun q => h7_lt hI hw4 (by omega) q
          have eS : ∀ j, j ≠ 8 + 5 * K + 4 → stepS S K j = T j := by
            intro j hj; unfold stepS comeS; rw [upN_ne hj, if_neg k2, if_neg k1, if_pos hp, if_pos hpl, eT]
          have hf : ∀ j, (j < 7 ∨ (8 ≤ j ∧ j < 128) ∨ (216 ≤ j ∧ j < 296) ∨ 320 ≤ j) → j ≠ 8 + 5 * K + 4 → stepS S K j = S j := fun j h1 h2 => by
            rw [eS j h2, eT]
            exact startS_far hw4 (by omega) h7' (by omega) (by omega) (by omega) (by omega) (by omega)
          obtain ⟨I2, run, f1, f2, f3, f4, f5⟩ := c3 hp hpl
          rw [← eT] at f4 f5
          have e7T : T 7 ≤ 24 := by
            rw [eT, (startS_1 hw4 (by omega) h7').2.2.2.1]
            split
            · rename_i q; have := h7' q; omega
            · exact h67.2
          have e3T : ∀ r, r < 4 → T (128 + 4 * r + 3) ≤ 6 := fun r hr => by
            rw [eT, startS_far hw4 (by omega) h7' (by omega) (by omega) (by omega) (by omega) (by omega)]
            exact (iR r hr).1
          refine ⟨pF I2 20 (w K) (nI 1), (jFr.trans f1).pF (by omega) (by omega), ⟨d1.to (fun j => by rw [gA_pF, f3 _ _ (by omega), jA]) (fun j hj => hf j (by omega) (by omega)), ⟨by rw [gF_f (by omega), f2 _ _ (by omega) (by omega) (by omega) (by omega), jF _ _ (by omega) (by omega), hf 4 (by omega) (by omega)]; exact d2.1, by rw [gF_f (by omega), f2 _ _ (by omega) (by omega) (by omega) (by omega), jF _ _ (by omega) (by omega), hf 5 (by omega) (by omega)]; exact d2.2.1, by rw [gF_f (by omega), f2 _ _ (by omega) (by omega) (by omega) (by omega), j98]⟩, cues _ (fun f a h1 h2 => by rw [gF_f (by omega), f2 _ _ (by omega) (by omega) (by omega) (by omega)]) (fun c hc hne => by rw [gF_a (fun q => hne ((wi c hc q.symm).symm)), f2 _ _ (by omega) (by omega) (by omega) (by omega)]) (by rw [gF_s, eA]), d6.to (by rw [gF_f (by omega), f2 _ _ (by omega) (by omega) (by omega) (by omega), jF _ _ (by omega) (by omega)]) (fun a j _ _ => by rw [gA_pF, f3 _ _ (by omega), jA]) (hf _ (by omega) (by omega)) h67.1 (fun j _ _ => hf j (by omega) (by omega)), f4.to (by rw [gF_f (by omega)]) (fun _ => by rw [gA_pF]) (eS _ (by omega)) e7T (fun j _ _ => eS j (by omega)), d8.to (fun j => by rw [gA_pF, f3 _ _ (by omega), jA]) (hf _ (by omega) (by omega)) (fun j _ => hf j (by omega) (by omega)), f5.to e3T (fun f a hf' => gF_f (by omega)) (fun j _ _ => eS j (by omega)), d10.to (fun f a hf' => by rw [gF_f (by omega), f2 _ _ (by omega) (by omega) (by omega) (by omega), jF _ _ (by omega) (by omega)]) (fun j _ _ => hf j (by omega) (by omega))⟩, ?_⟩
          refine start _ ?_
          rw [k0, if_pos (show nI 0 = (0 : Int32) from rfl), run, nn_s, lt_e, m4_letCuesCome_130, L1, nI_add, lt_e]
        · exact stay 3 (by unfold comeA; rw [if_neg k2, if_neg k1, if_pos hp, if_neg hpl]) (by unfold comeS; rw [if_neg k2, if_neg k1, if_pos hp, if_neg hpl]) (c2 hp hpl)
      · exact stay 2 (by unfold comeA; rw [if_neg k2, if_neg k1, if_neg hp]) (by unfold comeS; rw [if_neg k2, if_neg k1, if_neg hp]) (c1 hp)
theorem q_comes (hX : XS X p) (hL : LN len p) (hC : XC X p w) : ∀ (j K n : Nat) (S : Nat → Nat) (m : Nat) (I : Im), K + j = S 5 → j < n → Iv S K → Cs I p S K w → ∃ I1, Fr p I I1 ∧ Cs I1 p (cK j K S m).1 (cK j K S m).2.1 w ∧ m4_letCuesCome_8 fl len X n I p (nI K) (p + 2) = some I1 := by
  intro j
  induction j with
  | zero =>
    intro K n S m I hj hn h hc
    obtain ⟨n, rfl⟩ : ∃ n', n = n' + 1 := ⟨n - 1, by omega⟩
    refine ⟨I, Fr.rfl, hc, ?_⟩
    have h5 := h.2.1.2.2
    show m4_letCuesCome_8b fl len X (m4_letCuesCome_8 fl len X n) _ _ _ _ = _
    rw [m4_letCuesCome_8b, hc.2.1.2.1, if_pos (by rw [nI_leI (by omega) (by omega)]; omega)]
  | succ j ih =>
    intro K n S m I hj hn h hc
    obtain ⟨n, rfl⟩ : ∃ n', n = n' + 1 := ⟨n - 1, by omega⟩
    have h5 := h.2.1.2.2
    have hK : K < S 5 := by omega
    have e0 : ∀ V, m4_letCuesCome_8b fl len X (m4_letCuesCome_8 fl len X n) I p (nI K) (p + 2) = V → m4_letCuesCome_8 fl len X (n + 1) I p (nI K) (p + 2) = V := fun V h => h
    by_cases hs : S (8 + 5 * K) = S 4
    · obtain ⟨I1, f1, c1, r1⟩ := q_come (fl := fl) (zr8 := m4_letCuesCome_8 fl len X n) hX hL hC h hK hc hs
      obtain ⟨e5, e4⟩ := step_5 h hK
      obtain ⟨I2, f2, c2, r2⟩ := ih (K + 1) n (stepS S K) (m + if comeA S K ≤ 1 then 0 else 1) I1 (by rw [e5]; omega) (by omega) (h.step hK hs) c1
      have ek : cK (j + 1) K S m = cK j (K + 1) (stepS S K) (m + if comeA S K ≤ 1 then 0 else 1) := by
        show (if S (8 + 5 * K) = S 4 then _ else _) = _
        rw [if_pos hs]
      rw [ek]
      exact ⟨I2, f1.trans f2, c2, e0 _ (r1.trans r2)⟩
    · have ek : cK (j + 1) K S m = (S, K, m) := by
        show (if S (8 + 5 * K) = S 4 then _ else _) = _
        rw [if_neg hs]
      rw [ek]
      refine ⟨I, Fr.rfl, hc, e0 _ ?_⟩
      have hge := (h.2.2.1.1 K hK).2.2.2.2.2 (Nat.le_refl _)
      have hN := h.2.2.2.2.2.2.2.2
      have n1 := hN 4
      have n2 := hN (8 + 5 * K)
      rw [m4_letCuesCome_8b, hc.2.1.2.1, if_neg (by rw [nI_leI (by omega) (by omega)]; omega), q_cue hX hL hC h5 hc.2.1.2.1 hK, nn_s, if_neg (by simp), nn_s, (hc.2.2.1 K hK).1, hc.2.1.1, if_neg (by rw [nI_leI (by omega) (by omega)]; omega)]
      rfl
end QE
