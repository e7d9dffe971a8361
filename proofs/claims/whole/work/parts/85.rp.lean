/-! ===== what winds faster is nowhere later ===== -/
def dst (a t : Nat) : Nat := (a - t) + (t - a)
theorem dst_near {a a' t s s' : Nat} (h : dst a' t ≤ dst a t) (hs : s ≤ s') : dst (nearS a' t s') t ≤ dst (nearS a t s) t := by
  unfold dst nearS at *
  split <;> split <;> split <;> split <;> omega
theorem dst_0 {a t : Nat} (h : dst a t ≤ dst t t) : a = t := by unfold dst at h; omega
/-- a place of a reel, or the setting -/
def plc (j : Nat) : Prop := j = 0 ∨ (128 ≤ j ∧ j < 144 ∧ j % 4 = 0)
def QW (T T' : Nat → Nat) : Prop := (∀ j, ¬ plc j → T' j = T j) ∧ T 0 ≤ T' 0 ∧ ∀ r, r < 4 → (T (128 + 4 * r + 1) ≠ 0 → T' (128 + 4 * r) = T (128 + 4 * r)) ∧ (T (128 + 4 * r + 1) = 0 → ∀ c, nxF T r (T 5) 0 = some c → dst (T' (128 + 4 * r)) (begS T r (T (8 + 5 * c + 3))) ≤ dst (T (128 + 4 * r)) (begS T r (T (8 + 5 * c + 3))))
section RP
variable {S T T' U U' : Nat → Nat} {K : Nat}
theorem nxF_iff {r : Nat} : ∀ {j c : Nat}, (∀ i, c ≤ i → i < c + j → ((U (8 + 5 * i + 4) = 0 ∧ U (8 + 5 * i + 1) = 0 ∧ U (8 + 5 * i + 2) = r) ↔ (T (8 + 5 * i + 4) = 0 ∧ T (8 + 5 * i + 1) = 0 ∧ T (8 + 5 * i + 2) = r))) → nxF U r j c = nxF T r j c
  | 0, _, _ => rfl
  | j + 1, c, h => by
    have ih := nxF_iff (j := j) (c := c + 1) (r := r) (fun i h1 h2 => h i (by omega) (by omega))
    have h0 := h c (Nat.le_refl _) (by omega)
    unfold nxF
    rw [ih]
    by_cases hp : T (8 + 5 * c + 4) = 0 ∧ T (8 + 5 * c + 1) = 0 ∧ T (8 + 5 * c + 2) = r
    · rw [if_pos (h0.mpr hp), if_pos hp]
    · rw [if_neg (fun q => hp (h0.mp q)), if_neg hp]
theorem nxF_at {r d : Nat} (hp : T (8 + 5 * d + 4) = 0 ∧ T (8 + 5 * d + 1) = 0 ∧ T (8 + 5 * d + 2) = r) : ∀ {j c : Nat}, c ≤ d → d < c + j → (∀ i, c ≤ i → i < d → T (8 + 5 * i + 4) ≠ 0) → nxF T r j c = some d
  | 0, c, h1, h2, _ => by omega
  | j + 1, c, h1, h2, h => by
    unfold nxF
    by_cases e : c = d
    · rw [e, if_pos hp]
    · rw [if_neg (fun q => h c (Nat.le_refl _) (by omega) q.1)]
      exact nxF_at hp (by omega) (by omega) (fun i h3 h4 => h i (by omega) h4)
/-- the sound that the next cue calls is there -/
theorem nx_ok (h : Iv T K) {r c : Nat} (hr : r < 4) (hx : nxF T r (T 5) 0 = some c) : T (8 + 5 * c + 3) ≤ 6 := by
  obtain ⟨-, h2, -, h4, h5⟩ := nxF_some hx
  have hv := (h.2.2.1.1 c (by omega)).2.1.2.2.1 h4
  rw [h5] at hv
  have := (h.2.2.2.1 r hr).1
  omega
theorem QW.to (h : QW T T') (hv : Iv T K) (hU : ∀ j, j < 216 → U j = T j) (hU' : ∀ j, j < 216 → U' j = T' j) (hR : ∀ j, 216 ≤ j → U' j = U j) : QW U U' := by
  obtain ⟨h1, h2, h3⟩ := h
  have h5 := hv.m6.1
  refine ⟨fun j hj => ?_, by rw [hU 0 (by omega), hU' 0 (by omega)]; exact h2, fun r hr => ⟨fun hp => ?_, fun hp c hx => ?_⟩⟩
  · by_cases hj2 : j < 216
    · rw [hU j hj2, hU' j hj2]; exact h1 j hj
    · exact hR j (by omega)
  · rw [hU _ (by omega)] at hp
    rw [hU _ (by omega), hU' _ (by omega)]
    exact (h3 r hr).1 hp
  · rw [hU _ (by omega)] at hp
    have ex : nxF U r (U 5) 0 = nxF T r (T 5) 0 := by
      rw [hU 5 (by omega)]
      exact nxF_iff fun i _ hi => by rw [hU _ (by omega), hU _ (by omega), hU _ (by omega)]
    rw [ex] at hx
    have h6 := nx_ok hv hr hx
    have hc := (nxF_some hx).2.1
    rw [hU (8 + 5 * c + 3) (by omega), hU' (128 + 4 * r) (by omega), hU (128 + 4 * r) (by omega), begS_congr (S := T) (S' := U) (fun j hj => hU _ (by omega))]
    exact (h3 r hr).2 hp c hx
theorem QW.step (h : QW T T') (hv : Iv T K) (hv' : Iv T' K) (hK : K < T 5) (hA : comeA T K ≤ 1) : comeA T' K ≤ 1 ∧ QW (stepS T K) (stepS T' K) := by
  obtain ⟨h1, h2, h3⟩ := id h
  obtain ⟨h6, hK24⟩ := K_lt hv hK
  have h5 := hv.m6.1
  have np : ∀ j, j ≠ 0 → (j < 128 ∨ 144 ≤ j ∨ j % 4 ≠ 0) → ¬ plc j := fun j a b c => by unfold plc at c; omega
  have e5 : T' 5 = T 5 := h1 5 (np 5 (by omega) (by omega))
  have hK' : K < T' 5 := by omega
  have h6' : T' 6 < 24 := by rw [h1 6 (np 6 (by omega) (by omega))]; exact h6
  have e1 := h1 (8 + 5 * K + 1) (np _ (by omega) (by omega))
  have e2 := h1 (8 + 5 * K + 2) (np _ (by omega) (by omega))
  have e3 := h1 (8 + 5 * K + 3) (np _ (by omega) (by omega))
  have hcue := hv.2.2.1.1 K hK
  have hst : T (8 + 5 * K + 4) = 0 := hcue.2.2.2.1.mpr (Nat.le_refl _)
  have hw := hcue.2.1.2.1
  have hA1 := (comeA_le T K).1
  -- what both have behind the cue, where no reel that plays is concerned
  have fin : ∀ (pl : Nat → Prop), (∀ r, r < 4 → ¬ pl r → stepS T K (128 + 4 * r + 1) = T (128 + 4 * r + 1)) → (∀ r, r < 4 → ¬ pl r → ¬ (T (8 + 5 * K + 1) = 0 ∧ T (8 + 5 * K + 2) = r)) → (∀ r, r < 4 → pl r → stepS T K (128 + 4 * r + 1) ≠ 0 ∧ T' (128 + 4 * r) = T (128 + 4 * r)) → (∀ j, ¬ plc j → stepS T' K j = stepS T K j) → QW (stepS T K) (stepS T' K) := by
    intro pl f1 f2 f3 f4
    have far : ∀ j, j = 0 ∨ (128 ≤ j ∧ j < 144 ∧ j % 4 = 0) → stepS T K j = T j ∧ stepS T' K j = T' j := fun j hj => ⟨stepS_far hv hK h6 (by omega) (by omega), stepS_far hv' hK' h6' (by omega) (by omega)⟩
    refine ⟨f4, by rw [(far 0 (by omega)).1, (far 0 (by omega)).2]; exact h2, fun r hr => ?_⟩
    rw [(far (128 + 4 * r) (by omega)).1, (far (128 + 4 * r) (by omega)).2]
    by_cases hpl : pl r
    · obtain ⟨g1, g2⟩ := f3 r hr hpl
      exact ⟨fun _ => g2, fun q => absurd q g1⟩
    · rw [f1 r hr hpl]
      refine ⟨(h3 r hr).1, fun hp c hx => ?_⟩
      have es5 : stepS T K 5 = T 5 := stepS_far hv hK h6 (by omega) (by omega)
      have ex : nxF (stepS T K) r (stepS T K 5) 0 = nxF T r (T 5) 0 := by
        rw [es5]
        refine nxF_iff fun i _ hi => ?_
        rw [stepS_far hv hK h6 (j := 8 + 5 * i + 1) (by omega) (by omega), stepS_far hv hK h6 (j := 8 + 5 * i + 2) (by omega) (by omega)]
        by_cases e : i = K
        · rw [e, stepS_st]
          exact ⟨fun q => by omega, fun q => absurd ⟨q.2.1, q.2.2⟩ (f2 r hr hpl)⟩
        · rw [stepS_far hv hK h6 (j := 8 + 5 * i + 4) (by omega) (by omega)]
      rw [ex] at hx
      have h6c := nx_ok hv hr hx
      have hc := (nxF_some hx).2.1
      rw [stepS_far hv hK h6 (j := 8 + 5 * c + 3) (by omega) (by omega), begS_congr (S := T) (S' := stepS T K) (fun j hj => stepS_far hv hK h6 (by omega) (by omega))]
      exact (h3 r hr).2 hp c hx
  by_cases k2 : T (8 + 5 * K + 1) = 2
  · have a1 : comeA T K = 1 := by unfold comeA; rw [if_pos k2]
    have a1' : comeA T' K = 1 := by unfold comeA; rw [e1, if_pos k2]
    refine ⟨by omega, fin (fun _ => False) (fun r hr _ => ?_) (fun r hr _ q => by omega) (fun r hr q => q.elim) (fun j hj => ?_)⟩
    · unfold stepS comeS
      rw [if_pos k2, upN_ne (by omega), upN_ne (by omega)]
    · unfold stepS comeS
      rw [e1, if_pos k2, if_pos k2, a1, a1', e2, e3]
      unfold upN
      rw [h1 j hj]
  · by_cases k1 : T (8 + 5 * K + 1) = 1
    · have a1 : comeA T K = 1 := by unfold comeA; rw [if_neg k2, if_pos k1]
      have a1' : comeA T' K = 1 := by unfold comeA; rw [e1, if_neg k2, if_pos k1]
      refine ⟨by omega, fin (fun _ => False) (fun r hr _ => ?_) (fun r hr _ q => by omega) (fun r hr q => q.elim) (fun j hj => ?_)⟩
      · unfold stepS comeS
        rw [if_neg k2, if_pos k1, upN_ne (by omega), upN_ne (by omega), upN_ne (by omega), upN_ne (by omega), upN_ne (by omega)]
      · unfold stepS comeS
        rw [e1, if_neg k2, if_neg k2, if_pos k1, if_pos k1, a1, a1', e2, e3, h1 6 (np 6 (by omega) (by omega)), h1 1 (np 1 (by omega) (by omega))]
        unfold upN
        rw [h1 j hj]
    · have k0 : T (8 + 5 * K + 1) = 0 := by have := hcue.2.1.1; omega
      have hv0 := hcue.2.1.2.2.1 k0
      have hw4 : T (8 + 5 * K + 2) < 4 := by omega
      have hm := (hv.2.2.2.1 _ hw4).1
      -- it is there, and doesn't play
      have hpp : T (128 + 4 * T (8 + 5 * K + 2) + 1) = 0 ∧ T (128 + 4 * T (8 + 5 * K + 2)) = begS T (T (8 + 5 * K + 2)) (T (8 + 5 * K + 3)) := by
        unfold comeA at hA
        rw [if_neg k2, if_neg k1] at hA
        by_cases p0 : T (128 + 4 * T (8 + 5 * K + 2) + 1) = 0
        · rw [if_pos p0] at hA
          by_cases p1 : T (128 + 4 * T (8 + 5 * K + 2)) = begS T (T (8 + 5 * K + 2)) (T (8 + 5 * K + 3))
          · exact ⟨p0, p1⟩
          · rw [if_neg p1] at hA; omega
        · rw [if_neg p0] at hA; omega
      obtain ⟨p0, p1⟩ := hpp
      have hnx : nxF T (T (8 + 5 * K + 2)) (T 5) 0 = some K := nxF_at ⟨hst, k0, rfl⟩ (Nat.zero_le _) (by omega) (fun i _ hi q => by
        have := (hv.2.2.1.1 i (by omega)).2.2.2.1.mp q
        omega)
      have hd := (h3 _ hw4).2 p0 K hnx
      have ep0 := h1 (128 + 4 * T (8 + 5 * K + 2) + 1) (np _ (by omega) (by omega))
      have ebg : begS T' (T (8 + 5 * K + 2)) (T (8 + 5 * K + 3)) = begS T (T (8 + 5 * K + 2)) (T (8 + 5 * K + 3)) := begS_congr (fun j hj => h1 _ (np _ (by omega) (by omega)))
      have ep1 : T' (128 + 4 * T (8 + 5 * K + 2)) = begS T (T (8 + 5 * K + 2)) (T (8 + 5 * K + 3)) := by
        rw [p1] at hd
        exact dst_0 hd
      have a1 : comeA T K = 1 := by unfold comeA; rw [if_neg k2, if_neg k1, if_pos p0, if_pos p1]
      have a1' : comeA T' K = 1 := by unfold comeA; rw [e1, e2, e3, if_neg k2, if_neg k1, if_pos (by rw [ep0]; exact p0), if_pos (by rw [ebg]; exact ep1)]
      have s1 : stepS T K = upN (startS T (T (8 + 5 * K + 2)) (T (8 + 5 * K + 3))) (8 + 5 * K + 4) 1 := by
        unfold stepS comeS
        rw [if_neg k2, if_neg k1, if_pos p0, if_pos p1, a1]
      have s1' : stepS T' K = upN (startS T' (T (8 + 5 * K + 2)) (T (8 + 5 * K + 3))) (8 + 5 * K + 4) 1 := by
        unfold stepS comeS
        rw [e1, e2, e3, if_neg k2, if_neg k1, if_pos (by rw [ep0]; exact p0), if_pos (by rw [ebg]; exact ep1), a1']
      have hst1 := startS_1 (S := T) (r := T (8 + 5 * K + 2)) (k := T (8 + 5 * K + 3)) hw4 (by omega) (h7_lt hv hw4 (by omega))
      refine ⟨by omega, fin (fun r => r = T (8 + 5 * K + 2)) (fun r hr hne => ?_) (fun r hr hne q => hne q.2.symm) (fun r hr e => ?_) (fun j hj => ?_)⟩
      · rw [s1, upN_ne (by omega)]
        exact startS_far hw4 (by omega) (h7_lt hv hw4 (by omega)) (by omega) (by omega) (by omega) (by omega) (by omega)
      · rw [s1, upN_ne (by omega), e, hst1.1]
        exact ⟨by omega, by rw [ep1, p1]⟩
      · rw [s1, s1']
        have es : startS T' (T (8 + 5 * K + 2)) (T (8 + 5 * K + 3)) j = startS T (T (8 + 5 * K + 2)) (T (8 + 5 * K + 3)) j := by
          have q1 := h1 (144 + 3 * (6 * T (8 + 5 * K + 2) + T (8 + 5 * K + 3))) (np _ (by omega) (by omega))
          have q2 := h1 (144 + 3 * (6 * T (8 + 5 * K + 2) + T (8 + 5 * K + 3)) + 2) (np _ (by omega) (by omega))
          have q3 := h1 7 (np 7 (by omega) (by omega))
          unfold startS
          rw [q1, q2, q3]
          by_cases hz : T (144 + 3 * (6 * T (8 + 5 * K + 2) + T (8 + 5 * K + 3)) + 2) = 0
          · simp only [if_pos hz]
            unfold upN
            rw [h1 j hj]
          · simp only [if_neg hz]
            unfold upN
            rw [h1 j hj]
        unfold upN
        rw [es]
theorem cK_ge (j K m : Nat) (S : Nat → Nat) : m ≤ (cK j K S m).2.2 := by
  rw [(cK_m j K S m).2.2]
  exact Nat.le_add_right _ _
theorem QW_cK : ∀ (j K : Nat) (T T' : Nat → Nat) (m m' : Nat), QW T T' → Iv T K → Iv T' K → K + j = T 5 → (cK j K T m).2.2 = m → (cK j K T' m').2.2 = m' ∧ (cK j K T' m').2.1 = (cK j K T m).2.1 ∧ QW (cK j K T m).1 (cK j K T' m').1
  | 0, K, T, T', m, m', h, hv, hv', hj, hm => ⟨rfl, rfl, h⟩
  | j + 1, K, T, T', m, m', h, hv, hv', hj, hm => by
    have hK : K < T 5 := by omega
    have np : ∀ j, j ≠ 0 → (j < 128 ∨ 144 ≤ j ∨ j % 4 ≠ 0) → ¬ plc j := fun j a b c => by unfold plc at c; omega
    have h5 := hv.m6.1
    have e4 := h.1 4 (np 4 (by omega) (by omega))
    have e5 := h.1 5 (np 5 (by omega) (by omega))
    have e8 := h.1 (8 + 5 * K) (np _ (by omega) (by omega))
    unfold cK at hm ⊢
    rw [e8, e4]
    by_cases hs : T (8 + 5 * K) = T 4
    · rw [if_pos hs] at hm
      rw [if_pos hs, if_pos hs]
      have hge := cK_ge j (K + 1) (m + if comeA T K ≤ 1 then 0 else 1) (stepS T K)
      have hA : comeA T K ≤ 1 := by
        by_cases hA : comeA T K ≤ 1
        · exact hA
        · rw [if_neg hA] at hge hm; omega
      obtain ⟨hA', hQ⟩ := h.step hv hv' hK hA
      rw [if_pos hA, Nat.add_zero] at hm
      rw [if_pos hA, if_pos hA', Nat.add_zero, Nat.add_zero]
      have s5 := (step_5 hv hK).1
      exact QW_cK j (K + 1) _ _ m m' hQ (hv.step hK hs) (hv'.step (by omega) (by rw [e8, e4]; exact hs)) (by rw [s5]; omega) hm
    · rw [if_neg hs, if_neg hs]
      exact ⟨rfl, rfl, h⟩
end RP
