/-! ===== a second of the law is a second of the mixer ===== -/
section CI
variable {fl : Nat} {len : Nat → Nat} {X : Xm} {I : Im} {a : Nat}
theorem g_goes (hfl : 10000 ≤ fl) (hL : LL len a) {S : Nat → Nat} {K : Nat} {T : Nat → Nat → Nat} (h : LT T S) (hv : Iv S K) (h4 : S 4 < 1200) : ∃ T', LT T' (passS S K) ∧ m9_goes fl len X (mL I a T) a (a + 1) (a + 2) (a + 3) (a + 4) (a + 5) (a + 6) (a + 7) (a + 8) = some (nI (passM S K), mL I a T') := by
  have hKn := hv.2.1.2
  have h5l := hv.m6.1
  -- cues
  have p0 := g6_past (fl := fl) (len := len) (X := X) (I := I) hL h hv (m := 0) K 0 (fl - K) (by omega)
  rw [show fl - K + K = fl by omega] at p0
  obtain ⟨Ta, ha, pa⟩ := g6_comes (fl := fl) (len := len) (X := X) (I := I) hfl hL (S 5 - K) K (fl - K) 0 S T (by omega) (by omega) hv h
  obtain ⟨hU, u5, u4, -⟩ := Iv.come (S 5 - K) K S 0 (by omega) hv
  unfold passS passM
  generalize cK (S 5 - K) K S 0 = R at ha pa hU u5 u4
  obtain ⟨U, K', m⟩ := R
  simp only at ha pa hU u5 u4 ⊢
  -- levels
  obtain ⟨Tb, b1, b2, b3, pb⟩ := g71_go (fl := fl) (len := len) (X := X) (I := I) hfl hL (m := m) hU ha 4 0 fl Ta (by omega) (by omega) (fun _ _ _ => rfl) (fun j hj => by rw [fadC_far (by omega)]; exact ha.2.2.2.2.1 j hj) ha.2.2.2.2.2.2.2.2
  have hF := hU.fade
  obtain ⟨F, eF⟩ : ∃ F, F = fadC U 4 := ⟨_, rfl⟩
  have Ff : ∀ j, (j < 216 ∨ 224 ≤ j ∨ j % 2 = 1) → F j = U j := fun j hj => by rw [eF, fadC_far (by omega)]
  rw [← eF] at b2 pb hF
  have h67 := h67_le hF
  -- doors
  obtain ⟨Tc, c1, c2, c3, c4, c5, c6, pc⟩ := g175_go (fl := fl) (len := len) (X := X) (I := I) hL (m := m) hF (F 6) 0 0 fl F Tb (by omega) (Nat.le_refl _) (by omega) (by rw [b1 _ _ (by omega), Ff 6 (by omega)]; exact ha.1 6 (by omega)) (by rw [b1 _ _ (by omega), Ff 4 (by omega)]; exact ha.1 4 (by omega)) b2 (fun e he => by
    have hh := ha.2.2.2.2.2.1 e (by rw [← Ff 6 (by omega)]; omega)
    rw [b1 _ _ (by omega), hh]
    unfold wv
    rw [Ff _ (by omega), Ff _ (by omega), Ff _ (by omega)]) (fun _ _ _ => ⟨rfl, rfl, rfl⟩) b3
  -- reels
  have cr : ∀ i j, i ≠ 5 → i ≠ 6 → i ≠ 8 → (i ≠ 0 ∨ j ≠ 6) → Tc i j = Ta i j := fun i j q1 q2 q3 q4 => by rw [c1 i j q2 q3 q4, b1 i j q1]
  obtain ⟨Td, d1, d2, d3, d4, pd⟩ := g277_go (fl := fl) (len := len) (X := X) (I := I) hfl hL (m := m) hF (Tb := Tc) (by rw [cr 0 0 (by omega) (by omega) (by omega) (by omega), Ff 0 (by omega)]; exact ha.1 0 (by omega)) (by rw [cr 0 4 (by omega) (by omega) (by omega) (by omega), Ff 4 (by omega)]; exact ha.1 4 (by omega)) (by rw [cr 0 5 (by omega) (by omega) (by omega) (by omega), Ff 5 (by omega)]; exact ha.1 5 (by omega)) (ha.2.1.to (fun i j hi => cr i j (by omega) (by omega) (by omega) (by omega)) (Ff 5 (by omega)) hU.m6.1 (fun j _ _ => Ff j (by omega))) (ha.2.2.2.1.to (fun j => cr 4 j (by omega) (by omega) (by omega) (by omega)) hU.m6.2 (fun r hr => Ff _ (by omega)) (fun j _ _ => Ff j (by omega))) 4 0 fl Tc (by omega) (by omega) (fun _ _ _ => rfl) (fun j hj => by rw [cr 3 j (by omega) (by omega) (by omega) (by omega), relC_far (by omega), Ff _ (by omega)]; exact ha.2.2.1 j hj) c6
  refine ⟨Td, ?_, ?_⟩
  · have dr : ∀ i j, i ≠ 3 → i ≠ 5 → i ≠ 6 → i ≠ 8 → (i ≠ 0 ∨ (j ≠ 6 ∧ j ≠ 4)) → Td i j = Ta i j := fun i j q1 q2 q3 q4 q5 => by rw [d1 i j q1 (by omega), cr i j q2 q3 q4 (by omega)]
    obtain ⟨M, eM⟩ : ∃ M, M = midS U := ⟨_, rfl⟩
    have eM' : M = upN F (320 + U 4) (hearS F) := by rw [eM, eF]; rfl
    have Mf : ∀ j, j ≠ 320 + U 4 → M j = F j := fun j hj => by rw [eM', upN_ne hj]
    have u4' : U 4 < 1200 := by omega
    have M6 : M 6 ≤ 24 := by rw [Mf 6 (by omega)]; exact h67.1
    rw [← eM]
    have P4 : endS M 4 = U 4 + 1 := by rw [endS_4 M6, Mf 4 (by omega), Ff 4 (by omega)]
    have Pf : ∀ j, j ≠ 4 → j ≠ 6 → (j < 128 ∨ (144 ≤ j ∧ j < 216) ∨ 296 ≤ j ∨ (128 ≤ j ∧ j < 144 ∧ j % 4 = 3)) → j ≠ 320 + U 4 → endS M j = U j := fun j q1 q2 q3 q4 => by rw [endS_far M6 q1 q2 (by omega), Mf j q4, Ff j (by omega)]
    have Pd : ∀ i, (i = 6 ∨ (224 ≤ i ∧ i < 296)) → endS M i = faF (F 6) 0 0 F i := fun i hi => by
      unfold endS
      rw [upN_ne (by omega), Mf 6 (by omega)]
      exact faF_congr (F 6) 0 0 F _ (Nat.le_refl _) (by omega) (fun i h1 h2 => by rw [relC_far (by omega), Mf i (by omega)]) i hi
    have P5 : endS M 5 = U 5 := Pf 5 (by omega) (by omega) (by omega) (by omega)
    refine ⟨fun j hj => ?_, ha.2.1.to (fun i j hi => dr i j (by omega) (by omega) (by omega) (by omega) (by omega)) P5 hU.m6.1 (fun j _ _ => Pf j (by omega) (by omega) (by omega) (by omega)), fun j hj => ?_, ha.2.2.2.1.to (fun j => dr 4 j (by omega) (by omega) (by omega) (by omega) (by omega)) hU.m6.2 (fun r hr => Pf _ (by omega) (by omega) (by omega) (by omega)) (fun j _ _ => Pf j (by omega) (by omega) (by omega) (by omega)), fun j hj => ?_, fun d hd => ?_, ha.2.2.2.2.2.2.1.to (fun j => dr 7 j (by omega) (by omega) (by omega) (by omega) (by omega)) (Pf 7 (by omega) (by omega) (by omega) (by omega)) (h67_le hU).2 (fun j _ _ => Pf j (by omega) (by omega) (by omega) (by omega)), fun k hk hk2 => ?_, d4⟩
    · by_cases q4 : j = 4
      · rw [q4, d2, P4, Ff 4 (by omega)]
      · by_cases q6 : j = 6
        · rw [q6, d1 0 6 (by omega) (by omega), c2, Pd 6 (by omega)]
        · rw [dr 0 j (by omega) (by omega) (by omega) (by omega) (by omega), Pf j q4 q6 (by omega) (by omega)]
          exact ha.1 j hj
    · rw [d3 j hj]
      by_cases q3 : j % 4 = 3
      · rw [relC_far (by omega), Pf _ (by omega) (by omega) (by omega) (by omega), Ff _ (by omega)]
      · obtain ⟨r, hr, hj'⟩ : ∃ r, r < 4 ∧ (j = 4 * r ∨ j = 4 * r + 1 ∨ j = 4 * r + 2) := ⟨j / 4, by omega, by omega⟩
        obtain ⟨x1, x2, x3⟩ := endS_r (S := M) M6 hr
        obtain ⟨y1, y2, y3⟩ := relC_at (S := F) (k := 4) hr
        have e1 : rO M r = rO F r := by unfold rO; rw [Mf _ (by omega), Mf _ (by omega)]
        have e2 : rP M r = rP F r := by unfold rP; rw [Mf _ (by omega), Mf _ (by omega)]
        have e3 : rL M r = rL F r := by unfold rL; rw [Mf _ (by omega), Mf _ (by omega)]
        rcases hj' with e | e | e
        · rw [e, x1, y1]
          unfold rC
          have et : tgS M r (rO M r) = tgS F r (rO F r) := by
            have en : nxF M r (M 5) 0 = nxF F r (F 5) 0 := by
              rw [Mf 5 (by omega)]
              exact nxF_congr fun i _ hi => by have := hF.m6.1; exact ⟨Mf _ (by omega), Mf _ (by omega), Mf _ (by omega)⟩
            unfold tgS
            rw [en, e1]
            cases hx : nxF F r (F 5) 0 with
            | none => rfl
            | some c =>
              obtain ⟨-, z2, -, z4, z5⟩ := nxF_some hx
              have hcu := (hF.2.2.1.1 c (by omega)).2.1.2.2.1 z4
              rw [z5] at hcu
              have hm6 := hF.m6.2 r hr
              have h5l := hF.m6.1
              simp only
              rw [Mf _ (by omega), begS_congr (S := F) (S' := M) (fun i hi => Mf _ (by omega))]
          rw [et, e1, e2, Mf 0 (by omega)]
        · rw [e, show 128 + (4 * r + 1) = 128 + 4 * r + 1 by omega, x2, y2, e2]
        · rw [e, show 128 + (4 * r + 2) = 128 + 4 * r + 2 by omega, x3, y3, e3]
    · rw [d1 5 j (by omega) (by omega), c1 5 j (by omega) (by omega) (by omega), b2 j hj, endS_far M6 (by omega) (by omega) (by omega), Mf _ (by omega)]
    · rw [Pd 6 (by omega)] at hd
      have hle := (faF_ok (N := F 4) (F 6) 0 0 F (Nat.le_refl _) (fun e he => by omega) (fun e _ he => (show dOk (F 4) F e from hF.2.2.2.2.2.2.1.2 e (by omega)))).1
      rw [d1 6 d (by omega) (by omega), c3 d hd]
      unfold wv
      rw [Pd _ (by omega), Pd _ (by omega), Pd _ (by omega)]
    · rw [P4] at hk hk2
      rw [d1 8 _ (by omega) (by omega)]
      by_cases e : k = U 4
      · rw [e, endS_far M6 (by omega) (by omega) (by omega), eM', upN_eq, ← Ff 4 (by omega), c4]
      · rw [c5 _ (by rw [Ff 4 (by omega)]; omega), b1 _ _ (by omega), Pf _ (by omega) (by omega) (by omega) (by omega)]
        exact ha.2.2.2.2.2.2.2.1 k (by omega) (by omega)
  · show G6 fl len X I a fl T 0 0 = _
    rw [p0, pa]
    have e0 : hreS F 0 = 0 := rfl
    have e1 : hdoS F 0 = 0 := rfl
    rw [e0] at pb
    rw [e1, Nat.add_zero] at pc
    rw [pb, pc]
    exact pd
end CI
