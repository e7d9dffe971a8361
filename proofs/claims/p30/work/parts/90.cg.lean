/-! ===== a second of the law: cues, levels ===== -/
section CG
variable {fl : Nat} {len : Nat → Nat} {X : Xm} {I : Im} {a : Nat}
noncomputable def G6 (fl : Nat) (len : Nat → Nat) (X : Xm) (I : Im) (a n : Nat) (T : Nat → Nat → Nat) (m c : Nat) : Option (Int32 × Im) := m9_goes_6 fl len X n (mL I a T) a (a + 1) (a + 2) (a + 3) (a + 4) (a + 5) (a + 6) (a + 7) (a + 8) (nI m) (nI c)
noncomputable def G71 (fl : Nat) (len : Nat → Nat) (X : Xm) (I : Im) (a n : Nat) (T : Nat → Nat → Nat) (m s k : Nat) : Option (Int32 × Im) := m9_goes_71 fl len X n (mL I a T) a (a + 2) (a + 3) (a + 4) (a + 5) (a + 6) (a + 8) (nI m) (nI s) (nI k)
noncomputable def G175 (fl : Nat) (len : Nat → Nat) (X : Xm) (I : Im) (a n : Nat) (T : Nat → Nat → Nat) (m s l d : Nat) : Option (Int32 × Im) := m9_goes_175 fl len X n (mL I a T) a (a + 2) (a + 3) (a + 4) (a + 5) (a + 6) (a + 8) (nI m) (nI s) (nI l) (nI d)
noncomputable def G277 (fl : Nat) (len : Nat → Nat) (X : Xm) (I : Im) (a n : Nat) (T : Nat → Nat → Nat) (m k : Nat) : Option (Int32 × Im) := m9_goes_277 fl len X n (mL I a T) a (a + 2) (a + 3) (a + 4) (nI m) (nI k)
theorem g6_end (hL : LL len a) {S : Nat → Nat} {K : Nat} {T : Nat → Nat → Nat} (e5 : T 0 5 = S 5) (hv : Iv S K) {m n : Nat} : G6 fl len X I a (n + 1) T m (S 5) = G71 fl len X I a fl T m 0 0 := by
  have h5 := hv.m6.1
  show m9_goes_6b fl len X (m9_goes_6 fl len X n) _ _ _ _ _ _ _ _ _ _ _ _ = _
  rw [m9_goes_6b, hL.1, L5, ck_inb _ (by omega) (by omega), nI_clamp (by omega), gA_mL0, e5, if_pos (by rw [nI_leI (by omega) (by omega)]; omega)]
  rfl
theorem g6_skip (hL : LL len a) {S : Nat → Nat} {K : Nat} {T : Nat → Nat → Nat} (h : LT T S) (hv : Iv S K) {m n c : Nat} (hc : c < S 5) (hs : ¬ (S (8 + 5 * c) = S 4 ∧ S (8 + 5 * c + 4) = 0)) : G6 fl len X I a (n + 1) T m c = G6 fl len X I a n T m (c + 1) := by
  have h5 := hv.m6.1
  have h4 := hv.2.1.1
  have e5 := h.1 5 (by omega)
  have e4 := h.1 4 (by omega)
  obtain ⟨e1, e2⟩ := h.2.1 c hc
  obtain ⟨⟨v1, v2, v3, v4⟩, ⟨b1, b2, b3, b4⟩, b5⟩ := cv_ok hv hc
  have hsec := (hv.2.2.1.1 c hc).1
  obtain ⟨l0, l1, l2, l3, l4, l5, l6, l7, l8⟩ := hL
  have fin : m9_goes_55 fl len X (m9_goes_6 fl len X n) (mL I a T) a (a + 1) (a + 2) (a + 3) (a + 4) (a + 5) (a + 6) (a + 7) (a + 8) (nI c) (nI m) = G6 fl len X I a n T m (c + 1) := by
    rw [m9_goes_55, m9_goes_56, L0, nI_add, lt_e, L1, nI_add, lt_e]
    rfl
  show m9_goes_6b fl len X (m9_goes_6 fl len X n) _ _ _ _ _ _ _ _ _ _ _ _ = _
  rw [m9_goes_6b, l0, L5, ck_inb _ (by omega) (by omega), nI_clamp (by omega), gA_mL0, e5, if_neg (by rw [nI_leI (by omega) (by omega)]; omega), l1, ck_inb _ (by omega) (by omega), L4, ck_inb _ (by omega) (by omega), nI_clamp (by omega), nI_clamp (by omega), gA_mL (by omega), gA_mL0, e1, e4, l2, ck_inb _ (by omega) (by omega), gA_mL (by omega), e2]
  by_cases c1 : S (8 + 5 * c) = S 4
  · rw [if_pos (by rw [c1]), if_pos (by rw [L2048, nI_leI (by omega) (by omega)]; omega)]
    exact fin
  · rw [if_neg (by rw [nI_eq (by omega) (by omega)]; exact c1)]
    exact fin
theorem g6_come (hfl : 10000 ≤ fl) (hL : LL len a) {S : Nat → Nat} {K : Nat} {T : Nat → Nat → Nat} (h : LT T S) (hv : Iv S K) {m n : Nat} (hK : K < S 5) (hs : S (8 + 5 * K) = S 4) : G6 fl len X I a (n + 1) T m K = G6 fl len X I a n (up2 (cmT T S K) 2 K (cv S K + 2048 * comeA S K)) (m + if comeA S K ≤ 1 then 0 else 1) (K + 1) := by
  have h5 := hv.m6.1
  have h4 := hv.2.1.1
  have e5 := h.1 5 (by omega)
  have e4 := h.1 4 (by omega)
  obtain ⟨e1, e2⟩ := h.2.1 K hK
  obtain ⟨⟨v1, v2, v3, v4⟩, ⟨b1, b2, b3, b4⟩, b5⟩ := cv_ok hv hK
  have hst := (hv.2.2.1.1 K hK).2.2.2.1.mpr (Nat.le_refl _)
  have gc := g_comes (fl := fl) (len := len) (X := X) (I := I) hfl hL h hv hK
  obtain ⟨l0, l1, l2, l3, l4, l5, l6, l7, l8⟩ := hL
  show m9_goes_6b fl len X (m9_goes_6 fl len X n) _ _ _ _ _ _ _ _ _ _ _ _ = _
  rw [m9_goes_6b, l0, L5, ck_inb _ (by omega) (by omega), nI_clamp (by omega), gA_mL0, e5, if_neg (by rw [nI_leI (by omega) (by omega)]; omega), l1, ck_inb _ (by omega) (by omega), L4, ck_inb _ (by omega) (by omega), nI_clamp (by omega), nI_clamp (by omega), gA_mL (by omega), gA_mL0, e1, e4, l2, ck_inb _ (by omega) (by omega), gA_mL (by omega), e2, if_pos (by rw [hs]), if_neg (by rw [L2048, nI_leI (by omega) (by omega)]; omega), gc, nn_s]
  simp only
  rw [m9_goes_56, nI_add, lt_e, L1, nI_add, lt_e]
  rfl
theorem g6_rest (hL : LL len a) {S : Nat → Nat} {K : Nat} {T : Nat → Nat → Nat} (h : LT T S) (hv : Iv S K) {m : Nat} : ∀ (j c n : Nat), c + j = S 5 → j < n → (∀ d, c ≤ d → d < S 5 → S (8 + 5 * d) ≠ S 4) → G6 fl len X I a n T m c = G71 fl len X I a fl T m 0 0
  | 0, c, n, hj, hn, _ => by
    obtain ⟨n, rfl⟩ : ∃ n', n = n' + 1 := ⟨n - 1, by omega⟩
    rw [show c = S 5 by omega]
    exact g6_end hL (h.1 5 (by omega)) hv
  | j + 1, c, n, hj, hn, hs => by
    obtain ⟨n, rfl⟩ : ∃ n', n = n' + 1 := ⟨n - 1, by omega⟩
    rw [g6_skip hL h hv (by omega) (fun q => hs c (Nat.le_refl _) (by omega) q.1)]
    exact g6_rest hL h hv j (c + 1) n (by omega) (by omega) (fun d h1 h2 => hs d (by omega) h2)
theorem g6_comes (hfl : 10000 ≤ fl) (hL : LL len a) : ∀ (j K n m : Nat) (S : Nat → Nat) (T : Nat → Nat → Nat), K + j = S 5 → j < n → Iv S K → LT T S → ∃ T', LT T' (cK j K S m).1 ∧ G6 fl len X I a n T m K = G71 fl len X I a fl T' (cK j K S m).2.2 0 0
  | 0, K, n, m, S, T, hj, hn, hv, h => ⟨T, h, g6_rest hL h hv 0 K n (by omega) hn (fun d h1 h2 => by omega)⟩
  | j + 1, K, n, m, S, T, hj, hn, hv, h => by
    obtain ⟨n, rfl⟩ : ∃ n', n = n' + 1 := ⟨n - 1, by omega⟩
    have hK : K < S 5 := by omega
    unfold cK
    by_cases hs : S (8 + 5 * K) = S 4
    · rw [if_pos hs]
      obtain ⟨T', h1, h2⟩ := g6_comes hfl hL j (K + 1) n (m + if comeA S K ≤ 1 then 0 else 1) (stepS S K) (up2 (cmT T S K) 2 K (cv S K + 2048 * comeA S K)) (by rw [(step_5 hv hK).1]; omega) (by omega) (hv.step hK hs) (h.step hv hK)
      refine ⟨T', h1, ?_⟩
      rw [g6_come hfl hL h hv hK hs]
      exact h2
    · rw [if_neg hs]
      refine ⟨T, h, g6_rest hL h hv (j + 1) K (n + 1) hj hn (fun d h1 h2 => ?_)⟩
      have h3 := hv.2.2.1.le h1 h2
      have h4 := (hv.2.2.1.1 K hK).2.2.2.2.2 (Nat.le_refl _)
      omega
theorem g6_past (hL : LL len a) {S : Nat → Nat} {K : Nat} {T : Nat → Nat → Nat} (h : LT T S) (hv : Iv S K) {m : Nat} : ∀ (j c n : Nat), c + j = K → G6 fl len X I a (n + j) T m c = G6 fl len X I a n T m K
  | 0, c, n, hj => by rw [show c = K by omega]; rfl
  | j + 1, c, n, hj => by
    have hKn := hv.2.1.2.1
    have e := g6_skip (fl := fl) (len := len) (X := X) (I := I) (a := a) hL h hv (m := m) (n := n + j) (c := c) (by omega) (fun q => by
      have := (hv.2.2.1.1 c (by omega)).2.2.2.1.mp q.2
      omega)
    exact e.trans (g6_past hL h hv j (c + 1) n (by omega))
/-- levels, and what the reels give -/
theorem g71_go (hfl : 10000 ≤ fl) (hL : LL len a) {U : Nat → Nat} {K m : Nat} (hv : Iv U K) {T0' : Nat → Nat → Nat} (h : LT T0' U) : ∀ (j k n : Nat) (T : Nat → Nat → Nat), k + j = 4 → j < n → (∀ i j, i ≠ 5 → T i j = T0' i j) → (∀ j, j < 8 → T 5 j = fadC U k (216 + j)) → BT T → ∃ T', (∀ i j, i ≠ 5 → T' i j = T0' i j) ∧ (∀ j, j < 8 → T' 5 j = fadC U 4 (216 + j)) ∧ BT T' ∧ G71 fl len X I a n T m (hreS (fadC U 4) k) k = G175 fl len X I a fl T' m (hreS (fadC U 4) 4) 0 0
  | 0, k, n, T, hj, hn, h1, h2, h3 => by
    obtain ⟨n, rfl⟩ : ∃ n', n = n' + 1 := ⟨n - 1, by omega⟩
    have hk : k = 4 := by omega
    refine ⟨T, h1, fun j hj => by rw [h2 j hj, hk], h3, ?_⟩
    show m9_goes_71b fl len X (m9_goes_71 fl len X n) _ _ _ _ _ _ _ _ _ _ _ = _
    rw [m9_goes_71b, if_pos (by rw [L4, nI_leI (by omega) (by omega)]; omega), hk]
    rfl
  | j + 1, k, n, T, hj, hn, h1, h2, h3 => by
    obtain ⟨n, rfl⟩ : ∃ n', n = n' + 1 := ⟨n - 1, by omega⟩
    have hk : k < 4 := by omega
    have hF := hv.fade
    have hB := hv.2.2.2.2.2.2.2.2
    have iH := hv.2.2.2.2.2.1 k hk
    have iH2 := hF.2.2.2.2.2.1 k hk
    have iA := hv.1.2.2.1
    have iR := hv.2.2.2.1 k hk
    obtain ⟨l0, l1, l2, l3, l4, l5, l6, l7, l8⟩ := id hL
    have f1 : T 5 (2 * k) = U (216 + 2 * k) := by rw [h2 _ (by omega), fadC_far (by omega)]
    have f2 : T 5 (2 * k + 1) = U (216 + 2 * k + 1) := by rw [h2 _ (by omega), fadC_far (by omega), show 216 + (2 * k + 1) = 216 + 2 * k + 1 by omega]
    have f3 : T 0 2 = U 2 := by rw [h1 0 2 (by omega)]; exact h.1 2 (by omega)
    have f4 : ∀ i, i < 16 → T 3 i = U (128 + i) := fun i hi => by rw [h1 3 i (by omega)]; exact h.2.2.1 i hi
    have g1 : fadC U 4 (216 + 2 * k) = nearS (U (216 + 2 * k)) (U (216 + 2 * k + 1)) (U 2) := by
      unfold fadC
      rw [if_pos (by omega)]
    obtain ⟨T1', eT1⟩ : ∃ y, y = up2 T 5 (2 * k) (fadC U 4 (216 + 2 * k)) := ⟨_, rfl⟩
    have r1 : ∀ i j, i ≠ 5 → T1' i j = T i j := fun i j hi => by rw [eT1, up2_i hi]
    have r2 : ∀ j, j < 8 → T1' 5 j = fadC U (k + 1) (216 + j) := fun j hj => by
      rw [eT1]
      by_cases e : j = 2 * k
      · rw [e, up2_s]
        unfold fadC
        rw [if_pos (by omega), if_pos (by omega)]
      · rw [up2_j e, h2 j hj]
        unfold fadC
        by_cases q : 216 ≤ 216 + j ∧ 216 + j < 216 + 2 * k ∧ (216 + j) % 2 = 0
        · rw [if_pos q, if_pos (by omega)]
        · rw [if_neg q, if_neg (by omega)]
    obtain ⟨T', a1, a2, a3, a4⟩ := g71_go hfl hL hv h j (k + 1) n T1' (by omega) (by omega) (fun i j hi => by rw [r1 i j hi, h1 i j hi]) r2 (by rw [eT1]; exact h3.up (by omega))
    refine ⟨T', a1, a2, a3, ?_⟩
    rw [← a4]
    have e2 : (2 : Int32) * nI k = nI (2 * k) := by rw [L2, nI_mul]
    have e2' : nI (2 * k) + (1 : Int32) = nI (2 * k + 1) := by rw [L1, nI_add]
    have e4' : (4 : Int32) * nI k + (1 : Int32) = nI (4 * k + 1) := by rw [L4, L1, nI_mul, nI_add]
    have e6' : (6 : Int32) * nI k = nI (6 * k) := by rw [L6, nI_mul]
    have hp : T1' 3 (4 * k + 1) = U (128 + 4 * k + 1) := by rw [r1 _ _ (by omega), f4 _ (by omega), show 128 + (4 * k + 1) = 128 + 4 * k + 1 by omega]
    have hpF : fadC U 4 (128 + 4 * k + 1) = U (128 + 4 * k + 1) := fadC_far (by omega)
    have hlev : T1' 5 (2 * k) = fadC U 4 (216 + 2 * k) := by rw [eT1, up2_s]
    have fin : ∀ x : Nat, m9_goes_160 fl len X (m9_goes_71 fl len X n) (mL I a T1') a (a + 2) (a + 3) (a + 4) (a + 5) (a + 6) (a + 8) (nI m) (nI k) (nI (hreS (fadC U 4) k)) (nI x) = G71 fl len X I a n T1' m (hreS (fadC U 4) k + x) (k + 1) := fun x => by
      rw [m9_goes_160, nI_add, lt_e, L1, nI_add, lt_e]
      rfl
    show m9_goes_71b fl len X (m9_goes_71 fl len X n) _ _ _ _ _ _ _ _ _ _ _ = _
    rw [m9_goes_71b, if_neg (by rw [L4, nI_leI (by omega) (by omega)]; omega), e2, e2', e4', e6', l5, ck_inb _ (by omega) (by omega), ck_inb _ (by omega) (by omega), l0, L2, ck_inb _ (by omega) (by omega), nI_clamp (by omega), nI_clamp (by omega), nI_clamp (by omega), gA_mL (by omega), gA_mL (by omega), gA_mL0, f1, f2, f3, g_toward (by omega) (by omega) (by omega), nn_s, ← g1, pA_mL (by omega), lt_e, ← eT1, l3, ck_inb _ (by omega) (by omega), nI_clamp (by omega), gA_mL (by omega), hp]
    by_cases hz : U (128 + 4 * k + 1) = 0
    · rw [if_pos (by rw [hz]; decide), hreS_0 (by rw [hpF]; exact hz)]
      exact fin 0
    · have hsn : U (128 + 4 * k + 1) - 1 < U (128 + 4 * k + 3) := by omega
      have hm6 := hv.m6.2 k hk
      have eu := h.2.2.2.1 k hk _ hsn
      obtain ⟨⟨u1, u2, u3⟩, ⟨w1, w2, w3⟩, w4⟩ := uv_ok hv (r := k) (k := U (128 + 4 * k + 1) - 1) hk hsn
      have hm : U (144 + 3 * (6 * k + (U (128 + 4 * k + 1) - 1)) + 1) * fadC U 4 (216 + 2 * k) ≤ 99 * 100 := Nat.mul_le_mul w2 iH2.1
      rw [if_neg (by rw [L0, nI_leI (by omega) (by omega)]; omega), nI_add, L1, nI_sub (by omega), l4, show 6 * k + U (128 + 4 * k + 1) - 1 = 6 * k + (U (128 + 4 * k + 1) - 1) by omega, ck_inb _ (by omega) (by omega), nI_clamp (by omega), gA_mL (by omega), r1 _ _ (by omega), h1 _ _ (by omega), eu, gA_mL (by omega), hlev, L64, nI_div (by omega) (by omega), L128, nI_mod (by omega) (by omega), u2, nI_mul, L50, nI_div (by omega) (by omega), hreS_1 (by rw [hpF]; exact hz), hpF]
      unfold giveS
      rw [show fadC U 4 (144 + 3 * (6 * k + (U (128 + 4 * k + 1) - 1)) + 1) = U (144 + 3 * (6 * k + (U (128 + 4 * k + 1) - 1)) + 1) from fadC_far (by omega)]
      exact fin _
end CG
