/-! ===== a second of the law: doors, reels; the whole second ===== -/
section CH
variable {fl : Nat} {len : Nat → Nat} {X : Xm} {I : Im} {a : Nat}
theorem g175_go (hL : LL len a) {F : Nat → Nat} {K m : Nat} (hv : Iv F K) : ∀ (j d l n : Nat) (W : Nat → Nat) (T : Nat → Nat → Nat), d + j = F 6 → l ≤ d → j < n → T 0 6 = F 6 → T 0 4 = F 4 → (∀ j, j < 8 → T 5 j = F (216 + j)) → (∀ e, e < l ∨ (d ≤ e ∧ e < F 6) → T 6 e = wv W e) → (∀ e, d ≤ e → e < F 6 → W (224 + 3 * e) = F (224 + 3 * e) ∧ W (224 + 3 * e + 1) = F (224 + 3 * e + 1) ∧ W (224 + 3 * e + 2) = F (224 + 3 * e + 2)) → BT T →
    ∃ T', (∀ i j, i ≠ 6 → i ≠ 8 → (i ≠ 0 ∨ j ≠ 6) → T' i j = T i j) ∧ T' 0 6 = faF j d l W 6 ∧ (∀ e, e < faF j d l W 6 → T' 6 e = wv (faF j d l W) e) ∧ T' 8 (F 4 % 64) = hearS F ∧ (∀ j, j ≠ F 4 % 64 → T' 8 j = T 8 j) ∧ BT T' ∧ G175 fl len X I a n T m (hreS F 4 + hdoS F d) l d = G277 fl len X I a fl T' m 0
  | 0, d, l, n, W, T, hj, hl, hn, h6, h4, h5, hW, hd, hB => by
    obtain ⟨n, rfl⟩ : ∃ n', n = n' + 1 := ⟨n - 1, by omega⟩
    have h67 := h67_le hv
    have hh := hearS_le hv.okH
    have hn4 := hv.2.1.1
    obtain ⟨l0, l1, l2, l3, l4, l5, l6, l7, l8⟩ := id hL
    have e6 : faF 0 d l W 6 = l := by unfold faF; rw [upN_eq]
    refine ⟨up2 (up2 T 0 6 l) 8 (F 4 % 64) (hearS F), fun i j h1 h2 h3 => ?_, ?_, fun e he => ?_, up2_s, fun j hj2 => ?_, (hB.up (by omega)).up (by omega), ?_⟩
    · rw [up2_i h2]
      rcases h3 with h3 | h3
      · rw [up2_i h3]
      · rw [up2_j h3]
    · rw [up2_i (by omega), up2_s, e6]
    · rw [e6] at he
      rw [up2_i (by omega), up2_i (by omega), hW e (Or.inl he)]
      unfold wv faF
      rw [upN_ne (by omega), upN_ne (by omega), upN_ne (by omega)]
    · rw [up2_j hj2, up2_i (by omega)]
    · show m9_goes_175b fl len X (m9_goes_175 fl len X n) _ _ _ _ _ _ _ _ _ _ _ _ = _
      rw [m9_goes_175b, l0, L6, ck_inb _ (by omega) (by omega), nI_clamp (by omega), gA_mL0, h6, if_pos (by rw [nI_leI (by omega) (by omega)]; omega), pA_mL0, lt_e, L4, ck_inb _ (by omega) (by omega), nI_clamp (by omega), gA_mL0, up2_j (by omega), h4, L64, nI_mod (by omega) (by omega), l8, ck_inb _ (by omega) (by omega), nI_clamp (by omega), pA_mL (by omega), lt_e, show hreS F 4 + hdoS F d = hearS F by unfold hearS; rw [show d = F 6 by omega]]
      rfl
  | j + 1, d, l, n, W, T, hj, hl, hn, h6, h4, h5, hW, hd, hB => by
    obtain ⟨n, rfl⟩ : ∃ n', n = n' + 1 := ⟨n - 1, by omega⟩
    have h67 := h67_le hv
    have hdF : d < F 6 := by omega
    obtain ⟨q0, q1, q2⟩ := hd d (Nat.le_refl _) hdF
    obtain ⟨⟨v1, v2, v3⟩, ⟨b1, b2, b3, b4⟩, b5⟩ := wv_ok hv hdF
    have eW : wv W d = wv F d := by unfold wv; rw [q0, q1, q2]
    have eT : T 6 d = wv F d := by rw [hW d (Or.inr ⟨Nat.le_refl _, hdF⟩), eW]
    have hw : wv F d = F (224 + 3 * d) + 4 * F (224 + 3 * d + 1) + 512 * F (224 + 3 * d + 2) := rfl
    have iH := hv.2.2.2.2.2.1 (F (224 + 3 * d)) (by omega)
    obtain ⟨l0, l1, l2, l3, l4, l5, l6, l7, l8⟩ := id hL
    obtain ⟨W1, eW1⟩ : ∃ y, y = upN (upN (upN W (224 + 3 * l) (W (224 + 3 * d))) (224 + 3 * l + 1) (W (224 + 3 * d + 1))) (224 + 3 * l + 2) (W (224 + 3 * d + 2) - 1) := ⟨_, rfl⟩
    obtain ⟨x, ex⟩ : ∃ x, x = if W (224 + 3 * d + 2) - 1 = 0 then 0 else 1 := ⟨_, rfl⟩
    have ef : faF (j + 1) d l W = faF j (d + 1) (l + x) W1 := by rw [eW1, ex]; rfl
    have hx : x ≤ 1 := by rw [ex]; split <;> omega
    have w1o : ∀ e, e ≠ l → W1 (224 + 3 * e) = W (224 + 3 * e) ∧ W1 (224 + 3 * e + 1) = W (224 + 3 * e + 1) ∧ W1 (224 + 3 * e + 2) = W (224 + 3 * e + 2) := fun e he => by
      rw [eW1]
      refine ⟨?_, ?_, ?_⟩ <;> rw [upN_ne (by omega), upN_ne (by omega), upN_ne (by omega)]
    have w1l : wv W1 l = wv F d - 512 := by
      unfold wv
      rw [eW1, upN_eq, upN_ne (j := 224 + 3 * l) (by omega), upN_ne (j := 224 + 3 * l) (by omega), upN_eq, upN_ne (j := 224 + 3 * l + 1) (by omega), upN_eq, q0, q1, q2]
      omega
    obtain ⟨T', a1, a2, a3, a4, a5, a6, a7⟩ := g175_go hL hv j (d + 1) (l + x) n W1 (up2 T 6 l (wv F d - 512)) (by omega) (by omega) (by omega) (by rw [up2_i (by omega), h6]) (by rw [up2_i (by omega), h4]) (fun j hj => by rw [up2_i (by omega), h5 j hj]) (fun e he => by
      by_cases e1 : e = l
      · rw [e1, up2_s, w1l]
      · rw [up2_j e1, hW e (by omega)]
        unfold wv
        obtain ⟨y0, y1, y2⟩ := w1o e e1
        rw [y0, y1, y2]) (fun e h1 h2 => by
      obtain ⟨y0, y1, y2⟩ := w1o e (by omega)
      rw [y0, y1, y2]
      exact hd e (by omega) h2) (hB.up (by omega))
    rw [ef]
    refine ⟨T', fun i j h1 h2 h3 => by rw [a1 i j h1 h2 h3, up2_i h1], a2, a3, a4, fun j hj => by rw [a5 j hj, up2_i (by omega)], a6, ?_⟩
    rw [← a7]
    have hg : hdoS F (d + 1) = hdoS F d + F (224 + 3 * d + 1) * F (216 + 2 * F (224 + 3 * d)) / 50 := rfl
    have hm : F (224 + 3 * d + 1) * F (216 + 2 * F (224 + 3 * d)) ≤ 99 * 100 := Nat.mul_le_mul b2 iH.1
    have fin : m9_goes_248 fl len X (m9_goes_175 fl len X n) (mL I a (up2 T 6 l (wv F d - 512))) a (a + 2) (a + 3) (a + 4) (a + 5) (a + 6) (a + 8) (nI m) (nI (hreS F 4 + hdoS F d + F (224 + 3 * d + 1) * F (216 + 2 * F (224 + 3 * d)) / 50)) (nI d) (nI l) (nI x) = G175 fl len X I a n (up2 T 6 l (wv F d - 512)) m (hreS F 4 + hdoS F (d + 1)) (l + x) (d + 1) := by
      rw [m9_goes_248, nI_add, lt_e, L1, nI_add, lt_e, hg, Nat.add_assoc]
      rfl
    show m9_goes_175b fl len X (m9_goes_175 fl len X n) _ _ _ _ _ _ _ _ _ _ _ _ = _
    rw [m9_goes_175b, l0, L6, ck_inb _ (by omega) (by omega), nI_clamp (by omega), gA_mL0, h6, if_neg (by rw [nI_leI (by omega) (by omega)]; omega), l6, ck_inb _ (by omega) (by omega), nI_clamp (by omega), gA_mL (by omega), eT, L4, nI_mod (by omega) (by omega), v1, L2, nI_mul, l5, ck_inb _ (by omega) (by omega), nI_clamp (by omega), gA_mL (by omega), h5 _ (by omega), nI_div (by omega) (by omega), L128, nI_mod (by omega) (by omega), v2, nI_mul, L50, nI_div (by omega) (by omega), nI_add, lt_e, ck_inb _ (by omega) (by omega), L512, nI_sub (by omega), nI_clamp (by omega), pA_mL (by omega), lt_e, gA_mL (by omega), up2_s]
    by_cases hz : W (224 + 3 * d + 2) - 1 = 0
    · have hx0 : x = 0 := by rw [ex, if_pos hz]
      rw [if_neg (by rw [nI_leI (by omega) (by omega)]; omega)]
      rw [hx0] at fin ⊢
      exact fin
    · have hx1 : x = 1 := by rw [ex, if_neg hz]
      rw [if_pos (by rw [nI_leI (by omega) (by omega)]; omega)]
      rw [hx1] at fin ⊢
      exact fin
theorem g347 (hfl : 10000 ≤ fl) (hL : LL len a) {F : Nat → Nat} {K m k : Nat} {T : Nat → Nat → Nat} (hv : Iv F K) (hk : k < 4) (e0 : T 0 0 = F 0) (e5 : T 0 5 = F 5) (h1 : T1 T F) (h4 : T4 T F) (a0 : T 3 (4 * k) = rO F k) (a1 : T 3 (4 * k + 1) = rP F k) (hB : BT T) (zr : Im → Nat → Nat → Nat → Nat → Int32 → Int32 → Option (Int32 × Im)) :
    ∃ T', (∀ i j, (i ≠ 3 ∨ j ≠ 4 * k) → T' i j = T i j) ∧ T' 3 (4 * k) = rC F k ∧ BT T' ∧ m9_goes_347 fl len X zr (mL I a T) a (a + 2) (a + 3) (a + 4) (nI m) (nI k) = zr (mL I a T') a (a + 2) (a + 3) (a + 4) (nI m) (nI (k + 1)) := by
  have hr := rO_le hv.2.2.2.1 hk
  have hr2 := hv.2.2.2.1 k hk
  have hs0 := hv.1.1
  have gn := g_next (fl := fl) (len := len) (X := X) (I := I) hfl hL e5 h1 hv hk
  have h5 := hv.m6.1
  obtain ⟨l0, l1, l2, l3, l4, l5, l6, l7, l8⟩ := id hL
  have e4' : (4 : Int32) * nI k + (1 : Int32) = nI (4 * k + 1) := by rw [L4, L1, nI_mul, nI_add]
  have e4 : (4 : Int32) * nI k = nI (4 * k) := by rw [L4, nI_mul]
  have fin : ∀ T' : Nat → Nat → Nat, m9_goes_408 fl len X zr (mL I a T') a (a + 2) (a + 3) (a + 4) (nI m) (nI k) = zr (mL I a T') a (a + 2) (a + 3) (a + 4) (nI m) (nI (k + 1)) := fun T' => by rw [m9_goes_408, L1, nI_add, lt_e]
  have start : m9_goes_347 fl len X zr (mL I a T) a (a + 2) (a + 3) (a + 4) (nI m) (nI k) = if nI (rP F k) = 0 then (if oI (nxF F k (F 5) 0) < 0 then m9_goes_408 fl len X zr (mL I a T) a (a + 2) (a + 3) (a + 4) (nI m) (nI k) else ck (inb (oI (nxF F k (F 5) 0)) (len (a + 2)) = true) <| nn (m9_begins fl len X (mL I a T) (a + 4) (nI k) ((gA (mL I a T) (a + 2) (oI (nxF F k (F 5) 0)).toNatClampNeg) / (16 : Int32) - ((gA (mL I a T) (a + 2) (oI (nxF F k (F 5) 0)).toNatClampNeg) / (16 : Int32)) / (128 : Int32) * (128 : Int32))) fun zv8 => ck (inb (0 : Int32) (len a) = true) <| nn (m9_toward fl len X (mL I a T) (nI (rO F k)) zv8 (gA (mL I a T) a (0 : Int32).toNatClampNeg)) fun zv11 => lt (pA (mL I a T) (a + 3) (4 * k) zv11) fun zI13 => m9_goes_408 fl len X zr zI13 a (a + 2) (a + 3) (a + 4) (nI m) (nI k)) else m9_goes_408 fl len X zr (mL I a T) a (a + 2) (a + 3) (a + 4) (nI m) (nI k) := by
    rw [m9_goes_347, gn, nn_s, e4', e4, l3, ck_inb _ (by omega) (by omega), nI_clamp (by omega), gA_mL (i := 3) (by omega), a1, ck_inb _ (by omega) (by omega), nI_clamp (by omega), gA_mL (i := 3) (by omega), a0]
  rw [start]
  by_cases hp : rP F k = 0
  · rw [if_pos (by rw [hp]; rfl)]
    cases hx : nxF F k (F 5) 0 with
    | none =>
      refine ⟨T, fun _ _ _ => rfl, ?_, hB, ?_⟩
      · rw [a0]
        unfold rC tgS
        rw [if_pos hp, hx, nearS_self]
      · rw [if_pos (by decide)]
        exact fin T
    | some c =>
      obtain ⟨-, y2, y3, y4, y5⟩ := nxF_some hx
      have hc : c < F 5 := by omega
      have e2 := (h1 c hc).2
      obtain ⟨⟨v1, v2, v3, v4⟩, ⟨b1, b2, b3, b4⟩, b5⟩ := cv_ok hv hc
      have hcu := (hv.2.2.1.1 c hc).2.1.2.2.1 y4
      rw [y5] at hcu
      have hm6 := hv.m6.2 k hk
      have hbl := begS_le60 hv.2.2.2.2.1 hk (F (8 + 5 * c + 3)) (by omega)
      have hnr : nearS (rO F k) (begS F k (F (8 + 5 * c + 3))) (F 0) ≤ 360 := nearS_le (by omega) (by omega)
      refine ⟨up2 T 3 (4 * k) (nearS (rO F k) (begS F k (F (8 + 5 * c + 3))) (F 0)), fun i j hij => ?_, ?_, hB.up (by omega), ?_⟩
      · rcases hij with h | h
        · rw [up2_i h]
        · rw [up2_j h]
      · rw [up2_s]
        unfold rC tgS
        rw [if_pos hp, hx]
      · show (if nI c < 0 then _ else ck (inb (nI c) _ = true) _) = _
        rw [if_neg (nI_nneg (by omega)), l2, ck_inb _ (by omega) (by omega)]
        show nn (m9_begins fl len X (mL I a T) (a + 4) (nI k) ((gA (mL I a T) (a + 2) (nI c).toNatClampNeg) / (16 : Int32) - ((gA (mL I a T) (a + 2) (nI c).toNatClampNeg) / (16 : Int32)) / (128 : Int32) * (128 : Int32))) _ = _
        rw [nI_clamp (by omega), gA_mL (by omega), e2, L16, nI_div (by omega) (by omega), L128, nI_mod (by omega) (by omega), v3, g_begins hfl l4 hk (by omega) (h4.begins hv hk (by omega)), nn_s, l0, L0, ck_inb _ (by omega) (by omega), nI_clamp (by omega), gA_mL0, e0, g_toward (by omega) (by omega) (by omega), nn_s, pA_mL (by omega), lt_e]
        exact fin _
  · rw [if_neg (by rw [L0, nI_eq (by omega) (by omega)]; exact hp)]
    refine ⟨T, fun _ _ _ => rfl, ?_, hB, fin T⟩
    rw [a0]
    unfold rC
    rw [if_neg hp]
theorem g277_go (hfl : 10000 ≤ fl) (hL : LL len a) {F : Nat → Nat} {K m : Nat} (hv : Iv F K) {Tb : Nat → Nat → Nat} (e0 : Tb 0 0 = F 0) (e4 : Tb 0 4 = F 4) (e5 : Tb 0 5 = F 5) (h1 : T1 Tb F) (h4 : T4 Tb F) : ∀ (j k n : Nat) (T : Nat → Nat → Nat), k + j = 4 → j < n → (∀ i j, i ≠ 3 → T i j = Tb i j) → (∀ j, j < 16 → T 3 j = relC F k (128 + j)) → BT T →
    ∃ T', (∀ i j, i ≠ 3 → (i ≠ 0 ∨ j ≠ 4) → T' i j = Tb i j) ∧ T' 0 4 = F 4 + 1 ∧ (∀ j, j < 16 → T' 3 j = relC F 4 (128 + j)) ∧ BT T' ∧ G277 fl len X I a n T m k = some (nI m, mL I a T')
  | 0, k, n, T, hj, hn, h2, h3, hB => by
    obtain ⟨n, rfl⟩ : ∃ n', n = n' + 1 := ⟨n - 1, by omega⟩
    have hk : k = 4 := by omega
    have hn4 := hv.2.1.1
    obtain ⟨l0, l1, l2, l3, l4, l5, l6, l7, l8⟩ := id hL
    refine ⟨up2 T 0 4 (F 4 + 1), fun i j q1 q2 => ?_, up2_s, fun j hj => by rw [up2_i (by omega), h3 j hj, hk], hB.up (by omega), ?_⟩
    · rcases q2 with q2 | q2
      · rw [up2_i q2, h2 i j q1]
      · rw [up2_j q2, h2 i j q1]
    · show m9_goes_277b fl len X (m9_goes_277 fl len X n) _ _ _ _ _ _ _ = _
      rw [m9_goes_277b, L4, if_pos (by rw [nI_leI (by omega) (by omega)]; omega), l0, ck_inb _ (by omega) (by omega), nI_clamp (by omega), gA_mL0, h2 0 4 (by omega), e4, L1, nI_add, pA_mL0, lt_e]
  | j + 1, k, n, T, hj, hn, h2, h3, hB => by
    obtain ⟨n, rfl⟩ : ∃ n', n = n' + 1 := ⟨n - 1, by omega⟩
    have hk : k < 4 := by omega
    have hr := rO_le hv.2.2.2.1 hk
    have hr2 := hv.2.2.2.1 k hk
    obtain ⟨l0, l1, l2, l3, l4, l5, l6, l7, l8⟩ := id hL
    have f0 : T 3 (4 * k) = F (128 + 4 * k) := by rw [h3 _ (by omega), relC_far (by omega)]
    have f1 : T 3 (4 * k + 1) = F (128 + 4 * k + 1) := by rw [h3 _ (by omega), relC_far (by omega), show 128 + (4 * k + 1) = 128 + 4 * k + 1 by omega]
    have f2 : T 3 (4 * k + 2) = F (128 + 4 * k + 2) := by rw [h3 _ (by omega), relC_far (by omega), show 128 + (4 * k + 2) = 128 + 4 * k + 2 by omega]
    have e4' : (4 : Int32) * nI k + (1 : Int32) = nI (4 * k + 1) := by rw [L4, L1, nI_mul, nI_add]
    have e4'' : (4 : Int32) * nI k + (2 : Int32) = nI (4 * k + 2) := by rw [L4, L2, nI_mul, nI_add]
    have e4k : (4 : Int32) * nI k = nI (4 * k) := by rw [L4, nI_mul]
    -- behind the playing
    have step : ∃ T2, (∀ i j, i ≠ 3 → T2 i j = T i j) ∧ (∀ j, j < 16 → j ≠ 4 * k → j ≠ 4 * k + 1 → j ≠ 4 * k + 2 → T2 3 j = T 3 j) ∧ T2 3 (4 * k) = rO F k ∧ T2 3 (4 * k + 1) = rP F k ∧ T2 3 (4 * k + 2) = rL F k ∧ BT T2 ∧ G277 fl len X I a (n + 1) T m k = m9_goes_347 fl len X (m9_goes_277 fl len X n) (mL I a T2) a (a + 2) (a + 3) (a + 4) (nI m) (nI k) := by
      have start : G277 fl len X I a (n + 1) T m k = m9_goes_277b fl len X (m9_goes_277 fl len X n) (mL I a T) a (a + 2) (a + 3) (a + 4) (nI m) (nI k) := rfl
      rw [start, m9_goes_277b, if_neg (by rw [L4, nI_leI (by omega) (by omega)]; omega), e4', e4'', e4k, l3, ck_inb _ (by omega) (by omega), nI_clamp (by omega), gA_mL (by omega), f1]
      by_cases hp : F (128 + 4 * k + 1) = 0
      · refine ⟨T, fun _ _ _ => rfl, fun _ _ _ _ _ => rfl, ?_, ?_, ?_, hB, ?_⟩
        · unfold rO; rw [if_pos hp]; exact f0
        · unfold rP; rw [if_pos hp, f1]; exact hp
        · unfold rL; rw [if_pos hp]; exact f2
        · rw [if_pos (by rw [hp]; decide)]
      · have hz : F (128 + 4 * k + 2) ≠ 0 := fun q => hp (hr2.2.2.1.mpr q)
        have tl : ∀ x : Nat, m9_goes_346 fl len X (m9_goes_277 fl len X n) (mL I a (up2 (up2 T 3 (4 * k) (F (128 + 4 * k) + 1)) 3 (4 * k + 2) (F (128 + 4 * k + 2) - 1))) a (a + 2) (a + 3) (a + 4) (nI m) (nI k) (a + 3) (nI (4 * k + 1)) (nI x) = m9_goes_347 fl len X (m9_goes_277 fl len X n) (mL I a (up2 (up2 (up2 T 3 (4 * k) (F (128 + 4 * k) + 1)) 3 (4 * k + 2) (F (128 + 4 * k + 2) - 1)) 3 (4 * k + 1) x)) a (a + 2) (a + 3) (a + 4) (nI m) (nI k) := fun x => by
          rw [m9_goes_346, l3, ck_inb _ (by omega) (by omega), nI_clamp (by omega), pA_mL (by omega), lt_e]
        refine ⟨up2 (up2 (up2 T 3 (4 * k) (F (128 + 4 * k) + 1)) 3 (4 * k + 2) (F (128 + 4 * k + 2) - 1)) 3 (4 * k + 1) (rP F k), fun i j hi => by rw [up2_i hi, up2_i hi, up2_i hi], fun j _ q0 q1 q2 => by rw [up2_j q1, up2_j q2, up2_j q0], ?_, up2_s, ?_, ((hB.up (by omega)).up (by omega)).up (by omega), ?_⟩
        · rw [up2_j (by omega), up2_j (by omega), up2_s]
          unfold rO
          rw [if_neg hp]
        · rw [up2_j (by omega), up2_s]
          unfold rL
          rw [if_neg hp]
        · rw [if_neg (by rw [L0, nI_leI (by omega) (by omega)]; omega), ck_inb _ (by omega) (by omega), nI_clamp (by omega), gA_mL (by omega), f0, L1, nI_add, pA_mL (by omega), lt_e, ck_inb _ (by omega) (by omega), nI_clamp (by omega), gA_mL (by omega), up2_j (by omega), f2, nI_sub (by omega), pA_mL (by omega), lt_e, gA_mL (by omega), up2_s, gA_mL (by omega), up2_j (by omega), up2_j (by omega), f1]
          by_cases hl : F (128 + 4 * k + 2) - 1 = 0
          · rw [if_pos (by rw [hl]; decide), show rP F k = 0 by unfold rP; rw [if_neg hp, if_pos hl]]
            exact tl 0
          · rw [if_neg (by rw [L0, nI_leI (by omega) (by omega)]; omega), show rP F k = F (128 + 4 * k + 1) by unfold rP; rw [if_neg hp, if_neg hl]]
            exact tl _
    obtain ⟨T2, s1, s2, s3, s4, s5, s6, s7⟩ := step
    have hm6 := hv.m6.2
    obtain ⟨T3', u1, u2, u3, u4⟩ := g347 (fl := fl) (len := len) (X := X) (I := I) (m := m) hfl hL hv hk (by rw [s1 _ _ (by omega), h2 _ _ (by omega), e0]) (by rw [s1 _ _ (by omega), h2 _ _ (by omega), e5]) (h1.to (fun i j hi => by rw [s1 _ _ (by omega), h2 _ _ (by omega)]) rfl hv.m6.1 (fun _ _ _ => rfl)) (h4.to (fun j => by rw [s1 _ _ (by omega), h2 _ _ (by omega)]) hm6 (fun _ _ => rfl) (fun _ _ _ => rfl)) s3 s4 s6 (m9_goes_277 fl len X n)
    obtain ⟨T', w1, w2, w3, w4, w5⟩ := g277_go hfl hL hv e0 e4 e5 h1 h4 j (k + 1) n T3' (by omega) (by omega) (fun i j hi => by rw [u1 i j (Or.inl hi), s1 i j hi, h2 i j hi]) (fun j hj => by
      obtain ⟨y1, y2, y3⟩ := relC_at (S := F) (k := k + 1) (r := k) (by omega)
      by_cases q0 : j = 4 * k
      · rw [q0, u2, y1]
      · rw [u1 3 j (Or.inr q0)]
        by_cases q1 : j = 4 * k + 1
        · rw [q1, s4, show 128 + (4 * k + 1) = 128 + 4 * k + 1 by omega, y2]
        · by_cases q2 : j = 4 * k + 2
          · rw [q2, s5, show 128 + (4 * k + 2) = 128 + 4 * k + 2 by omega, y3]
          · rw [s2 j hj q0 q1 q2, h3 j hj]
            unfold relC
            by_cases q : 128 ≤ 128 + j ∧ 128 + j < 128 + 4 * k
            · rw [if_pos q, if_pos (show 128 ≤ 128 + j ∧ 128 + j < 128 + 4 * (k + 1) by omega)]
            · rw [if_neg q]
              by_cases q' : 128 ≤ 128 + j ∧ 128 + j < 128 + 4 * (k + 1)
              · rw [if_pos q', if_neg (by omega), if_neg (by omega), if_neg (by omega)]
              · rw [if_neg q']) u3
    refine ⟨T', w1, w2, w3, w4, ?_⟩
    rw [s7, u4]
    exact w5
end CH
