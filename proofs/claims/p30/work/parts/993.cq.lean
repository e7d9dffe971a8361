/-! ===== the law comes to its end with true ===== -/
theorem and_nI (x : Int32) : ∃ y, y < 2 ^ 31 ∧ x &&& (2147483647 : Int32) = nI y := by
  refine ⟨x.toBitVec.toNat % 2 ^ 31, Nat.mod_lt _ (by decide), ?_⟩
  apply Int32.toBitVec.inj
  rw [Int32.toBitVec_and]
  apply BitVec.eq_of_toNat_eq
  rw [BitVec.toNat_and]
  show x.toBitVec.toNat &&& 2147483647 = (BitVec.ofNat 32 _).toNat
  rw [BitVec.toNat_ofNat, show (2147483647 : Nat) = 2 ^ 31 - 1 from rfl, Nat.and_two_pow_sub_one_eq_mod]
  exact (Nat.mod_eq_of_lt (Nat.lt_of_lt_of_le (Nat.mod_lt _ (by decide)) (by decide))).symm
theorem nI_no {x y : Nat} (hx : x < 2 ^ 31) (hy : y < 2 ^ 31) (h : x ≠ y) : ¬ nI x = nI y := fun q => by
  have := congrArg Int32.toInt q
  rw [nI_toInt hx, nI_toInt hy] at this
  omega
section CQ
variable {fl : Nat} {len : Nat → Nat} {X : Xm} {I : Im} {a b zn zq qlo : Nat} {sc : Int32 → Int32} {S : Nat → Nat} {K : Nat} {T : Nat → Nat → Nat}
theorem g_l82 (hL : LL len a) : ∀ (j k n : Nat) (T : Nat → Nat → Nat), k + j = 8 → j < n → BT T → ∃ T', (∀ i x, i ≠ 5 → T' i x = T i x) ∧ (∀ x, x < 8 → T' 5 x = if k ≤ x then 50 else T 5 x) ∧ BT T' ∧ m9_law_82 fl len sc qlo n (mL I a T) X zn zq b a (a + 1) (a + 2) (a + 3) (a + 4) (a + 5) (a + 6) (a + 7) (a + 8) (nI k) = m9_law_108 fl len sc qlo fl (mL I a T') X zn zq b a (a + 1) (a + 2) (a + 3) (a + 4) (a + 5) (a + 6) (a + 7) (a + 8) 1 0 := by
  obtain ⟨l0, l1, l2, l3, l4, l5, l6, l7, l8⟩ := id hL
  intro j
  induction j with
  | zero =>
    intro k n T hk hn hb
    obtain ⟨n, rfl⟩ : ∃ n', n = n' + 1 := ⟨n - 1, by omega⟩
    refine ⟨T, fun _ _ _ => rfl, fun x hx => by rw [if_neg (by omega)], hb, ?_⟩
    show m9_law_82b fl len sc qlo (m9_law_82 fl len sc qlo n) _ _ _ _ _ _ _ _ _ _ _ _ _ _ _ = _
    rw [m9_law_82b, if_pos (show (8 : Int32) ≤ nI k by rw [L8, nI_leI (by omega) (by omega)]; omega)]
  | succ j ih =>
    intro k n T hk hn hb
    obtain ⟨n, rfl⟩ : ∃ n', n = n' + 1 := ⟨n - 1, by omega⟩
    obtain ⟨T', g1, g2, g3, g4⟩ := ih (k + 1) n (up2 T 5 k 50) (by omega) (by omega) (hb.up (by omega))
    refine ⟨T', fun i x hi => by rw [g1 i x hi, up2_i hi], fun x hx => ?_, g3, ?_⟩
    · rw [g2 x hx]
      by_cases e : x = k
      · rw [e, if_neg (by omega), up2_s, if_pos (Nat.le_refl _)]
      · rw [up2_j e]
        by_cases q : k ≤ x
        · rw [if_pos (by omega), if_pos q]
        · rw [if_neg (by omega), if_neg q]
    · rw [← g4]
      show m9_law_82b fl len sc qlo (m9_law_82 fl len sc qlo n) _ _ _ _ _ _ _ _ _ _ _ _ _ _ _ = _
      rw [m9_law_82b, if_neg (show ¬ (8 : Int32) ≤ nI k by rw [L8, nI_leI (by omega) (by omega)]; omega), l5, ck_inb _ (by omega) (by omega), nI_clamp (by omega), L50, pA_mL (by omega), lt_e, nI_k1, lt_e]
theorem g_399 (hfl : 10000 ≤ fl) (hG : LG len b) (ha : a = b + 799) (hL : LL len a) (hB : Both I X b S K) (hz : ZI zq I) (q1 : b + 808 ≤ zq) (q2 : zq < b + 868) (hlq : len zq = 4) (zr : Im → Xm → Nat → Nat → Nat → Nat → Nat → Nat → Nat → Nat → Nat → Nat → Nat → Nat → Int32 → Int32 → Option (Int32 × Im × Xm)) {e : Nat} : ∃ I1, Both I1 X b S K ∧ ZI (zq + 1) I1 ∧ m9_law_399 fl len sc (b + 808) zr I X zn zq b a (a + 1) (a + 2) (a + 3) (a + 4) (a + 5) (a + 6) (a + 7) (a + 8) 1 (nI e) = zr I1 X (zn + 1) (zq + 1) b a (a + 1) (a + 2) (a + 3) (a + 4) (a + 5) (a + 6) (a + 7) (a + 8) 1 (nI (e + 1)) := by
  obtain ⟨hc, T, hT, hl⟩ := hB
  have hT' : ∀ i, i < 9 → ∀ j, gA I (a + i) j = nI (T i j) := by rw [ha]; exact hT
  obtain ⟨I1, r1, c1, t1, f1⟩ := g_areCues (fl := fl) hfl hG ha hL q1 hlq hl hc hT' (hz zq (Nat.le_refl _)).2
  have e1 : mL I1 a T = I1 := mL_self t1
  have c1' : Cl (mL I1 a T) X b S K := by rw [e1]; exact c1
  have r2 := g_areReels (fl := fl) hfl hG ha hL c1' hl
  have r3 := g_isHeard (fl := fl) hfl hG ha hL c1' hl
  rw [e1] at r2 r3
  refine ⟨I1, ⟨c1, T, by rw [← ha]; exact t1, hl⟩, fun c hc => ⟨fun f => by rw [(f1 c (Or.inr (by omega)) (by omega)).1]; exact (hz c (by omega)).1 f, fun j => by rw [(f1 c (Or.inr (by omega)) (by omega)).2]; exact (hz c (by omega)).2 j⟩, ?_⟩
  rw [m9_law_399, if_neg (show ¬ (1 : Int32) = 0 by decide), ck_go _ (show b + 808 ≤ zq ∧ zq < b + 808 + 60 by omega), ckp_go _ hz, r1, nn_s]
  dsimp only
  rw [if_neg (show ¬ (1 : Int32) = 0 by decide), r2, nn_s, if_neg (show ¬ (1 : Int32) = 0 by decide), r3, nn_s, if_neg (show ¬ (1 : Int32) = 0 by decide), m9_law_450, nI_k1, lt_e]
theorem g_l108 (hfl : 10000 ≤ fl) (hG : LG len b) (ha : a = b + 799) (hL : LL len a) : ∀ (j k n : Nat) (I : Im) (X : Xm) (S : Nat → Nat) (K : Nat), k + j = 6 → j < n → Both I X b S K → S 4 ≤ 20 * k → ∃ I1 X1 S1 K1, Both I1 X1 b S1 K1 ∧ FA b I I1 ∧ S1 4 ≤ 120 ∧ m9_law_108 fl len sc qlo n I X zn zq b a (a + 1) (a + 2) (a + 3) (a + 4) (a + 5) (a + 6) (a + 7) (a + 8) 1 (nI k) = m9_law_162 fl len sc qlo fl I1 X1 zn zq b a (a + 1) (a + 2) (a + 3) (a + 4) (a + 5) (a + 6) (a + 7) (a + 8) 1 6 := by
  intro j
  induction j with
  | zero =>
    intro k n I X S K hk hn hB h4
    obtain ⟨n, rfl⟩ : ∃ n', n = n' + 1 := ⟨n - 1, by omega⟩
    refine ⟨I, X, S, K, hB, FA.rfl, by omega, ?_⟩
    show m9_law_108b fl len sc qlo (m9_law_108 fl len sc qlo n) _ _ _ _ _ _ _ _ _ _ _ _ _ _ _ _ = _
    rw [m9_law_108b, if_pos (show (6 : Int32) ≤ nI k by rw [L6, nI_leI (by omega) (by omega)]; omega), m9_law_158]
  | succ j ih =>
    intro k n I X S K hk hn hB h4
    obtain ⟨n, rfl⟩ : ∃ n', n = n' + 1 := ⟨n - 1, by omega⟩
    obtain ⟨hc, T, hT, hl⟩ := hB
    have e0 : mL I a T = I := mL_self (by rw [ha]; exact hT)
    obtain ⟨M, hM, eM⟩ := and_nI (sc (nI k))
    obtain ⟨I1, X1, S1, K1, r, hB1, fa, s4⟩ := g_isSet (fl := fl) hfl hG ha hL (show Cl (mL I a T) X b S K by rw [e0]; exact hc) hl (way := 1) (y := M / 4 * 4 + k % 3) (by omega) (by omega)
    rw [e0] at r fa
    have r' : m9_isSet fl len X I b a (a + 3) (a + 4) (a + 5) (1 : Int32) (nI (M / 4 * 4 + k % 3)) = some (1, I1, X1) := r
    obtain ⟨I2, X2, S2, K2, w1, w2, w3, w4⟩ := ih (k + 1) n I1 X1 S1 K1 (by omega) (by omega) hB1 (by omega)
    refine ⟨I2, X2, S2, K2, w1, fa.trans w2, w3, ?_⟩
    rw [← w4]
    show m9_law_108b fl len sc qlo (m9_law_108 fl len sc qlo n) _ _ _ _ _ _ _ _ _ _ _ _ _ _ _ _ = _
    rw [m9_law_108b, if_neg (show ¬ (6 : Int32) ≤ nI k by rw [L6, nI_leI (by omega) (by omega)]; omega), if_neg (show ¬ (1 : Int32) = 0 by decide), ck_inb _ (by omega) (by omega), eM, L4, nI_div hM (by decide), nI_mul, L3, nI_mod (by omega) (by decide), nI_add, r', nn_s]
    dsimp only
    rw [nI_k1, lt_e]
theorem g_l344 (hfl : 10000 ≤ fl) (hL : LL len a) (zr : Im → Xm → Nat → Nat → Nat → Nat → Nat → Nat → Nat → Nat → Nat → Nat → Nat → Nat → Int32 → Int32 → Option (Int32 × Im × Xm)) (z : Int32) {N : Nat} (hN : N ≤ 200) : ∀ (j k n : Nat) (S : Nat → Nat) (K : Nat) (T : Nat → Nat → Nat) (M : Nat), k + j = N → j < n → LT T S → Iv S K → S 4 + j ≤ 1200 → ∃ T', LT T' (nP j S K).1 ∧ m9_law_344 fl len sc qlo zr n (mL I a T) X zn zq b a (a + 1) (a + 2) (a + 3) (a + 4) (a + 5) (a + 6) (a + 7) (a + 8) z (nI N) (nI M) (nI k) = m9_law_344 fl len sc qlo zr 1 (mL I a T') X zn zq b a (a + 1) (a + 2) (a + 3) (a + 4) (a + 5) (a + 6) (a + 7) (a + 8) z (nI N) (nI (M + (nP j S K).2.2)) (nI N) := by
  intro j
  induction j with
  | zero =>
    intro k n S K T M hk hn h hv h4
    obtain ⟨n, rfl⟩ : ∃ n', n = n' + 1 := ⟨n - 1, by omega⟩
    refine ⟨T, h, ?_⟩
    obtain rfl : k = N := by omega
    show m9_law_344b fl len sc qlo zr (m9_law_344 fl len sc qlo zr n) _ _ _ _ _ _ _ _ _ _ _ _ _ _ _ _ _ _ = m9_law_344b fl len sc qlo zr (m9_law_344 fl len sc qlo zr 0) _ _ _ _ _ _ _ _ _ _ _ _ _ _ _ _ _ _
    rw [m9_law_344b, m9_law_344b, if_pos (Int32.le_refl _), if_pos (Int32.le_refl _)]
    rfl
  | succ j ih =>
    intro k n S K T M hk hn h hv h4
    obtain ⟨n, rfl⟩ : ∃ n', n = n' + 1 := ⟨n - 1, by omega⟩
    obtain ⟨T1, h1, r1⟩ := g_goes (fl := fl) (X := X) (I := I) hfl hL h hv (by omega)
    obtain ⟨p1, p2, p3⟩ := hv.pass (by omega)
    obtain ⟨T', g1, g2⟩ := ih (k + 1) n (passS S K) (passK S K) T1 (M + passM S K) (by omega) (by omega) h1 p1 (by omega)
    refine ⟨T', g1, ?_⟩
    rw [show M + (nP (j + 1) S K).2.2 = M + passM S K + (nP j (passS S K) (passK S K)).2.2 from (Nat.add_assoc _ _ _).symm, ← g2]
    show m9_law_344b fl len sc qlo zr (m9_law_344 fl len sc qlo zr n) _ _ _ _ _ _ _ _ _ _ _ _ _ _ _ _ _ _ = _
    rw [m9_law_344b, if_neg (show ¬ nI N ≤ nI k by rw [nI_leI (by omega) (by omega)]; omega), r1, nn_s]
    dsimp only
    rw [nI_add, lt_e, nI_k1, lt_e]
theorem g_334 (hfl : 10000 ≤ fl) (hG : LG len b) (ha : a = b + 799) (hL : LL len a) (hc : Cl (mL I a T) X b S K) (h : LT T S) {y w : Nat} (hy : y < 2 ^ 31) (w0 : 0 < w) (hw : w ≤ 20) (h4 : S 4 + 20 ≤ 1200) (zr : Im → Xm → Nat → Nat → Nat → Nat → Nat → Nat → Nat → Nat → Nat → Nat → Nat → Nat → Int32 → Int32 → Option (Int32 × Im × Xm)) (z : Int32) : ∃ I1 X1 S1 K1, Both I1 X1 b S1 K1 ∧ FA b (mL I a T) I1 ∧ S1 4 ≤ S 4 + 20 ∧ m9_law_334 fl len sc qlo zr (mL I a T) X zn zq b a (a + 1) (a + 2) (a + 3) (a + 4) (a + 5) (a + 6) (a + 7) (a + 8) z (nI 1) (nI y) (nI w) = m9_law_399 fl len sc qlo zr I1 X1 zn zq b a (a + 1) (a + 2) (a + 3) (a + 4) (a + 5) (a + 6) (a + 7) (a + 8) 1 z := by
  have hv := hc.iv
  have hm : y % w < w := Nat.mod_lt _ w0
  obtain ⟨N, eN⟩ : ∃ N, N = 1 + y % w := ⟨_, rfl⟩
  obtain ⟨T', h', r'⟩ := g_l344 (fl := fl) (len := len) (X := X) (I := I) (a := a) (b := b) (zn := zn) (zq := zq) (qlo := qlo) (sc := sc) hfl hL zr z (N := N) (by omega) N 0 fl S K T 0 (by omega) (by omega) h hv (by omega)
  obtain ⟨I1, X1, r8, fo, c1⟩ := k_pass (fl := fl) hfl hG (hc.mL (T' := T') ha) (s := N) (by omega) (by omega) (by omega)
  have s4 := nP_4 N S K hv (by omega)
  refine ⟨I1, X1, _, _, Both.of ha fo c1 h', (mL_fa ha).trans fo.fa, by omega, ?_⟩
  rw [m9_law_334, ck_go _ (show ¬ nI w = 0 from nI_no (x := w) (y := 0) (by omega) (by decide) (by omega)), nI_mod hy (by omega), nI_add, ← eN, lt_e]
  refine Eq.trans r' ?_
  show m9_law_344b fl len sc qlo zr (m9_law_344 fl len sc qlo zr 0) _ _ _ _ _ _ _ _ _ _ _ _ _ _ _ _ _ _ = _
  rw [m9_law_344b, if_pos (Int32.le_refl _), r8, nn_s]
  dsimp only
  rw [Nat.zero_add, if_pos (by rfl), m9_law_397]
theorem g_ev (hfl : 10000 ≤ fl) (hG : LG len b) (ha : a = b + 799) (hL : LL len a) (hB : Both I X b S K) (zr : Im → Xm → Nat → Nat → Nat → Nat → Nat → Nat → Nat → Nat → Nat → Nat → Nat → Nat → Int32 → Int32 → Option (Int32 × Im × Xm)) {e : Nat} (he : e < 60) (h4 : S 4 + 20 ≤ 1200) : ∃ I1 X1 S1 K1, Both I1 X1 b S1 K1 ∧ FA b I I1 ∧ S1 4 ≤ S 4 + 20 ∧ m9_law_162b fl len sc qlo zr I X zn zq b a (a + 1) (a + 2) (a + 3) (a + 4) (a + 5) (a + 6) (a + 7) (a + 8) 1 (nI e) = m9_law_399 fl len sc qlo zr I1 X1 zn zq b a (a + 1) (a + 2) (a + 3) (a + 4) (a + 5) (a + 6) (a + 7) (a + 8) 1 (nI e) := by
  obtain ⟨hc, T, hT, hl⟩ := hB
  have e0 : mL I a T = I := mL_self (by rw [ha]; exact hT)
  have hc0 : Cl (mL I a T) X b S K := by rw [e0]; exact hc
  have hv := hc.iv
  have l0 := hL.1
  obtain ⟨M, hM, eM⟩ := and_nI (sc (nI e))
  obtain ⟨w, ew⟩ : ∃ w, w = M % 29 := ⟨_, rfl⟩
  obtain ⟨y, ey⟩ : ∃ y, y = M / 29 := ⟨_, rfl⟩
  have hw : w < 29 := by omega
  have hy : y < 2 ^ 31 := by omega
  obtain ⟨E, eE⟩ : ∃ E, E = m9_law_162b fl len sc qlo zr I X zn zq b a (a + 1) (a + 2) (a + 3) (a + 4) (a + 5) (a + 6) (a + 7) (a + 8) 1 (nI e) := ⟨_, rfl⟩
  rw [← eE]
  rw [m9_law_162b, if_neg (show ¬ (60 : Int32) ≤ nI e by rw [L60, nI_leI (by omega) (by omega)]; omega), if_neg (show ¬ (1 : Int32) = 0 by decide), ck_inb _ (by omega) (by omega), lt_e, eM, L29, nI_mod hM (by decide), nI_div hM (by decide), ← ew, ← ey, lt_e, lt_e] at eE
  by_cases c16 : w < 16
  · rw [if_neg (show ¬ (16 : Int32) ≤ nI w by rw [L16, nI_leI (by omega) (by omega)]; omega)] at eE
    obtain ⟨I1, X1, S1, K1, r, b1, f1, s1⟩ := g_isCue (fl := fl) hfl hG ha hL hc0 hl c16 hy
    rw [e0] at r f1
    rw [r, nn_s] at eE
    exact ⟨I1, X1, S1, K1, b1, f1, s1, eE⟩
  rw [if_pos (show (16 : Int32) ≤ nI w by rw [L16, nI_leI (by omega) (by omega)]; omega)] at eE
  by_cases c20 : w < 20
  · rw [if_neg (show ¬ (20 : Int32) ≤ nI w by rw [L20, nI_leI (by omega) (by omega)]; omega), L16, nI_sub (by omega)] at eE
    by_cases c3 : w - 16 = 3
    · rw [if_pos (show nI (w - 16) = 3 by rw [c3]; rfl), m9_law_258] at eE
      obtain ⟨I1, X1, S1, K1, r, b1, f1, s1⟩ := g_isSet (fl := fl) hfl hG ha hL hc0 hl (way := 4) (by omega) hy
      rw [e0] at r f1
      have r' : m9_isSet fl len X I b a (a + 3) (a + 4) (a + 5) (4 : Int32) (nI y) = some (1, I1, X1) := r
      rw [r', nn_s] at eE
      exact ⟨I1, X1, S1, K1, b1, f1, s1, eE⟩
    · rw [if_neg (show ¬ nI (w - 16) = 3 from nI_no (by omega) (by decide) c3), m9_law_258] at eE
      obtain ⟨I1, X1, S1, K1, r, b1, f1, s1⟩ := g_isSet (fl := fl) hfl hG ha hL hc0 hl (way := w - 16) (by omega) hy
      rw [e0] at r f1
      rw [r, nn_s] at eE
      exact ⟨I1, X1, S1, K1, b1, f1, s1, eE⟩
  rw [if_pos (show (20 : Int32) ≤ nI w by rw [L20, nI_leI (by omega) (by omega)]; omega)] at eE
  by_cases cc : w = 20 ∧ y % 5 = 0
  · obtain ⟨T', h', r1⟩ := g_restart (fl := fl) (X := X) (I := I) hfl hL hl hv
    obtain ⟨I1, X1, r2, fo, c1⟩ := k_begin (fl := fl) hfl hG (hc0.mL (T' := T') ha)
    rw [e0] at r1
    have g4 : gA I a 4 = nI (S 4) := by rw [← e0, gA_mL0, hl.1 4 (by omega)]
    rw [if_pos (show nI w = 20 by rw [cc.1]; rfl), L5, nI_mod hy (by decide), if_pos (show nI (y % 5) = 0 by rw [cc.2]; rfl), L4, l0, ck_inb _ (by omega) (by omega), nI_clamp (by omega), lt_e, r1, nn_s, r2, nn_s] at eE
    dsimp only at eE
    rw [if_pos g4.symm, m9_law_313] at eE
    exact ⟨I1, X1, _, _, Both.of ha fo c1 h', by rw [← e0]; exact (mL_fa ha).trans fo.fa, by rw [bgS_at.1]; omega, eE⟩
  have e3 : E = m9_law_318 fl len sc qlo zr I X zn zq b a (a + 1) (a + 2) (a + 3) (a + 4) (a + 5) (a + 6) (a + 7) (a + 8) (nI e) (nI w) (nI y) := by
    by_cases c1 : w = 20
    · rw [if_pos (show nI w = 20 by rw [c1]; rfl), L5, nI_mod hy (by decide), if_neg (show ¬ nI (y % 5) = 0 from nI_no (by omega) (by decide) (fun q => cc ⟨c1, q⟩))] at eE
      exact eE
    · rw [if_neg (show ¬ nI w = 20 from nI_no (by omega) (by decide) c1)] at eE
      exact eE
  rw [m9_law_318] at e3
  by_cases c24 : 24 ≤ w
  · rw [if_pos (show (24 : Int32) ≤ nI w by rw [L24, nI_leI (by omega) (by omega)]; omega)] at e3
    obtain ⟨I1, X1, S1, K1, b1, f1, s1, r⟩ := g_334 (fl := fl) (zn := zn) (zq := zq) (qlo := qlo) (sc := sc) hfl hG ha hL hc0 hl hy (w := 4) (by omega) (by omega) h4 zr (nI e)
    rw [e0] at r f1
    exact ⟨I1, X1, S1, K1, b1, f1, s1, e3.trans r⟩
  · rw [if_neg (show ¬ (24 : Int32) ≤ nI w by rw [L24, nI_leI (by omega) (by omega)]; omega)] at e3
    obtain ⟨I1, X1, S1, K1, b1, f1, s1, r⟩ := g_334 (fl := fl) (zn := zn) (zq := zq) (qlo := qlo) (sc := sc) hfl hG ha hL hc0 hl hy (w := 20) (by omega) (by omega) h4 zr (nI e)
    rw [e0] at r f1
    exact ⟨I1, X1, S1, K1, b1, f1, s1, e3.trans r⟩
theorem g_l162 (hfl : 10000 ≤ fl) (hG : LG len b) (ha : a = b + 799) (hL : LL len a) (hlen : ∀ x, b + 808 ≤ x → x < b + 868 → len x = 4) : ∀ (j d n : Nat) (I : Im) (X : Xm) (S : Nat → Nat) (K : Nat), d + j = 54 → j < n → Both I X b S K → ZI (b + 808 + d) I → S 4 ≤ 20 * (d + 6) → ∃ I1 X1, m9_law_162 fl len sc (b + 808) n I X (808 + d) (b + 808 + d) b a (a + 1) (a + 2) (a + 3) (a + 4) (a + 5) (a + 6) (a + 7) (a + 8) 1 (nI (d + 6)) = some (1, I1, X1) := by
  intro j
  induction j with
  | zero =>
    intro d n I X S K hk hn hB hz h4
    obtain ⟨n, rfl⟩ : ∃ n', n = n' + 1 := ⟨n - 1, by omega⟩
    refine ⟨I, X, ?_⟩
    show m9_law_162b fl len sc (b + 808) (m9_law_162 fl len sc (b + 808) n) _ _ _ _ _ _ _ _ _ _ _ _ _ _ _ _ = _
    rw [m9_law_162b, if_pos (show (60 : Int32) ≤ nI (d + 6) by rw [L60, nI_leI (by omega) (by omega)]; omega), m9_law_458]
  | succ j ih =>
    intro d n I X S K hk hn hB hz h4
    obtain ⟨n, rfl⟩ : ∃ n', n = n' + 1 := ⟨n - 1, by omega⟩
    obtain ⟨I1, X1, S1, K1, b1, f1, s1, r1⟩ := g_ev (fl := fl) (zn := 808 + d) (zq := b + 808 + d) (qlo := b + 808) (sc := sc) hfl hG ha hL hB (m9_law_162 fl len sc (b + 808) n) (e := d + 6) (by omega) (by omega)
    have z1 : ZI (b + 808 + d) I1 := fun c hc => ⟨fun f => by rw [(f1 c (Or.inr (by omega))).1]; exact (hz c hc).1 f, fun j => by rw [(f1 c (Or.inr (by omega))).2]; exact (hz c hc).2 j⟩
    obtain ⟨I2, b2, z2, r2⟩ := g_399 (fl := fl) (zn := 808 + d) (sc := sc) hfl hG ha hL b1 z1 (by omega) (by omega) (hlen _ (by omega) (by omega)) (m9_law_162 fl len sc (b + 808) n) (e := d + 6)
    obtain ⟨I3, X3, r3⟩ := ih (d + 1) n I2 X1 S1 K1 (by omega) (by omega) b2 z2 (by omega)
    refine ⟨I3, X3, ?_⟩
    show m9_law_162b fl len sc (b + 808) (m9_law_162 fl len sc (b + 808) n) _ _ _ _ _ _ _ _ _ _ _ _ _ _ _ _ = _
    rw [r1, r2, ← r3, show d + 6 + 1 = d + 1 + 6 by omega]
    rfl
theorem lt0 (h1 : ∀ i x, i ≠ 5 → T i x = up2 (up2 (up2 (up2 (fun _ _ => 0) 0 0 4) 0 1 2) 0 2 10) 0 3 150 i x) (h2 : ∀ x, x < 8 → T 5 x = 50) (hB : BT T) : LT T S0 := by
  have z : ∀ i x, i ≠ 5 → i ≠ 0 → T i x = 0 := fun i x q1 q2 => by rw [h1 i x q1, up2_i q2, up2_i q2, up2_i q2, up2_i q2]
  have z5 : S0 5 = 0 := rfl
  have z6 : S0 6 = 0 := rfl
  have z7 : S0 7 = 0 := rfl
  have z4 : S0 4 = 0 := rfl
  refine ⟨fun j hj => ?_, fun c hc => by omega, fun j hj => ?_, fun r hr k hk => ?_, fun j hj => ?_, fun d hd => by omega, fun i hi => by omega, fun k hk => by omega, hB⟩
  · rw [h1 0 j (by omega)]
    have : j = 0 ∨ j = 1 ∨ j = 2 ∨ j = 3 ∨ (4 ≤ j ∧ j < 8) := by omega
    rcases this with rfl | rfl | rfl | rfl | ⟨q1, q2⟩
    · rfl
    · rfl
    · rfl
    · rfl
    · rw [S0_z q1 (Or.inl (by omega)), up2_j (by omega), up2_j (by omega), up2_j (by omega), up2_j (by omega)]
  · rw [z 3 j (by omega) (by omega), S0_z (by omega) (Or.inl (by omega))]
  · rw [S0_z (by omega) (Or.inl (by omega))] at hk
    omega
  · rw [h2 j hj, S0_50 (by omega) (by omega)]
end CQ
theorem law_true {fl : Nat} {K len : Nat → Nat} {b : Nat} {sc : Int32 → Int32} (hfl : 10000 ≤ fl) (h : LY K len b layFull) : ∃ (I' : Im) (X' : Xm), m9_law_82 fl len sc (b + 808) fl (ltI b) (lawX b) 808 (b + 808) b (b + 799) (b + 800) (b + 801) (b + 802) (b + 803) (b + 804) (b + 805) (b + 806) (b + 807) 0 = some (1, I', X') := by
  have hL := LL.of h
  have hG := LG.of h
  have hlen := layMany h
  obtain ⟨a, ha⟩ : ∃ a, a = b + 799 := ⟨_, rfl⟩
  rw [← ha] at hL
  have zi : ZI (b + 799) (lawI b) := ZI_rcI (zi_im0 _) (Nat.le_refl _)
  have e0 : mL (lawI b) a (fun _ _ => 0) = lawI b := mL_self fun i hi j => (zi (a + i) (by omega)).2 j
  have e1 : ltI b = mL (lawI b) a (up2 (up2 (up2 (up2 (fun _ _ => 0) 0 0 4) 0 1 2) 0 2 10) 0 3 150) := by
    show pA (pA (pA (pA (lawI b) (b + 799) 0 (nI 4)) (b + 799) 1 (nI 2)) (b + 799) 2 (nI 10)) (b + 799) 3 (nI 150) = _
    rw [← ha]
    conv => lhs; rw [← e0]
    rw [pA_mL0, pA_mL0, pA_mL0, pA_mL0]
  have hb0 : BT (fun _ _ => 0) := fun _ _ => (show (0 : Nat) < 1000000 by decide)
  obtain ⟨T', t1, t2, t3, r1⟩ := g_l82 (fl := fl) (len := len) (X := lawX b) (I := lawI b) (b := b) (zn := 808) (zq := b + 808) (qlo := b + 808) (sc := sc) hL 8 0 fl _ (by omega) (by omega) ((((hb0.up (i := 0) (j := 0) (v := 4) (by decide)).up (i := 0) (j := 1) (v := 2) (by decide)).up (i := 0) (j := 2) (v := 10) (by decide)).up (i := 0) (j := 3) (v := 150) (by decide))
  have hlt : LT T' S0 := lt0 t1 (fun x hx => by rw [t2 x hx, if_pos (Nat.zero_le _)]) t3
  have hc : Cl (mL (lawI b) a T') (lawX b) b S0 0 := cl0.out fun c h1 h2 => ⟨fun _ => rfl, fun j => gA_mLo (Or.inl (by omega))⟩
  obtain ⟨I1, X1, S1, K1, b1, f1, s1, r2⟩ := g_l108 (fl := fl) (zn := 808) (zq := b + 808) (qlo := b + 808) (sc := sc) hfl hG ha hL 6 0 fl (mL (lawI b) a T') (lawX b) S0 0 (by omega) (by omega) (Both.mL ha hc hlt) (Nat.zero_le _)
  have z1 : ZI (b + 808 + 0) I1 := fun c hc => ⟨fun f => by rw [(f1 c (Or.inr (by omega))).1]; exact (zi c (by omega)).1 f, fun j => by rw [(f1 c (Or.inr (by omega))).2, gA_mLo (Or.inr (by omega))]; exact (zi c (by omega)).2 j⟩
  obtain ⟨I2, X2, r3⟩ := g_l162 (fl := fl) (sc := sc) hfl hG ha hL (fun x q1 q2 => (hlen x q1 (by omega)).2) 54 0 fl I1 X1 S1 K1 (by omega) (by omega) b1 z1 (by omega)
  refine ⟨I2, X2, ?_⟩
  rw [e1]
  subst ha
  exact r1.trans (r2.trans r3)
