/-! ===== a play is copied into another one ===== -/
section RD
variable {fl : Nat} {len : Nat → Nat} {X : Xm} {I I1 : Im} {p o : Nat} {S : Nat → Nat} {K : Nat} {w w2 : Nat → Nat}
theorem Cs.apart (h : Cs I o S K w2) (hC : XC X o w2) (hv : Iv S K) (hap : p + 72 ≤ o ∨ o + 72 ≤ p) (hf : Fr p I I1) : Cs I1 o S K w2 :=
  h.same hC hv.m6.1 hv.m6.2 (fun a h1 h2 => hf a (by omega))
theorem cp_ok {n a b : Nat} (h1 : n ≤ a) (h2 : n ≤ b) (h : n < 2 ^ 31) : cpok (0 : Int32) (0 : Int32) (nI n) a b = true := by
  unfold cpok
  refine decide_eq_true ⟨by decide, by decide, by rw [nI_toInt h]; omega, ?_, ?_⟩
  · rw [nI_clamp h]; show 0 + n ≤ a; omega
  · rw [nI_clamp h]; show 0 + n ≤ b; omega
theorem cpy_at {f g : Nat → Int32} {n j : Nat} (h : n < 2 ^ 31) (hj : j < n) : va_cpy f g (0 : Int32).toNatClampNeg (0 : Int32).toNatClampNeg (nI n).toNatClampNeg j = f j := by
  rw [nI_clamp h]
  show va_cpy f g 0 0 n j = f j
  unfold va_cpy
  simp [hj]
theorem Fr.pAr {p : Nat} {I I1 : Im} {b : Nat} {g : Nat → Int32} (h : Fr p I I1) (h1 : p ≤ b) (h2 : b < p + 72) : Fr p I (pAr I1 b g) := by
  intro a ha
  refine ⟨fun f' => (h a ha).1 f', fun j' => ?_⟩
  rw [gA_pAr, if_neg (by omega)]
  exact (h a ha).2 j'
/-! cues -/
theorem q_cpCues (hfl : 10000 ≤ fl) (hX : XS X p) (hN : LN len p) (hC : XC X p w) (hX2 : XS X o) (hN2 : LN len o) (hC2 : XC X o w2) (hap : p + 72 ≤ o ∨ o + 72 ≤ p) (hv : Iv S K) (hc : Cs I o S K w2) : ∃ I1, m6_copyFrom fl len X I (p + 2) (o + 2) = some I1 ∧ Fr p I I1 ∧ (∀ f a, f ≠ 97 → f ≠ 98 → (f < 16 ∨ 20 < f) → gF I1 f a = gF I f a) ∧ (∀ a j, gA I1 a j = gA I a j) ∧ gF I1 97 (p + 2) = nI (S 5) ∧ gF I1 98 (p + 2) = nI K ∧ D5 I1 S w := by
  have h5 := hv.m6.1
  obtain ⟨J, eJ⟩ : ∃ y, y = pF (pF I 97 (p + 2) (nI (S 5))) 98 (p + 2) (nI K) := ⟨_, rfl⟩
  have jFr : Fr p I J := by rw [eJ]; exact (Fr.rfl.pF (by omega) (by omega)).pF (by omega) (by omega)
  have key : ∀ (j c n : Nat) (L : Im), c + j = S 5 → j < n → Fr p J L → (∀ f a, (f < 16 ∨ 20 < f) → gF L f a = gF J f a) → (∀ a j, gA L a j = gA J a j) → (∀ d, d < c → gF L 16 (w d) = nI (S (8 + 5 * d)) ∧ gF L 17 (w d) = nI (S (8 + 5 * d + 1)) ∧ gF L 18 (w d) = nI (S (8 + 5 * d + 2)) ∧ gF L 19 (w d) = nI (S (8 + 5 * d + 3)) ∧ gF L 20 (w d) = nI (S (8 + 5 * d + 4))) →
      ∃ I1, m6_copyFrom_18 fl len X n L (p + 2) (o + 2) (nI c) = some I1 ∧ Fr p J I1 ∧ (∀ f a, (f < 16 ∨ 20 < f) → gF I1 f a = gF J f a) ∧ (∀ a j, gA I1 a j = gA J a j) ∧ D5 I1 S w := by
    intro j
    induction j with
    | zero =>
      intro c n L hj hn f1 f2 f3 f4
      obtain ⟨n, rfl⟩ : ∃ n', n = n' + 1 := ⟨n - 1, by omega⟩
      refine ⟨L, ?_, f1, f2, f3, fun d hd => f4 d (by omega)⟩
      show m6_copyFrom_18b fl len X (m6_copyFrom_18 fl len X n) _ _ _ _ = _
      rw [m6_copyFrom_18b, f2 97 _ (by omega), eJ, gF_f (by omega), gF_s, if_pos (by rw [nI_leI (by omega) (by omega)]; omega)]
      rfl
    | succ j ih =>
      intro c n L hj hn f1 f2 f3 f4
      obtain ⟨n, rfl⟩ : ∃ n', n = n' + 1 := ⟨n - 1, by omega⟩
      have hsrc := (hc.apart hC2 hv hap (jFr.trans f1)).2.2.1 c (by omega)
      obtain ⟨e0, e1, e2, e3, e4⟩ := hsrc
      obtain ⟨-, h2, hinj⟩ := hC c (by omega)
      obtain ⟨-, h3, -⟩ := hC2 c (by omega)
      have hne : w2 c ≠ w c := by omega
      obtain ⟨Lz, eL⟩ : ∃ y, y = pF (pF (pF (pF (pF L 16 (w c) (nI (S (8 + 5 * c)))) 17 (w c) (nI (S (8 + 5 * c + 1)))) 18 (w c) (nI (S (8 + 5 * c + 2)))) 19 (w c) (nI (S (8 + 5 * c + 3)))) 20 (w c) (nI (S (8 + 5 * c + 4))) := ⟨_, rfl⟩
      obtain ⟨I1, r1, r2, r3, r4, r5⟩ := ih (c + 1) n Lz (by omega) (by omega) (by rw [eL]; exact ((((f1.pF (by omega) (by omega)).pF (by omega) (by omega)).pF (by omega) (by omega)).pF (by omega) (by omega)).pF (by omega) (by omega)) (fun f a hf => by rw [eL, gF_f (by omega), gF_f (by omega), gF_f (by omega), gF_f (by omega), gF_f (by omega)]; exact f2 f a hf) (fun a j => by rw [eL]; exact f3 a j) (fun d hd => by
        by_cases ed : d = c
        · rw [ed, eL]
          refine ⟨?_, ?_, ?_, ?_, ?_⟩
          · rw [gF_f (by omega), gF_f (by omega), gF_f (by omega), gF_f (by omega), gF_s]
          · rw [gF_f (by omega), gF_f (by omega), gF_f (by omega), gF_s]
          · rw [gF_f (by omega), gF_f (by omega), gF_s]
          · rw [gF_f (by omega), gF_s]
          · rw [gF_s]
        · have hwd : w d ≠ w c := fun q => ed ((hinj d (by omega) q.symm).symm)
          rw [eL, gF_a hwd, gF_a hwd, gF_a hwd, gF_a hwd, gF_a hwd, gF_a hwd, gF_a hwd, gF_a hwd, gF_a hwd, gF_a hwd, gF_a hwd, gF_a hwd, gF_a hwd, gF_a hwd, gF_a hwd, gF_a hwd, gF_a hwd, gF_a hwd, gF_a hwd, gF_a hwd, gF_a hwd, gF_a hwd, gF_a hwd, gF_a hwd, gF_a hwd]
          exact f4 d (by omega))
      refine ⟨I1, ?_, r2, r3, r4, r5⟩
      rw [← r1]
      show m6_copyFrom_18b fl len X (m6_copyFrom_18 fl len X n) _ _ _ _ = _
      rw [m6_copyFrom_18b, f2 97 _ (by omega), eJ, gF_f (by omega), gF_s, if_neg (by rw [nI_leI (by omega) (by omega)]; omega), hX.1.2.2.2.2.2.2.2.1, nn_s, hN.1.2.1, if_neg (by rw [nI_leI (by omega) (by omega)]; omega), ck_inb _ (by omega) (by omega), nI_clamp (by omega), (hC c (by omega)).1, nn_s, hX2.1.2.2.2.2.2.2.2.1, nn_s, hN2.1.2.1, ck_inb _ (by omega) (by omega), (hC2 c (by omega)).1, nn_s, m1_copyFrom, e0, lt_e, gF_a hne, e1, lt_e, gF_a hne, gF_a hne, e2, lt_e, gF_a hne, gF_a hne, gF_a hne, e3, lt_e, gF_a hne, gF_a hne, gF_a hne, gF_a hne, e4, ← eL, lt_e, nn_s, lt_e, L1, nI_add]
  obtain ⟨I1, r1, r2, r3, r4, r5⟩ := key (S 5) 0 fl J (by omega) (by omega) Fr.rfl (fun _ _ _ => rfl) (fun _ _ => rfl) (fun d hd => by omega)
  refine ⟨I1, ?_, jFr.trans r2, fun f a h1 h2 h3 => by rw [r3 f a h3, eJ, gF_f h2, gF_f h1], fun a j => by rw [r4, eJ]; rfl, by rw [r3 _ _ (by omega), eJ, gF_f (by omega), gF_s], by rw [r3 _ _ (by omega), eJ, gF_s], r5⟩
  have hne : o + 2 ≠ p + 2 := by omega
  rw [m6_copyFrom, hc.2.1.2.1, lt_e, gF_a hne, hc.2.1.2.2, lt_e, ← eJ]
  exact r1
/-! reels -/
theorem q_cpReel (hfl : 10000 ≤ fl) (hX : XS X p) (hN : LN len p) (hX2 : XS X o) (hN2 : LN len o) (hC2 : XC X o w2) (hap : p + 72 ≤ o ∨ o + 72 ≤ p) (hv : Iv S K) (hc : Cs I o S K w2) {r : Nat} (hr : r < 4) : ∃ I1, m5_copyFrom fl len X I (p + 36 + 8 * r) (o + 36 + 8 * r) = some I1 ∧ Fr p I I1 ∧ (∀ f a, (f < 81 ∨ (84 < f ∧ f < 112) ∨ 115 < f) ∨ (a < p + 36 + 8 * r ∨ p + 36 + 8 * r + 8 ≤ a) → gF I1 f a = gF I f a) ∧ (∀ a j, gA I1 a j = gA I a j) ∧ RR I1 p S r := by
  have hm := hv.m6.2 r hr
  obtain ⟨J, eJ⟩ : ∃ y, y = pF (pF (pF (pF I 81 (p + 36 + 8 * r) (nI (S (128 + 4 * r + 3)))) 82 (p + 36 + 8 * r) (nI (S (128 + 4 * r)))) 83 (p + 36 + 8 * r) (plI (S (128 + 4 * r + 1)))) 84 (p + 36 + 8 * r) (nI (S (128 + 4 * r + 2))) := ⟨_, rfl⟩
  have jFr : Fr p I J := by rw [eJ]; exact (((Fr.rfl.pF (by omega) (by omega)).pF (by omega) (by omega)).pF (by omega) (by omega)).pF (by omega) (by omega)
  have jo : ∀ f a, f < 81 ∨ 84 < f ∨ a ≠ p + 36 + 8 * r → gF J f a = gF I f a := by
    intro f a hf
    rw [eJ, gF_pF, if_neg (by omega), gF_pF, if_neg (by omega), gF_pF, if_neg (by omega), gF_pF, if_neg (by omega)]
  have key : ∀ (j k n : Nat) (L : Im), k + j = S (128 + 4 * r + 3) → j < n → Fr p J L → (∀ f a, (f < 112 ∨ 115 < f) ∨ (a < p + 36 + 8 * r + 2 ∨ p + 36 + 8 * r + 8 ≤ a) → gF L f a = gF J f a) → (∀ a j, gA L a j = gA J a j) → (∀ d, d < k → gF L 112 (p + 36 + 8 * r + 2 + d) = nI (S (144 + 3 * (6 * r + d))) ∧ gF L 113 (p + 36 + 8 * r + 2 + d) = nI (S (144 + 3 * (6 * r + d) + 1)) ∧ gF L 114 (p + 36 + 8 * r + 2 + d) = nI (begS S r d) ∧ gF L 115 (p + 36 + 8 * r + 2 + d) = nI (S (144 + 3 * (6 * r + d) + 2))) →
      ∃ I1, m5_copyFrom_34 fl len X n L (p + 36 + 8 * r) (o + 36 + 8 * r) (nI k) = some I1 ∧ Fr p J I1 ∧ (∀ f a, (f < 112 ∨ 115 < f) ∨ (a < p + 36 + 8 * r + 2 ∨ p + 36 + 8 * r + 8 ≤ a) → gF I1 f a = gF J f a) ∧ (∀ a j, gA I1 a j = gA J a j) ∧ (∀ d, d < S (128 + 4 * r + 3) → gF I1 112 (p + 36 + 8 * r + 2 + d) = nI (S (144 + 3 * (6 * r + d))) ∧ gF I1 113 (p + 36 + 8 * r + 2 + d) = nI (S (144 + 3 * (6 * r + d) + 1)) ∧ gF I1 114 (p + 36 + 8 * r + 2 + d) = nI (begS S r d) ∧ gF I1 115 (p + 36 + 8 * r + 2 + d) = nI (S (144 + 3 * (6 * r + d) + 2))) := by
    intro j
    induction j with
    | zero =>
      intro k n L hj hn f1 f2 f3 f4
      obtain ⟨n, rfl⟩ : ∃ n', n = n' + 1 := ⟨n - 1, by omega⟩
      refine ⟨L, ?_, f1, f2, f3, fun d hd => f4 d (by omega)⟩
      show m5_copyFrom_34b fl len X (m5_copyFrom_34 fl len X n) _ _ _ _ = _
      rw [m5_copyFrom_34b, f2 81 _ (by omega), eJ, gF_f (by omega), gF_f (by omega), gF_f (by omega), gF_s, if_pos (by rw [nI_leI (by omega) (by omega)]; omega)]
      rfl
    | succ j ih =>
      intro k n L hj hn f1 f2 f3 f4
      obtain ⟨n, rfl⟩ : ∃ n', n = n' + 1 := ⟨n - 1, by omega⟩
      have hsrc := ((hc.apart hC2 hv hap (jFr.trans f1)).2.2.2.2.2.2.1 r hr).2 k (by omega)
      obtain ⟨e0, e1, e2, e3⟩ := hsrc
      obtain ⟨x1, x2, x3⟩ := hX.2.1 r hr
      obtain ⟨y1, y2, y3⟩ := hX2.2.1 r hr
      have hne : o + 36 + 8 * r + 2 + k ≠ p + 36 + 8 * r + 2 + k := by omega
      obtain ⟨Lz, eL⟩ : ∃ y, y = pF (pF (pF (pF L 112 (p + 36 + 8 * r + 2 + k) (nI (S (144 + 3 * (6 * r + k))))) 113 (p + 36 + 8 * r + 2 + k) (nI (S (144 + 3 * (6 * r + k) + 1)))) 114 (p + 36 + 8 * r + 2 + k) (nI (begS S r k))) 115 (p + 36 + 8 * r + 2 + k) (nI (S (144 + 3 * (6 * r + k) + 2))) := ⟨_, rfl⟩
      obtain ⟨I1, r1, r2, r3, r4, r5⟩ := ih (k + 1) n Lz (by omega) (by omega) (by rw [eL]; exact (((f1.pF (by omega) (by omega)).pF (by omega) (by omega)).pF (by omega) (by omega)).pF (by omega) (by omega)) (fun f a hf => by rw [eL, gF_pF, if_neg (by omega), gF_pF, if_neg (by omega), gF_pF, if_neg (by omega), gF_pF, if_neg (by omega)]; exact f2 f a hf) (fun a j => by rw [eL]; exact f3 a j) (fun d hd => by
        by_cases ed : d = k
        · rw [ed, eL]
          refine ⟨?_, ?_, ?_, ?_⟩
          · rw [gF_f (by omega), gF_f (by omega), gF_f (by omega), gF_s]
          · rw [gF_f (by omega), gF_f (by omega), gF_s]
          · rw [gF_f (by omega), gF_s]
          · rw [gF_s]
        · have hwd : p + 36 + 8 * r + 2 + d ≠ p + 36 + 8 * r + 2 + k := by omega
          rw [eL, gF_a hwd, gF_a hwd, gF_a hwd, gF_a hwd, gF_a hwd, gF_a hwd, gF_a hwd, gF_a hwd, gF_a hwd, gF_a hwd, gF_a hwd, gF_a hwd, gF_a hwd, gF_a hwd, gF_a hwd, gF_a hwd]
          exact f4 d (by omega))
      refine ⟨I1, ?_, r2, r3, r4, r5⟩
      rw [← r1]
      show m5_copyFrom_34b fl len X (m5_copyFrom_34 fl len X n) _ _ _ _ = _
      rw [m5_copyFrom_34b, f2 81 _ (by omega), eJ, gF_f (by omega), gF_f (by omega), gF_f (by omega), gF_s, if_neg (by rw [nI_leI (by omega) (by omega)]; omega), x2, nn_s, hN.2 r hr, if_neg (by rw [nI_leI (by omega) (by omega)]; omega), ck_inb _ (by omega) (by omega), nI_clamp (by omega), x3 k (by omega), nn_s, y2, nn_s, hN2.2 r hr, ck_inb _ (by omega) (by omega), y3 k (by omega), nn_s, m7_copyFrom, e0, lt_e, gF_a hne, e1, lt_e, gF_a hne, gF_a hne, e2, lt_e, gF_a hne, gF_a hne, gF_a hne, e3, ← eL, lt_e, nn_s, lt_e, L1, nI_add]
  obtain ⟨I1, r1, r2, r3, r4, r5⟩ := key (S (128 + 4 * r + 3)) 0 fl J (by omega) (by omega) Fr.rfl (fun _ _ _ => rfl) (fun _ _ => rfl) (fun d hd => by omega)
  obtain ⟨⟨a1, a2, a3, a4⟩, -⟩ := hc.2.2.2.2.2.2.1 r hr
  refine ⟨I1, ?_, jFr.trans r2, fun f a hf => by rw [r3 f a (by omega), jo f a (by omega)], fun a j => by rw [r4, eJ]; rfl, ⟨?_, ?_, ?_, ?_⟩, r5⟩
  · have hne : o + 36 + 8 * r ≠ p + 36 + 8 * r := by omega
    rw [m5_copyFrom, a1, lt_e, gF_a hne, a2, lt_e, gF_a hne, gF_a hne, a3, lt_e, gF_a hne, gF_a hne, gF_a hne, a4, lt_e, ← eJ]
    exact r1
  · rw [r3 _ _ (by omega), eJ, gF_f (by omega), gF_f (by omega), gF_f (by omega), gF_s]
  · rw [r3 _ _ (by omega), eJ, gF_f (by omega), gF_f (by omega), gF_s]
  · rw [r3 _ _ (by omega), eJ, gF_f (by omega), gF_s]
  · rw [r3 _ _ (by omega), eJ, gF_s]
/-! the whole play -/
theorem q_cpDoors (hX : XS X p) (hN : LN len p) (hX2 : XS X o) (hN2 : LN len o) (hC2 : XC X o w2) (hap : p + 72 ≤ o ∨ o + 72 ≤ p) (hv : Iv S K) (hc : Cs I o S K w2) : ∃ I1, m2_copyFrom fl len X I (p + 30) (o + 30) = some I1 ∧ Fr p I I1 ∧ (∀ f a, f ≠ 35 → gF I1 f a = gF I f a) ∧ (∀ a j, a < p + 31 ∨ p + 33 < a → gA I1 a j = gA I a j) ∧ D6 I1 p S := by
  have h6 := h67_le hv
  obtain ⟨e0, e1⟩ := hc.2.2.2.1
  have n1 : o + 31 ≠ p + 31 := by omega
  have n2 : o + 32 ≠ p + 31 := by omega
  have n3 : o + 32 ≠ p + 32 := by omega
  have n4 : o + 33 ≠ p + 31 := by omega
  have n5 : o + 33 ≠ p + 32 := by omega
  rw [m2_copyFrom, e0, lt_e, hX2.1.2.2.2.2.2.2.2.2.1, nn_s, hX.1.2.2.2.2.2.2.2.2.1, nn_s, hN.1.2.2.2.2.1, hN2.1.2.2.2.2.1, ck_t _ (cp_ok (by omega) (by omega) (by omega)), lt_e, hX2.1.2.2.2.2.2.2.2.2.2.1, nn_s, hX.1.2.2.2.2.2.2.2.2.2.1, nn_s, hN.1.2.2.2.2.2.1, hN2.1.2.2.2.2.2.1, ck_t _ (cp_ok (by omega) (by omega) (by omega)), lt_e, hX2.1.2.2.2.2.2.2.2.2.2.2, nn_s, hX.1.2.2.2.2.2.2.2.2.2.2, nn_s, hN.1.2.2.2.2.2.2.1, hN2.1.2.2.2.2.2.2.1, ck_t _ (cp_ok (by omega) (by omega) (by omega)), lt_e]
  refine ⟨_, rfl, (((Fr.rfl.pF (by omega) (by omega)).pAr (by omega) (by omega)).pAr (by omega) (by omega)).pAr (by omega) (by omega), fun f a hf => by rw [gF_pAr, gF_pAr, gF_pAr, gF_f hf], fun a j ha => by rw [gA_pAr, if_neg (by omega), gA_pAr, if_neg (by omega), gA_pAr, if_neg (by omega), gA_pF], ?_, fun d hd => ?_⟩
  · rw [gF_pAr, gF_pAr, gF_pAr, gF_s]
  · obtain ⟨c1, c2, c3⟩ := e1 d hd
    refine ⟨?_, ?_, ?_⟩
    · rw [gA_pAr, if_neg (by omega), gA_pAr, if_neg (by omega), gA_pAr, if_pos rfl, cpy_at (by omega) (by omega), gA_pF]; exact c1
    · rw [gA_pAr, if_neg (by omega), gA_pAr, if_pos rfl, cpy_at (by omega) (by omega), gA_pAr, if_neg n2, gA_pF]; exact c2
    · rw [gA_pAr, if_pos rfl, cpy_at (by omega) (by omega), gA_pAr, if_neg n5, gA_pAr, if_neg n4, gA_pF]; exact c3
theorem q_heardN (hX2 : XS X o) (hN2 : LN len o) (h4 : S 4 ≤ 1200) (h72 : gF I 72 o = nI (S 4)) : m4_secondsHeard fl len X I o = some (nI (S 4)) := by
  have e : (if nI 1200 < nI (S 4) then nI 1200 else nI (S 4)) = nI (S 4) := if_neg (by rw [nI_ltI (by omega) (by omega)]; omega)
  rw [m4_secondsHeard, hX2.1.2.2.2.2.2.2.1, nn_s, hN2.1.2.2.2.2.2.2.2.2, h72, e]
  by_cases h0 : S 4 = 0
  · rw [h0, if_neg (by decide)]; rfl
  · rw [if_pos (by rw [L0, nI_ltI (by omega) (by omega)]; omega)]
theorem q_copy (hfl : 10000 ≤ fl) (hX : XS X p) (hN : LN len p) (hC : XC X p w) (hX2 : XS X o) (hN2 : LN len o) (hC2 : XC X o w2) (hap : p + 72 ≤ o ∨ o + 72 ≤ p) (hv : Iv S K) (hc : Cs I o S K w2) : ∃ I1, m4_copyFrom fl len X I p o = some I1 ∧ Fr p I I1 ∧ Cs I1 p S K w := by
  have hm := hv.m6.2
  have h67 := h67_le hv
  have h4 := hv.2.1.1
  -- settings
  obtain ⟨Ia, eIa⟩ : ∃ y, y = pAr I (p + 1) (va_cpy (gA I (o + 1)) (gA I (p + 1)) (0 : Int32).toNatClampNeg (0 : Int32).toNatClampNeg (nI 4).toNatClampNeg) := ⟨_, rfl⟩
  have fa : Fr p I Ia := by rw [eIa]; exact Fr.rfl.pAr (by omega) (by omega)
  have a1 : D1 Ia p S := fun j hj => by rw [eIa, gA_pAr, if_pos rfl, cpy_at (by omega) (by omega)]; exact hc.1 j hj
  -- cues
  obtain ⟨Ib, rb, fb, gb, hb, b1, b2, b3⟩ := q_cpCues (fl := fl) (len := len) hfl hX hN hC hX2 hN2 hC2 hap hv (hc.apart hC2 hv hap fa)
  -- reels
  have reels : ∀ (j r n : Nat) (L : Im), r + j = 4 → j < n → Fr p Ib L → (∀ f a, (f < 81 ∨ (84 < f ∧ f < 112) ∨ 115 < f) → gF L f a = gF Ib f a) → (∀ a j, gA L a j = gA Ib a j) → (∀ r', r' < r → RR L p S r') → ∃ I1, m4_copyFrom_31 fl len X n L p o (nI r) (p + 1) (p + 2) = m4_copyFrom_63 fl len X fl I1 p o (nI 0) (p + 1) (p + 2) (p + 28) ∧ Fr p Ib I1 ∧ (∀ f a, (f < 81 ∨ (84 < f ∧ f < 112) ∨ 115 < f) → gF I1 f a = gF Ib f a) ∧ (∀ a j, gA I1 a j = gA Ib a j) ∧ D9 I1 p S := by
    intro j
    induction j with
    | zero =>
      intro r n L hj hn f1 f2 f3 f4
      obtain ⟨n, rfl⟩ : ∃ n', n = n' + 1 := ⟨n - 1, by omega⟩
      refine ⟨L, ?_, f1, f2, f3, fun r' hr' => f4 r' (by omega)⟩
      show m4_copyFrom_31b fl len X (m4_copyFrom_31 fl len X n) _ _ _ _ _ _ = _
      rw [m4_copyFrom_31b, hX.1.2.2.1, nn_s, hN.1.2.2.1, if_pos (by rw [nI_leI (by omega) (by omega)]; omega)]
      rfl
    | succ j ih =>
      intro r n L hj hn f1 f2 f3 f4
      obtain ⟨n, rfl⟩ : ∃ n', n = n' + 1 := ⟨n - 1, by omega⟩
      have hr : r < 4 := by omega
      obtain ⟨L2', q1, q2, q3, q4, q5⟩ := q_cpReel (fl := fl) (len := len) hfl hX hN hX2 hN2 hC2 hap hv (hc.apart hC2 hv hap ((fa.trans fb).trans f1)) hr
      obtain ⟨I1, r1, r2, r3, r4, r5⟩ := ih (r + 1) n L2' (by omega) (by omega) (f1.trans q2) (fun f a hf => by rw [q3 f a (Or.inl hf), f2 f a hf]) (fun a j => by rw [q4, f3]) (fun r' hr' => by
        by_cases er : r' = r
        · rw [er]; exact q5
        · exact (f4 r' (by omega)).to (by omega) (hm r' (by omega)) (fun f _ _ => q3 f _ (by omega)) (fun f k _ _ _ => q3 f _ (by omega)) (fun _ _ _ => rfl) (fun _ _ _ => rfl))
      refine ⟨I1, ?_, r2, r3, r4, r5⟩
      rw [← r1]
      show m4_copyFrom_31b fl len X (m4_copyFrom_31 fl len X n) _ _ _ _ _ _ = _
      rw [m4_copyFrom_31b, hX.1.2.2.1, nn_s, hN.1.2.2.1, if_neg (by rw [nI_leI (by omega) (by omega)]; omega), ck_inb _ (by omega) (by omega), nI_clamp (by omega), (hX.2.1 r hr).1, nn_s, hX2.1.2.2.1, nn_s, hN2.1.2.2.1, ck_inb _ (by omega) (by omega), (hX2.2.1 r hr).1, nn_s, q1, nn_s, lt_e, L1, nI_add]
  obtain ⟨Ic, rc, fc, gc, hc', c9⟩ := reels 4 0 fl Ib (by omega) (by omega) Fr.rfl (fun _ _ _ => rfl) (fun _ _ => rfl) (fun r' hr' => by omega)
  -- channels, and the rest
  have chans : ∀ (j k n : Nat) (L : Im), k + j = 4 → j < n → Fr p Ic L → (∀ f a, 1 < f → gF L f a = gF Ic f a) → (∀ a j, gA L a j = gA Ic a j) → (∀ k', k' < k → gF L 0 (p + 68 + k') = nI (S (216 + 2 * k')) ∧ gF L 1 (p + 68 + k') = nI (S (216 + 2 * k' + 1))) → ∃ I1, m4_copyFrom_63 fl len X n L p o (nI k) (p + 1) (p + 2) (p + 28) = m4_copyFrom_63b fl len X (fun _ _ _ _ _ _ _ => none) I1 p o (nI 4) (p + 1) (p + 2) (p + 28) ∧ Fr p Ic I1 ∧ (∀ f a, 1 < f → gF I1 f a = gF Ic f a) ∧ (∀ a j, gA I1 a j = gA Ic a j) ∧ D10 I1 p S := by
    intro j
    induction j with
    | zero =>
      intro k n L hj hn f1 f2 f3 f4
      obtain ⟨n, rfl⟩ : ∃ n', n = n' + 1 := ⟨n - 1, by omega⟩
      have hk : k = 4 := by omega
      refine ⟨L, ?_, f1, f2, f3, fun r' hr' => f4 r' (by omega)⟩
      rw [hk]
      show m4_copyFrom_63b fl len X (m4_copyFrom_63 fl len X n) _ _ _ _ _ _ _ = _
      rw [m4_copyFrom_63b, m4_copyFrom_63b, hX.1.2.2.2.1, nn_s, nn_s, hN.1.2.2.2.1, if_pos (Int32.le_refl _), if_pos (Int32.le_refl _)]
    | succ j ih =>
      intro k n L hj hn f1 f2 f3 f4
      obtain ⟨n, rfl⟩ : ∃ n', n = n' + 1 := ⟨n - 1, by omega⟩
      have hk : k < 4 := by omega
      obtain ⟨e0, e1⟩ := (hc.apart hC2 hv hap (((fa.trans fb).trans fc).trans f1)).2.2.2.2.2.2.2 k hk
      have hne : o + 68 + k ≠ p + 68 + k := by omega
      obtain ⟨Lz, eL⟩ : ∃ y, y = pF (pF L 0 (p + 68 + k) (nI (S (216 + 2 * k)))) 1 (p + 68 + k) (nI (S (216 + 2 * k + 1))) := ⟨_, rfl⟩
      obtain ⟨I1, r1, r2, r3, r4, r5⟩ := ih (k + 1) n Lz (by omega) (by omega) (by rw [eL]; exact (f1.pF (by omega) (by omega)).pF (by omega) (by omega)) (fun f a hf => by rw [eL, gF_f (by omega), gF_f (by omega), f2 f a hf]) (fun a j => by rw [eL]; exact f3 a j) (fun k' hk' => by
        by_cases er : k' = k
        · rw [er, eL]
          exact ⟨by rw [gF_f (by omega), gF_s], by rw [gF_s]⟩
        · have hq : p + 68 + k' ≠ p + 68 + k := by omega
          rw [eL, gF_a hq, gF_a hq, gF_a hq, gF_a hq]
          exact f4 k' (by omega))
      refine ⟨I1, ?_, r2, r3, r4, r5⟩
      rw [← r1]
      show m4_copyFrom_63b fl len X (m4_copyFrom_63 fl len X n) _ _ _ _ _ _ _ = _
      rw [m4_copyFrom_63b, hX.1.2.2.2.1, nn_s, hN.1.2.2.2.1, if_neg (by rw [nI_leI (by omega) (by omega)]; omega), ck_inb _ (by omega) (by omega), nI_clamp (by omega), hX.2.2 k hk, nn_s, hX2.1.2.2.2.1, nn_s, hN2.1.2.2.2.1, ck_inb _ (by omega) (by omega), hX2.2.2 k hk, nn_s, e0, lt_e, nn_s, nn_s, hN2.1.2.2.2.1, ck_inb _ (by omega) (by omega), hX2.2.2 k hk, nn_s, gF_a hne, e1, ← eL, lt_e, lt_e, L1, nI_add]
  obtain ⟨Id, rd, fd, gd, hd, d10⟩ := chans 4 0 fl Ic (by omega) (by omega) Fr.rfl (fun _ _ _ => rfl) (fun _ _ => rfl) (fun r' hr' => by omega)
  have fIId : Fr p I Id := ((fa.trans fb).trans fc).trans fd
  obtain ⟨Ie, re, fe, ge, he, e6⟩ := q_cpDoors (fl := fl) (len := len) hX hN hX2 hN2 hC2 hap hv (hc.apart hC2 hv hap fIId)
  have sE := hc.apart hC2 hv hap (fIId.trans fe)
  obtain ⟨Ig, eIg⟩ : ∃ y, y = pAr Ie (p + 34) (va_cpy (gA Ie (o + 34)) (gA Ie (p + 34)) (0 : Int32).toNatClampNeg (0 : Int32).toNatClampNeg (nI 24).toNatClampNeg) := ⟨_, rfl⟩
  obtain ⟨Ih, eIh⟩ : ∃ y, y = pF Ig 70 p (nI (S 7)) := ⟨_, rfl⟩
  obtain ⟨Ii, eIi⟩ : ∃ y, y = pAr Ih (p + 35) (va_cpy (gA Ih (o + 35)) (gA Ih (p + 35)) (0 : Int32).toNatClampNeg (0 : Int32).toNatClampNeg (nI (S 4)).toNatClampNeg) := ⟨_, rfl⟩
  have hh72 : gF Ih 72 o = nI (S 4) := by rw [eIh, gF_f (by omega), eIg, gF_pAr]; exact sE.2.1.1
  have fF : ∀ f a, f ≠ 70 → f ≠ 72 → gF (pF Ii 72 p (nI (S 4))) f a = gF Ie f a := fun f a h1 h2 => by rw [gF_f h2, eIi, gF_pAr, eIh, gF_f h1, eIg, gF_pAr]
  have fA : ∀ a j, a ≠ p + 34 → a ≠ p + 35 → gA (pF Ii 72 p (nI (S 4))) a j = gA Ie a j := fun a j h1 h2 => by rw [gA_pF, eIi, gA_pAr, if_neg h2, eIh, gA_pF, eIg, gA_pAr, if_neg h1]
  have fL : Fr p Ie (pF Ii 72 p (nI (S 4))) := by
    rw [eIi, eIh, eIg]
    exact (((Fr.rfl.pAr (by omega) (by omega)).pF (by omega) (by omega)).pAr (by omega) (by omega)).pF (by omega) (by omega)
  refine ⟨pF Ii 72 p (nI (S 4)), ?_, (fIId.trans fe).trans fL, ?_⟩
  · rw [m4_copyFrom, hX2.1.1, nn_s, hX.1.1, nn_s, hN.1.1, hN2.1.1, ck_t _ (cp_ok (by omega) (by omega) (by omega)), ← eIa, lt_e, hX.1.2.1, nn_s, hX2.1.2.1, nn_s, rb, nn_s, show m4_copyFrom_31 fl len X fl Ib p o (0 : Int32) (p + 1) (p + 2) = m4_copyFrom_31 fl len X fl Ib p o (nI 0) (p + 1) (p + 2) from rfl, rc, rd, m4_copyFrom_63b, hX.1.2.2.2.1, nn_s, hN.1.2.2.2.1, if_pos (Int32.le_refl _), hX.1.2.2.2.2.1, nn_s, hX2.1.2.2.2.2.1, nn_s, re, nn_s, hX2.1.2.2.2.2.2.1, nn_s, hX.1.2.2.2.2.2.1, nn_s, hN.1.2.2.2.2.2.2.2.1, hN2.1.2.2.2.2.2.2.2.1, ck_t _ (cp_ok (by omega) (by omega) (by omega)), ← eIg, lt_e]
    have h70 : gF Ig 70 o = nI (S 7) := by rw [eIg, gF_pAr]; exact sE.2.2.2.2.1.1
    rw [h70, ← eIh, lt_e, hX2.1.2.2.2.2.2.2.1, nn_s, hX.1.2.2.2.2.2.2.1, nn_s, q_heardN hX2 hN2 h4 hh72, nn_s, hN.1.2.2.2.2.2.2.2.2, hN2.1.2.2.2.2.2.2.2.2, ck_t _ (cp_ok (by omega) (by omega) (by omega)), ← eIi, lt_e]
    have h72i : gF Ii 72 o = nI (S 4) := by rw [eIi, gF_pAr]; exact hh72
    rw [h72i, lt_e]
  · refine ⟨fun j hj => ?_, ⟨gF_s, ?_, ?_⟩, fun c hcc => ?_, ?_, ⟨?_, fun j hj => ?_⟩, fun j hj => ?_, ?_, ?_⟩
    · rw [fA _ _ (by omega) (by omega), he _ _ (by omega), hd, hc', hb]; exact a1 j hj
    · rw [fF _ _ (by omega) (by omega), ge _ _ (by omega), gd _ _ (by omega), gc _ _ (by omega)]; exact b1
    · rw [fF _ _ (by omega) (by omega), ge _ _ (by omega), gd _ _ (by omega), gc _ _ (by omega)]; exact b2
    · rw [fF 16 _ (by omega) (by omega), ge 16 _ (by omega), gd 16 _ (by omega), gc 16 _ (by omega), fF 17 _ (by omega) (by omega), ge 17 _ (by omega), gd 17 _ (by omega), gc 17 _ (by omega), fF 18 _ (by omega) (by omega), ge 18 _ (by omega), gd 18 _ (by omega), gc 18 _ (by omega), fF 19 _ (by omega) (by omega), ge 19 _ (by omega), gd 19 _ (by omega), gc 19 _ (by omega), fF 20 _ (by omega) (by omega), ge 20 _ (by omega), gd 20 _ (by omega), gc 20 _ (by omega)]
      exact b3 c hcc
    · exact e6.to (fF _ _ (by omega) (by omega)) (fun a j h1 h2 => fA a j (by omega) (by omega)) rfl h67.1 (fun _ _ _ => rfl)
    · rw [gF_f (by omega), eIi, gF_pAr, eIh, gF_s]
    · rw [gA_pF, eIi, gA_pAr, if_neg (by omega), eIh, gA_pF, eIg, gA_pAr, if_pos rfl, cpy_at (by omega) (by omega)]
      exact sE.2.2.2.2.1.2 j hj
    · rw [gA_pF, eIi, gA_pAr, if_pos rfl, cpy_at (by omega) hj, eIh, gA_pF, eIg, gA_pAr, if_neg (by omega)]
      exact sE.2.2.2.2.2.1 j hj
    · exact c9.to hm (fun f a hf => by rw [fF _ _ (by omega) (by omega), ge _ _ (by omega), gd _ _ (by omega)]) (fun _ _ _ => rfl)
    · exact d10.to (fun f a hf => by rw [fF _ _ (by omega) (by omega), ge _ _ (by omega)]) (fun _ _ _ => rfl)
end RD
