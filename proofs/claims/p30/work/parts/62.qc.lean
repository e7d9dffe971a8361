/-! ===== a second of the class: reels and doors ===== -/
section QC
variable {fl : Nat} {len : Nat → Nat} {X : Xm} {I I1 : Im} {p : Nat} {S S' : Nat → Nat} {K : Nat} {w : Nat → Nat}
theorem q_plays (hX : XS X p) (hL : LN len p) (h : Iv S K) (v : Int32) : ∀ (j r n : Nat) (I : Im), r + j = 4 → j < n → Cs I p (goA S r) K w → ∃ I1, Fr p I I1 ∧ Cs I1 p (goA S 4) K w ∧ m4_runSecond_48 fl len X n I p v (nI r) (p + 29) = m4_runSecond_48b fl len X (fun _ _ _ _ _ => none) I1 p v (nI 4) (p + 29) := by
  intro j
  induction j with
  | zero =>
    intro r n I hj hn hc
    obtain ⟨n, rfl⟩ : ∃ n', n = n' + 1 := ⟨n - 1, by omega⟩
    have hk : r = 4 := by omega
    rw [hk] at hc
    refine ⟨I, Fr.rfl, hc, ?_⟩
    rw [hk]
    show m4_runSecond_48b fl len X (m4_runSecond_48 fl len X n) _ p _ _ _ = _
    unfold m4_runSecond_48b
    rw [hX.1.2.2.1, nn_s, nn_s, hL.1.2.2.1, if_pos (Int32.le_refl _), if_pos (Int32.le_refl _)]
  | succ j ih =>
    intro r n I hj hn hc
    obtain ⟨n, rfl⟩ : ∃ n', n = n' + 1 := ⟨n - 1, by omega⟩
    obtain ⟨d1, d2, d5, d6, d7, d8, d9, d10⟩ := hc
    have hr : r < 4 := by omega
    have hg0 : ∀ j, (j < 128 ∨ 128 + 4 * r ≤ j ∨ j % 4 = 3) → goA S r j = S j := fun j hj => goA_far hj
    have hRg : RR I p S r := (d9 r hr).to hr (by rw [hg0 _ (by omega)]; exact (h.2.2.2.1 r hr).1) (fun _ _ _ => rfl) (fun _ _ _ _ _ => rfl) (fun j _ _ => (hg0 j (by omega)).symm) (fun j _ _ => (hg0 j (by omega)).symm)
    obtain ⟨I1, hrun1, hfr1, ga, gf, g82, g83, g84⟩ := q_play (fl := fl) (len := len) (X := X) hr hRg h.2.2.2.1
    have hfar : ∀ j, (j < 128 + 4 * r ∨ 128 + 4 * r + 4 ≤ j ∨ j % 4 = 3) → goA S (r + 1) j = goA S r j := by
      intro j hj
      unfold goA
      by_cases h1 : 128 ≤ j ∧ j < 128 + 4 * r
      · rw [if_pos h1, if_pos (show 128 ≤ j ∧ j < 128 + 4 * (r + 1) by omega)]
      · rw [if_neg h1]
        by_cases h2 : 128 ≤ j ∧ j < 128 + 4 * (r + 1)
        · rw [if_pos h2, if_neg (by omega), if_neg (by omega), if_neg (by omega)]
        · rw [if_neg h2]
    have h5l : goA S r 5 ≤ 24 := by rw [hg0 _ (by omega)]; exact h.2.1.2.2
    have h6l : goA S r 6 ≤ 24 := by rw [hg0 _ (by omega)]; have := h.2.2.2.2.2.2.1.1; have := h.2.1.2; omega
    have h7l : goA S r 7 ≤ 24 := by rw [hg0 _ (by omega), h.2.2.2.2.2.2.2.1.1]; exact cntT_le S 24
    have hc1 : Cs I1 p (goA S (r + 1)) K w := by
      refine ⟨d1.to (fun j => ga _ j) (fun j hj => hfar j (by omega)), d2.to (gf _ _ (by omega)) (gf _ _ (by omega)) (gf _ _ (by omega)) (hfar _ (by omega)) (hfar _ (by omega)), d5.to (fun f a h1 h2 => gf f a (by omega)) (hfar _ (by omega)) h5l (fun j _ _ => hfar j (by omega)), d6.to (gf _ _ (by omega)) (fun a j _ _ => ga a j) (hfar _ (by omega)) h6l (fun j _ _ => hfar j (by omega)), d7.to (gf _ _ (by omega)) (fun j => ga _ j) (hfar _ (by omega)) h7l (fun j _ _ => hfar j (by omega)), d8.to (fun j => ga _ j) (hfar _ (by omega)) (fun j _ => hfar j (by omega)), fun r' hr' => ?_, d10.to (fun f a hf => gf f a (by omega)) (fun j _ _ => hfar j (by omega))⟩
      by_cases er : r' = r
      · subst er
        obtain ⟨⟨a1, a2, a3, a4⟩, a5⟩ := hRg
        obtain ⟨b1, b2, b3⟩ := goA_at (S := S) (k := r' + 1) (r := r') (by omega)
        refine ⟨⟨?_, ?_, ?_, ?_⟩, fun k hk => ?_⟩
        · rw [gf _ _ (by omega), goA_far (by omega)]; exact a1
        · rw [g82, b1]
        · rw [g83, b2]
        · rw [g84, b3]
        · rw [goA_far (by omega)] at hk
          have h6' := (h.2.2.2.1 r' hr').1
          rw [gf _ _ (by omega), gf _ _ (by omega), gf _ _ (by omega), gf _ _ (by omega), goA_far (j := 144 + 3 * (6 * r' + k)) (by omega), goA_far (j := 144 + 3 * (6 * r' + k) + 1) (by omega), goA_far (j := 144 + 3 * (6 * r' + k) + 2) (by omega), begS_congr (S := S) (S' := goA S (r' + 1)) (fun j hj => goA_far (by omega))]
          exact a5 k hk
      · refine (d9 r' hr').to hr' (by rw [goA_far (by omega)]; exact (h.2.2.2.1 r' hr').1) (fun f _ _ => gf f _ (by omega)) (fun f k _ _ _ => gf f _ (by omega)) (fun j _ _ => hfar j (by omega)) (fun j _ _ => hfar j (by omega))
    obtain ⟨I2, hfr, hc2, hrun⟩ := ih (r + 1) n I1 (by omega) (by omega) hc1
    refine ⟨I2, hfr1.trans hfr, hc2, ?_⟩
    rw [← hrun]
    show m4_runSecond_48b fl len X (m4_runSecond_48 fl len X n) _ p _ _ _ = _
    rw [m4_runSecond_48b, hX.1.2.2.1, nn_s, hL.1.2.2.1, if_neg (by rw [nI_leI (by omega) (by omega)]; omega), ck_inb _ (by omega) (by omega), nI_clamp (by omega), (hX.2.1 r hr).1, nn_s, hrun1, nn_s, lt_e, L1, nI_add]
/-! doors -/
theorem q_hear (hfl : 10000 ≤ fl) (hX : XS X p) (hL : LN len p) (h6 : D6 I p S) (h6l : S 6 ≤ 24) (hd : ∀ d, d < S 6 → 1 ≤ S (224 + 3 * d + 2) ∧ S (224 + 3 * d + 2) ≤ 9) : ∃ I1, m2_hearSecond fl len X I (p + 30) = some I1 ∧ Fr p I I1 ∧ (∀ f a, f ≠ 35 → gF I1 f a = gF I f a) ∧ (∀ a j, (a < p + 31 ∨ p + 33 < a) → gA I1 a j = gA I a j) ∧ D6 I1 p (faF (S 6) 0 0 S) := by
  have key : ∀ (j d l n : Nat) (T : Nat → Nat) (J : Im), d + j = T 6 → T 6 ≤ 24 → l ≤ d → j < n → gF J 35 (p + 30) = nI (T 6) → (∀ e, e < l ∨ (d ≤ e ∧ e < T 6) → gA J (p + 31) e = nI (T (224 + 3 * e)) ∧ gA J (p + 32) e = nI (T (224 + 3 * e + 1)) ∧ gA J (p + 33) e = nI (T (224 + 3 * e + 2))) → (∀ e, d ≤ e → e < T 6 → 1 ≤ T (224 + 3 * e + 2) ∧ T (224 + 3 * e + 2) ≤ 9) →
      ∃ I1, m2_hearSecond_4 fl len X n J (p + 30) (nI l) (nI d) = some I1 ∧ Fr p J I1 ∧ (∀ f a, f ≠ 35 → gF I1 f a = gF J f a) ∧ (∀ a j, (a < p + 31 ∨ p + 33 < a) → gA I1 a j = gA J a j) ∧ D6 I1 p (faF j d l T) := by
    intro j
    induction j with
    | zero =>
      intro d l n T J hj hT6 hld hn hc hm hg
      obtain ⟨n, rfl⟩ : ∃ n', n = n' + 1 := ⟨n - 1, by omega⟩
      refine ⟨pF J 35 (p + 30) (nI l), ?_, Fr.rfl.pF (by omega) (by omega), fun f a hf => gF_f hf, fun _ _ _ => rfl, ?_, fun e he => ?_⟩
      · show m2_hearSecond_4b fl len X (m2_hearSecond_4 fl len X n) _ _ _ _ = _
        unfold m2_hearSecond_4b m2_hearSecond_75
        rw [hc, if_pos (by rw [nI_leI (by omega) (by omega)]; omega), lt_e]
      · rw [gF_s]; unfold faF; rw [upN_eq]
      · have he2 : e < l := by unfold faF at he; rw [upN_eq] at he; exact he
        unfold faF
        rw [upN_ne (by omega), upN_ne (by omega), upN_ne (by omega)]
        exact hm e (Or.inl he2)
    | succ j ih =>
      intro d l n T J hj hT6 hld hn hc hm hg
      obtain ⟨n, rfl⟩ : ∃ n', n = n' + 1 := ⟨n - 1, by omega⟩
      obtain ⟨T1, eT1⟩ : ∃ T1, T1 = upN (upN (upN T (224 + 3 * l) (T (224 + 3 * d))) (224 + 3 * l + 1) (T (224 + 3 * d + 1))) (224 + 3 * l + 2) (T (224 + 3 * d + 2) - 1) := ⟨_, rfl⟩
      have hT1 : ∀ i, (i < 224 + 3 * l ∨ 224 + 3 * l + 2 < i) → T1 i = T i := by
        intro i hi; rw [eT1, upN_ne (by omega), upN_ne (by omega), upN_ne (by omega)]
      have t0 : T1 (224 + 3 * l) = T (224 + 3 * d) := by rw [eT1, upN_ne (by omega), upN_ne (by omega), upN_eq]
      have t1 : T1 (224 + 3 * l + 1) = T (224 + 3 * d + 1) := by rw [eT1, upN_ne (by omega), upN_eq]
      have t2 : T1 (224 + 3 * l + 2) = T (224 + 3 * d + 2) - 1 := by rw [eT1, upN_eq]
      have ef : faF (j + 1) d l T = faF j (d + 1) (l + if T (224 + 3 * d + 2) - 1 = 0 then 0 else 1) T1 := by rw [eT1]; rfl
      obtain ⟨m1, m2, m3⟩ := hm d (Or.inr ⟨Nat.le_refl _, by omega⟩)
      have hgd := hg d (Nat.le_refl _) (by omega)
      rw [ef]
      by_cases hz : T (224 + 3 * d + 2) - 1 = 0
      · rw [if_pos hz, Nat.add_zero]
        obtain ⟨I1, r1, r2, r3, r4, r5⟩ := ih (d + 1) l n T1 J (by rw [hT1 6 (by omega)]; omega) (by rw [hT1 6 (by omega)]; exact hT6) (by omega) (by omega) (by rw [hT1 6 (by omega)]; exact hc) (fun e he => by
          rw [hT1 6 (by omega)] at he
          rw [hT1 _ (by omega), hT1 _ (by omega), hT1 _ (by omega)]
          exact hm e (by omega)) (fun e h1 h2 => by rw [hT1 6 (by omega)] at h2; rw [hT1 _ (by omega)]; exact hg e (by omega) h2)
        refine ⟨I1, ?_, r2, r3, r4, r5⟩
        rw [← r1]
        show m2_hearSecond_4b fl len X (m2_hearSecond_4 fl len X n) _ _ _ _ = _
        rw [m2_hearSecond_4b, hc, if_neg (by rw [nI_leI (by omega) (by omega)]; omega), L24, if_neg (by rw [nI_leI (by omega) (by omega)]; omega), hX.1.2.2.2.2.2.2.2.2.2.2, nn_s, hL.1.2.2.2.2.2.2.1, ck_inb _ (by omega) (by omega), nI_clamp (by omega), m3, L1, if_pos (by rw [nI_leI (by omega) (by omega)]; omega), m2_hearSecond_69, L1, nI_add, lt_e]
      · rw [if_neg hz]
        obtain ⟨J1, eJ1⟩ : ∃ y, y = pA (pA (pA J (p + 31) l (nI (T (224 + 3 * d)))) (p + 32) l (nI (T (224 + 3 * d + 1)))) (p + 33) l (nI (T (224 + 3 * d + 2) - 1)) := ⟨_, rfl⟩
        obtain ⟨I1, r1, r2, r3, r4, r5⟩ := ih (d + 1) (l + 1) n T1 J1 (by rw [hT1 6 (by omega)]; omega) (by rw [hT1 6 (by omega)]; exact hT6) (by omega) (by omega) (by rw [hT1 6 (by omega), eJ1]; exact hc) (fun e he => by
          rw [hT1 6 (by omega)] at he
          by_cases el : e = l
          · rw [el, t0, t1, t2, eJ1]
            refine ⟨?_, ?_, ?_⟩
            · rw [gA_a (by omega), gA_a (by omega), gA_s]
            · rw [gA_a (by omega), gA_s]
            · rw [gA_s]
          · rw [hT1 _ (by omega), hT1 _ (by omega), hT1 _ (by omega), eJ1, gA_j el, gA_j el, gA_j el, gA_j el, gA_j el, gA_j el, gA_j el, gA_j el, gA_j el]
            exact hm e (by omega)) (fun e h1 h2 => by rw [hT1 6 (by omega)] at h2; rw [hT1 _ (by omega)]; exact hg e (by omega) h2)
        refine ⟨I1, ?_, Fr.trans (by rw [eJ1]; exact ((Fr.rfl.pA (by omega) (by omega)).pA (by omega) (by omega)).pA (by omega) (by omega)) r2, fun f a hf => by rw [r3 f a hf, eJ1]; rfl, fun a j' ha => by rw [r4 a j' ha, eJ1, gA_a (by omega), gA_a (by omega), gA_a (by omega)], r5⟩
        rw [← r1]
        show m2_hearSecond_4b fl len X (m2_hearSecond_4 fl len X n) _ _ _ _ = _
        rw [m2_hearSecond_4b, hc, if_neg (by rw [nI_leI (by omega) (by omega)]; omega), L24, if_neg (by rw [nI_leI (by omega) (by omega)]; omega), hX.1.2.2.2.2.2.2.2.2.2.2, nn_s, hL.1.2.2.2.2.2.2.1, ck_inb _ (by omega) (by omega), nI_clamp (by omega), m3, L1, if_neg (by rw [nI_leI (by omega) (by omega)]; omega), hX.1.2.2.2.2.2.2.2.2.1, nn_s, hL.1.2.2.2.2.1, ck_inb _ (by omega) (by omega), ck_inb _ (by omega) (by omega), nI_clamp (by omega), m1, lt_e, hX.1.2.2.2.2.2.2.2.2.2.1, nn_s, hL.1.2.2.2.2.2.1, ck_inb _ (by omega) (by omega), ck_inb _ (by omega) (by omega), gA_a (a := p + 31) (b := p + 32) (by omega), m2, lt_e, ck_inb _ (by omega) (by omega), gA_a (a := p + 32) (b := p + 33) (by omega), gA_a (a := p + 31) (b := p + 33) (by omega), m3, nI_sub (by omega), ← eJ1, lt_e, nI_add, lt_e, m2_hearSecond_69, L1, nI_add, lt_e]
  obtain ⟨I1, r1, r2, r3, r4, r5⟩ := key (S 6) 0 0 fl S I (by omega) h6l (Nat.le_refl _) (by omega) h6.1 (fun e he => h6.2 e (by omega)) (fun e _ he => hd e he)
  exact ⟨I1, r1, r2, r3, r4, r5⟩
/-! the next cue of a reel -/
theorem nxF_skip {r : Nat} : ∀ (m j : Nat), (∀ c, c < m → S (8 + 5 * c + 4) ≠ 0) → nxF S r (m + j) 0 = nxF S r j m := by
  intro m j h
  have key : ∀ i, i ≤ m → nxF S r (m - i + j) i = nxF S r j m := by
    intro i hi
    obtain ⟨d, hd⟩ : ∃ d, d = m - i := ⟨_, rfl⟩
    induction d generalizing i with
    | zero => rw [← hd, Nat.zero_add, show i = m by omega]
    | succ d ih =>
      rw [show m - i + j = (m - (i + 1) + j) + 1 by omega]
      show (if _ then _ else _) = _
      rw [if_neg (fun q => h i (by omega) q.1)]
      exact ih (i + 1) (by omega) (by omega)
  exact key 0 (Nat.zero_le _)
theorem q_next (hfl : 10000 ≤ fl) (hX : XS X p) (hL : LN len p) (hC : XC X p w) (h2 : D2 I p S K) (h5 : D5 I S w) (hI : IvC S K) (hB : IvB S K) {r : Nat} (hr : r < 4) : m6_nextFor fl len X I (p + 2) (nI r) = some (oI (nxF S r (S 5) 0)) := by
  have h5l := hB.2.2
  have hKn := hB.2.1
  have key : ∀ (j c n : Nat), c + j = S 5 → K ≤ c → j < n → m6_nextFor_9 fl len X I n (p + 2) (nI r) (nI c) = some (oI (nxF S r j c)) := by
    intro j
    induction j with
    | zero =>
      intro c n hj hK hn
      obtain ⟨n, rfl⟩ : ∃ n', n = n' + 1 := ⟨n - 1, by omega⟩
      show m6_nextFor_9b fl len X I (m6_nextFor_9 fl len X I n) _ _ _ = _
      rw [m6_nextFor_9b, h2.2.1, if_pos (by rw [nI_leI (by omega) (by omega)]; omega), m6_nextFor_59]
      rfl
    | succ j ih =>
      intro c n hj hK hn
      obtain ⟨n, rfl⟩ : ∃ n', n = n' + 1 := ⟨n - 1, by omega⟩
      have ih := ih (c + 1) n (by omega) (by omega) (by omega)
      obtain ⟨e0, e1, e2, e3, e4⟩ := h5 c (by omega)
      have hst := (hI.1 c (by omega)).2.2.2.1.mpr hK
      have hcu := (hI.1 c (by omega)).2.1
      have n1 := hcu.1
      have n2 := hcu.2.1
      show m6_nextFor_9b fl len X I (m6_nextFor_9 fl len X I n) _ _ _ = _
      rw [m6_nextFor_9b, h2.2.1, if_neg (by rw [nI_leI (by omega) (by omega)]; omega), hX.1.2.2.2.2.2.2.2.1, nn_s, hL.1.2.1, if_neg (by rw [nI_leI (by omega) (by omega)]; omega), ck_inb _ (by omega) (by omega), nI_clamp (by omega), (hC c (by omega)).1, nn_s, nn_s, e1, e2, m6_nextFor_53, lt_e, L1, nI_add]
      unfold nxF
      by_cases h1 : S (8 + 5 * c + 1) = 0
      · rw [if_pos (by rw [h1]; rfl)]
        by_cases h3 : S (8 + 5 * c + 2) = r
        · rw [if_pos (by rw [h3]), if_pos ⟨hst, h1, h3⟩]; rfl
        · rw [if_neg (by rw [nI_eq (by omega) (by omega)]; exact h3), if_neg (fun q => h3 q.2.2)]; exact ih
      · rw [if_neg (by rw [L0, nI_eq (by omega) (by omega)]; exact h1), if_neg (fun q => h1 q.2.1)]; exact ih
  unfold m6_nextFor
  have eK : (if (0 : Int32) < gF I 98 (p + 2) then gF I 98 (p + 2) else (0 : Int32)) = nI K := by
    rw [h2.2.2]
    by_cases h0 : K = 0
    · rw [h0, if_neg (by decide)]; rfl
    · rw [if_pos (by rw [L0, nI_ltI (by omega) (by omega)]; omega)]
  rw [eK, lt_e, key (S 5 - K) K fl (by omega) (Nat.le_refl _) (by omega)]
  have := nxF_skip (S := S) (r := r) K (S 5 - K) (fun c hc q => by
    have := (hI.1 c (by omega)).2.2.2.1.mp q
    omega)
  rw [show K + (S 5 - K) = S 5 by omega] at this
  rw [this]
end QC
