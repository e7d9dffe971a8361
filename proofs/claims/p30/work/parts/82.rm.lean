/-! ===== begin ===== -/
def bg (S : Nat → Nat) (a b c d : Nat) : Nat → Nat := fun j =>
  if j = 4 ∨ j = 6 ∨ j = 7 then 0 else if 8 ≤ j ∧ j < 8 + 5 * a ∧ j % 5 = 2 then 0 else if 128 ≤ j ∧ j < 128 + 4 * b ∧ j % 4 ≠ 3 then 0 else if 216 ≤ j ∧ j < 216 + c then 50 else if 144 ≤ j ∧ j < 144 + 3 * d ∧ j % 3 = 2 then 0 else S j
def bgS (S : Nat → Nat) : Nat → Nat := bg S (S 5) 4 8 24
section RM
variable {fl : Nat} {len : Nat → Nat} {X X2 : Xm} {I I1 : Im} {p q b : Nat} {S S' : Nat → Nat} {K : Nat} {w w' : Nat → Nat}
theorem bg_up1 {a : Nat} (ha : a < 24) : upN (bg S a 0 0 0) (8 + 5 * a + 4) 0 = bg S (a + 1) 0 0 0 := by
  funext j
  unfold upN bg
  repeat' split
  all_goals first | rfl | omega
theorem bg_up2 {n a : Nat} (hn : n ≤ 24) (ha : a < 4) : upN (upN (upN (bg S n a 0 0) (128 + 4 * a + 0) 0) (128 + 4 * a + 1) 0) (128 + 4 * a + 2) 0 = bg S n (a + 1) 0 0 := by
  funext j
  unfold upN bg
  repeat' split
  all_goals first | rfl | omega
theorem bg_up3 {n a : Nat} (hn : n ≤ 24) (ha : a < 8) : upN (bg S n 4 a 0) (216 + a) 50 = bg S n 4 (a + 1) 0 := by
  funext j
  unfold upN bg
  repeat' split
  all_goals first | rfl | omega
theorem bg_up4 {n a : Nat} (hn : n ≤ 24) (ha : a < 24) : upN (bg S n 4 8 a) (144 + 3 * a + 2) 0 = bg S n 4 8 (a + 1) := by
  funext j
  unfold upN bg
  repeat' split
  all_goals first | rfl | omega
theorem bg_0 : upN (upN (upN S 4 0) 6 0) 7 0 = bg S 0 0 0 0 := by
  funext j
  unfold upN bg
  repeat' split
  all_goals first | rfl | omega
theorem bg_5 {a b c d : Nat} : bg S a b c d 5 = S 5 := by
  unfold bg
  repeat' split
  all_goals first | rfl | omega
theorem cntT_zero : ∀ {m : Nat}, (∀ j, j < m → S (144 + 3 * j + 2) = 0) → cntT S m = 0
  | 0, _ => rfl
  | m + 1, h => by
    show cntT S m + _ = 0
    rw [cntT_zero (fun j hj => h j (by omega)), h m (by omega), if_pos rfl]
theorem bgS_at : bgS S 4 = 0 ∧ bgS S 5 = S 5 ∧ bgS S 6 = 0 ∧ bgS S 7 = 0 ∧ (∀ j, j < 4 → bgS S j = S j) := by
  unfold bgS bg
  refine ⟨?_, ?_, ?_, ?_, fun j hj => ?_⟩ <;> repeat' split
  all_goals first | rfl | omega
theorem bgS_cue {c : Nat} (hc : c < S 5) (h5 : S 5 ≤ 24) : bgS S (8 + 5 * c) = S (8 + 5 * c) ∧ bgS S (8 + 5 * c + 1) = S (8 + 5 * c + 1) ∧ bgS S (8 + 5 * c + 2) = S (8 + 5 * c + 2) ∧ bgS S (8 + 5 * c + 3) = S (8 + 5 * c + 3) ∧ bgS S (8 + 5 * c + 4) = 0 := by
  unfold bgS bg
  refine ⟨?_, ?_, ?_, ?_, ?_⟩ <;> repeat' split
  all_goals first | rfl | omega
theorem bgS_reel {r : Nat} (hr : r < 4) (h5 : S 5 ≤ 24) : bgS S (128 + 4 * r) = 0 ∧ bgS S (128 + 4 * r + 1) = 0 ∧ bgS S (128 + 4 * r + 2) = 0 ∧ bgS S (128 + 4 * r + 3) = S (128 + 4 * r + 3) := by
  unfold bgS bg
  refine ⟨?_, ?_, ?_, ?_⟩ <;> repeat' split
  all_goals first | rfl | omega
theorem bgS_snd {k : Nat} (hk : k < 24) (h5 : S 5 ≤ 24) : bgS S (144 + 3 * k) = S (144 + 3 * k) ∧ bgS S (144 + 3 * k + 1) = S (144 + 3 * k + 1) ∧ bgS S (144 + 3 * k + 2) = 0 := by
  unfold bgS bg
  refine ⟨?_, ?_, ?_⟩ <;> repeat' split
  all_goals first | rfl | omega
theorem bgS_ch {k : Nat} (hk : k < 8) (h5 : S 5 ≤ 24) : bgS S (216 + k) = 50 := by
  unfold bgS bg
  repeat' split
  all_goals first | rfl | omega
theorem Iv.begin (h : Iv S K) : Iv (bgS S) 0 := by
  obtain ⟨iA, iB, iC, iR, iS, iH, iD, iP, iN⟩ := h
  have h5 := iB.2.2
  obtain ⟨a4, a5, a6, a7, a0⟩ := bgS_at (S := S)
  refine ⟨iA.to a0, ⟨by rw [a4]; omega, by rw [a5]; omega, by rw [a5]; omega⟩, ⟨fun c hc => ?_, fun c hc => ?_⟩, fun r hr => ?_, ⟨fun r hr k hk => ?_, fun j hj => ?_, fun r hr k hk hk2 => ?_⟩, fun c hc => ?_, ⟨by rw [a6]; omega, fun d hd => by rw [a6] at hd; omega⟩, ⟨?_, fun i hi => by rw [a7] at hi; omega⟩, fun j => ?_⟩
  · rw [a5] at hc
    obtain ⟨c0, c1, c2, c3, c4⟩ := bgS_cue hc h5
    have hh := iC.1 c hc
    rw [c0, c1, c2, c3, c4, a4]
    exact ⟨hh.1, hh.2.1.to fun r hr => (bgS_reel hr h5).2.2.2, by omega, ⟨fun _ => Nat.zero_le _, fun _ => rfl⟩, fun q => by omega, fun _ => Nat.zero_le _⟩
  · rw [a5] at hc
    rw [(bgS_cue (S := S) (c := c) (by omega) h5).1, (bgS_cue (S := S) (c := c + 1) (by omega) h5).1]
    exact iC.2 c hc
  · obtain ⟨c0, c1, c2, c3⟩ := bgS_reel hr h5
    have hh := iR r hr
    rw [c0, c1, c2, c3]
    exact ⟨hh.1, by omega, ⟨fun _ => rfl, fun _ => rfl⟩, by omega, by omega, fun q => absurd rfl q⟩
  · rw [(bgS_reel hr h5).2.2.2] at hk
    have h6 := (iR r hr).1
    obtain ⟨c0, c1, c2⟩ := bgS_snd (S := S) (k := 6 * r + k) (by omega) h5
    rw [c0, c1]
    exact iS.1 r hr k hk
  · rw [(bgS_snd (S := S) hj h5).2.2]; omega
  · rw [(bgS_snd (S := S) (k := 6 * r + k) (by omega) h5).2.2]
  · rw [bgS_ch (k := 2 * c) (by omega) h5, show 216 + 2 * c + 1 = 216 + (2 * c + 1) by omega, bgS_ch (k := 2 * c + 1) (by omega) h5]
    omega
  · rw [a7, cntT_zero (fun j hj => (bgS_snd hj h5).2.2)]
  · unfold bgS bg
    repeat' split
    all_goals first | omega | exact iN j
/-! the class -/
theorem q_letAll (hfl : 10000 ≤ fl) (hX : XS X p) (hN : LN len p) (hC : XC X p w) {n : Nat} (hn : n ≤ 24) (h97 : gF I 97 (p + 2) = nI n) : ∃ I1, m6_letAllCome fl len X I (p + 2) = some I1 ∧ Fr p I I1 ∧ (∀ f a, f ≠ 20 → f ≠ 98 → gF I1 f a = gF I f a) ∧ (∀ a j, gA I1 a j = gA I a j) ∧ gF I1 98 (p + 2) = nI 0 ∧ ∀ c, c < n → gF I1 20 (w c) = nI 0 := by
  have key : ∀ (j k m : Nat) (L : Im), k + j = n → j < m → Fr p I L → (∀ f a, f ≠ 20 → f ≠ 98 → gF L f a = gF I f a) → (∀ a j, gA L a j = gA I a j) → gF L 98 (p + 2) = nI 0 → (∀ c, c < k → gF L 20 (w c) = nI 0) → ∃ I1, m6_letAllCome_7 fl len X m L (p + 2) (nI k) = some I1 ∧ Fr p I I1 ∧ (∀ f a, f ≠ 20 → f ≠ 98 → gF I1 f a = gF I f a) ∧ (∀ a j, gA I1 a j = gA I a j) ∧ gF I1 98 (p + 2) = nI 0 ∧ ∀ c, c < n → gF I1 20 (w c) = nI 0 := by
    intro j
    induction j with
    | zero =>
      intro k m L hj hm f1 f2 f3 f4 f5
      obtain ⟨m, rfl⟩ : ∃ n', m = n' + 1 := ⟨m - 1, by omega⟩
      refine ⟨L, ?_, f1, f2, f3, f4, fun c hc => f5 c (by omega)⟩
      show m6_letAllCome_7b fl len X (m6_letAllCome_7 fl len X m) _ _ _ = _
      rw [m6_letAllCome_7b, f2 97 _ (by omega) (by omega), h97, if_pos (by rw [nI_leI (by omega) (by omega)]; omega)]
      rfl
    | succ j ih =>
      intro k m L hj hm f1 f2 f3 f4 f5
      obtain ⟨m, rfl⟩ : ∃ n', m = n' + 1 := ⟨m - 1, by omega⟩
      obtain ⟨q1, q2, q3⟩ := hC k (by omega)
      obtain ⟨I1, r, g⟩ := ih (k + 1) m (pF L 20 (w k) (nI 0)) (by omega) (by omega) (f1.pF (by omega) (by omega)) (fun f a h1 h2 => by rw [gF_f h1, f2 f a h1 h2]) f3 (by rw [gF_f (by omega), f4]) (fun c hc => by
        by_cases e : c = k
        · rw [e, gF_s]
        · rw [gF_a (fun q => e ((hC c (by omega)).2.2 k (by omega) q)), f5 c (by omega)])
      refine ⟨I1, ?_, g⟩
      rw [← r]
      show m6_letAllCome_7b fl len X (m6_letAllCome_7 fl len X m) _ _ _ = _
      rw [m6_letAllCome_7b, f2 97 _ (by omega) (by omega), h97, if_neg (by rw [nI_leI (by omega) (by omega)]; omega), hX.1.2.2.2.2.2.2.2.1, nn_s, hN.1.2.1, if_neg (by rw [nI_leI (by omega) (by omega)]; omega), ck_inb _ (by omega) (by omega), nI_clamp (by omega), q1, nn_s, L0, lt_e, L1, nI_add, lt_e]
  obtain ⟨I1, r, g⟩ := key n 0 fl (pF I 98 (p + 2) (nI 0)) (by omega) (by omega) (Fr.rfl.pF (by omega) (by omega)) (fun f a _ h2 => gF_f h2) (fun _ _ => rfl) gF_s (fun c hc => by omega)
  refine ⟨I1, ?_, g⟩
  rw [m6_letAllCome, L0, lt_e]
  exact r
theorem q_rewind (hfl : 10000 ≤ fl) (hX : XS X p) (hN : LN len p) (h5 : S 5 ≤ 24) {r : Nat} (hr : r < 4) (hR : RR I p S r) (hm6 : S (128 + 4 * r + 3) ≤ 6) : ∃ I1, m5_rewind fl len X I (p + 36 + 8 * r) = some I1 ∧ Fr p I I1 ∧ (∀ f a, (f < 82 ∨ (84 < f ∧ f ≠ 115)) ∨ a < p + 36 + 8 * r ∨ p + 36 + 8 * r + 8 ≤ a → gF I1 f a = gF I f a) ∧ (∀ a j, gA I1 a j = gA I a j) ∧ RR I1 p (bgS S) r := by
  obtain ⟨⟨a1, a2, a3, a4⟩, a5⟩ := hR
  obtain ⟨x1, x2, x3⟩ := hX.2.1 r hr
  obtain ⟨J, eJ⟩ : ∃ y, y = pF (pF (pF I 82 (p + 36 + 8 * r) (nI 0)) 83 (p + 36 + 8 * r) (-6 : Int32)) 84 (p + 36 + 8 * r) (nI 0) := ⟨_, rfl⟩
  have key : ∀ (j k m : Nat) (L : Im), k + j = S (128 + 4 * r + 3) → j < m → Fr p J L → (∀ f a, (f ≠ 115 ∨ a < p + 36 + 8 * r ∨ p + 36 + 8 * r + 8 ≤ a) → gF L f a = gF J f a) → (∀ a j, gA L a j = gA J a j) → (∀ c, c < k → gF L 115 (p + 36 + 8 * r + 2 + c) = nI 0) → ∃ I1, m5_rewind_18 fl len X m L (p + 36 + 8 * r) (nI k) = some I1 ∧ Fr p J I1 ∧ (∀ f a, (f ≠ 115 ∨ a < p + 36 + 8 * r ∨ p + 36 + 8 * r + 8 ≤ a) → gF I1 f a = gF J f a) ∧ (∀ a j, gA I1 a j = gA J a j) ∧ ∀ c, c < S (128 + 4 * r + 3) → gF I1 115 (p + 36 + 8 * r + 2 + c) = nI 0 := by
    intro j
    induction j with
    | zero =>
      intro k m L hj hm f1 f2 f3 f5
      obtain ⟨m, rfl⟩ : ∃ n', m = n' + 1 := ⟨m - 1, by omega⟩
      refine ⟨L, ?_, f1, f2, f3, fun c hc => f5 c (by omega)⟩
      show m5_rewind_18b fl len X (m5_rewind_18 fl len X m) _ _ _ = _
      rw [m5_rewind_18b, f2 81 _ (by omega), eJ, gF_f (by omega), gF_f (by omega), gF_f (by omega), a1, if_pos (by rw [nI_leI (by omega) (by omega)]; omega)]
      rfl
    | succ j ih =>
      intro k m L hj hm f1 f2 f3 f5
      obtain ⟨m, rfl⟩ : ∃ n', m = n' + 1 := ⟨m - 1, by omega⟩
      obtain ⟨I1, rr, g⟩ := ih (k + 1) m (pF L 115 (p + 36 + 8 * r + 2 + k) (nI 0)) (by omega) (by omega) (f1.pF (by omega) (by omega)) (fun f a h1 => by rw [gF_pF, if_neg (by omega), f2 f a h1]) f3 (fun c hc => by
        by_cases e : c = k
        · rw [e, gF_s]
        · rw [gF_a (by omega), f5 c (by omega)])
      refine ⟨I1, ?_, g⟩
      rw [← rr]
      show m5_rewind_18b fl len X (m5_rewind_18 fl len X m) _ _ _ = _
      rw [m5_rewind_18b, f2 81 _ (by omega), eJ, gF_f (by omega), gF_f (by omega), gF_f (by omega), a1, if_neg (by rw [nI_leI (by omega) (by omega)]; omega), x2, nn_s, hN.2 r hr, if_neg (by rw [nI_leI (by omega) (by omega)]; omega), ck_inb _ (by omega) (by omega), nI_clamp (by omega), x3 k (by omega), nn_s, L0, lt_e, L1, nI_add, lt_e]
  obtain ⟨I1, rr, g1, g2, g3, g4⟩ := key (S (128 + 4 * r + 3)) 0 fl J (by omega) (by omega) Fr.rfl (fun _ _ _ => rfl) (fun _ _ => rfl) (fun c hc => by omega)
  have jFr : Fr p I J := by rw [eJ]; exact ((Fr.rfl.pF (by omega) (by omega)).pF (by omega) (by omega)).pF (by omega) (by omega)
  have jo : ∀ f a, (f < 82 ∨ 84 < f ∨ a < p + 36 + 8 * r ∨ p + 36 + 8 * r + 8 ≤ a) → gF J f a = gF I f a := fun f a hf => by
    rw [eJ, gF_pF, if_neg (by omega), gF_pF, if_neg (by omega), gF_pF, if_neg (by omega)]
  obtain ⟨b0, b1, b2, b3⟩ := bgS_reel (S := S) hr h5
  refine ⟨I1, ?_, jFr.trans g1, fun f a hf => by rw [g2 f a (by omega), jo f a (by omega)], fun a j => by rw [g3, eJ]; rfl, ⟨⟨?_, ?_, ?_, ?_⟩, fun k hk => ?_⟩⟩
  · rw [m5_rewind, L0, lt_e, lt_e, lt_e, ← eJ]
    exact rr
  · rw [b3, g2 _ _ (by omega), jo _ _ (by omega)]; exact a1
  · rw [b0, g2 _ _ (by omega), eJ, gF_f (by omega), gF_f (by omega), gF_s]
  · rw [b1, g2 _ _ (by omega), eJ, gF_f (by omega), gF_s]; rfl
  · rw [b2, g2 _ _ (by omega), eJ, gF_s]
  · rw [b3] at hk
    obtain ⟨c1, c2, c3, c4⟩ := a5 k hk
    obtain ⟨s0, s1, s2⟩ := bgS_snd (S := S) (k := 6 * r + k) (by omega) h5
    rw [s0, s1, s2, begS_congr (S := S) (S' := bgS S) (fun j hj => (bgS_snd (k := 6 * r + j) (by omega) h5).1), g2 112 _ (by omega), g2 113 _ (by omega), g2 114 _ (by omega), jo 112 _ (by omega), jo 113 _ (by omega), jo 114 _ (by omega)]
    exact ⟨c1, c2, c3, g4 k hk⟩
theorem q_begin (hfl : 10000 ≤ fl) (hX : XS X p) (hN : LN len p) (hC : XC X p w) (hv : Iv S K) (hc : Cs I p S K w) : ∃ I1, m4_beginAnew fl len X I p = some (nI (S 4), I1) ∧ Fr p I I1 ∧ Cs I1 p (bgS S) 0 w := by
  obtain ⟨h5, hm6⟩ := hv.m6
  obtain ⟨b4, b5, b6, b7, b0⟩ := bgS_at (S := S)
  obtain ⟨d1, d2, d5, d6, d7, d8, d9, d10⟩ := hc
  obtain ⟨Ia, ra, fa, ga, ha, a98, a20⟩ := q_letAll (fl := fl) (len := len) (I := pF I 72 p (nI 0)) hfl hX hN hC h5 (by rw [gF_f (by omega)]; exact d2.2.1)
  have fIa : Fr p I Ia := (Fr.rfl.pF (by omega) (by omega)).trans fa
  have gIa : ∀ f a, f ≠ 20 → f ≠ 72 → f ≠ 98 → gF Ia f a = gF I f a := fun f a h1 h2 h3 => by rw [ga f a h1 h3, gF_f h2]
  -- reels
  have reels : ∀ (j r n : Nat) (L : Im), r + j = 4 → j < n → Fr p Ia L → (∀ f a, (f < 82 ∨ (84 < f ∧ f ≠ 115)) → gF L f a = gF Ia f a) → (∀ a j, gA L a j = gA Ia a j) → (∀ r', r ≤ r' → r' < 4 → RR L p S r') → (∀ r', r' < r → RR L p (bgS S) r') → ∃ I1, m4_beginAnew_19 fl len X n L p (nI (S 4)) (nI r) (p + 2) = m4_beginAnew_45 fl len X fl I1 p (nI (S 4)) (nI 0) (p + 2) (p + 28) ∧ Fr p Ia I1 ∧ (∀ f a, (f < 82 ∨ (84 < f ∧ f ≠ 115)) → gF I1 f a = gF Ia f a) ∧ (∀ a j, gA I1 a j = gA Ia a j) ∧ D9 I1 p (bgS S) := by
    intro j
    induction j with
    | zero =>
      intro r n L hj hn f1 f2 f3 f4 f5
      obtain ⟨n, rfl⟩ : ∃ n', n = n' + 1 := ⟨n - 1, by omega⟩
      refine ⟨L, ?_, f1, f2, f3, fun r' hr' => f5 r' (by omega)⟩
      show m4_beginAnew_19b fl len X (m4_beginAnew_19 fl len X n) _ _ _ _ _ = _
      rw [m4_beginAnew_19b, hX.1.2.2.1, nn_s, hN.1.2.2.1, if_pos (by rw [nI_leI (by omega) (by omega)]; omega)]
      rfl
    | succ j ih =>
      intro r n L hj hn f1 f2 f3 f4 f5
      obtain ⟨n, rfl⟩ : ∃ n', n = n' + 1 := ⟨n - 1, by omega⟩
      have hr : r < 4 := by omega
      obtain ⟨L2', q1, q2, q3, q4, q5⟩ := q_rewind (fl := fl) (len := len) hfl hX hN h5 hr (f4 r (Nat.le_refl _) hr) (hm6 r hr)
      have kp : ∀ (T : Nat → Nat) r', r' < 4 → r' ≠ r → T (128 + 4 * r' + 3) ≤ 6 → RR L p T r' → RR L2' p T r' := fun T r' h1 h2 h3 h4 => h4.to h1 h3 (fun f _ _ => q3 f _ (by omega)) (fun f k _ _ _ => q3 f _ (by omega)) (fun _ _ _ => rfl) (fun _ _ _ => rfl)
      obtain ⟨I1, r1, g⟩ := ih (r + 1) n L2' (by omega) (by omega) (f1.trans q2) (fun f a hf => by rw [q3 f a (Or.inl hf), f2 f a hf]) (fun a j => by rw [q4, f3]) (fun r' h1 h2 => kp S r' h2 (by omega) (hm6 r' h2) (f4 r' (by omega) h2)) (fun r' hr' => by
        by_cases er : r' = r
        · rw [er]; exact q5
        · exact kp (bgS S) r' (by omega) er (by rw [(bgS_reel (by omega) h5).2.2.2]; exact hm6 r' (by omega)) (f5 r' (by omega)))
      refine ⟨I1, ?_, g⟩
      rw [← r1]
      show m4_beginAnew_19b fl len X (m4_beginAnew_19 fl len X n) _ _ _ _ _ = _
      rw [m4_beginAnew_19b, hX.1.2.2.1, nn_s, hN.1.2.2.1, if_neg (by rw [nI_leI (by omega) (by omega)]; omega), ck_inb _ (by omega) (by omega), nI_clamp (by omega), (hX.2.1 r hr).1, nn_s, q1, nn_s, L1, nI_add, lt_e]
  have d9a : D9 Ia p S := d9.to hm6 (fun f a hf => gIa f a (by omega) (by omega) (by omega)) (fun _ _ _ => rfl)
  obtain ⟨Ib, rb, fb, gb, hb, b9⟩ := reels 4 0 fl Ia (by omega) (by omega) Fr.rfl (fun _ _ _ => rfl) (fun _ _ => rfl) (fun r' _ h2 => d9a r' h2) (fun r' h => by omega)
  -- channels
  have chans : ∀ (j k n : Nat) (L : Im), k + j = 4 → j < n → Fr p Ib L → (∀ f a, 1 < f → gF L f a = gF Ib f a) → (∀ a j, gA L a j = gA Ib a j) → (∀ k', k' < k → gF L 0 (p + 68 + k') = nI 50 ∧ gF L 1 (p + 68 + k') = nI 50) → ∃ I1, m4_beginAnew_45 fl len X n L p (nI (S 4)) (nI k) (p + 2) (p + 28) = some (nI (S 4), pF (pF I1 35 (p + 30) (nI 0)) 70 p (nI 0)) ∧ Fr p Ib I1 ∧ (∀ f a, 1 < f → gF I1 f a = gF Ib f a) ∧ (∀ a j, gA I1 a j = gA Ib a j) ∧ (∀ k', k' < 4 → gF I1 0 (p + 68 + k') = nI 50 ∧ gF I1 1 (p + 68 + k') = nI 50) := by
    intro j
    induction j with
    | zero =>
      intro k n L hj hn f1 f2 f3 f4
      obtain ⟨n, rfl⟩ : ∃ n', n = n' + 1 := ⟨n - 1, by omega⟩
      refine ⟨L, ?_, f1, f2, f3, fun r' hr' => f4 r' (by omega)⟩
      show m4_beginAnew_45b fl len X (m4_beginAnew_45 fl len X n) _ _ _ _ _ _ = _
      rw [m4_beginAnew_45b, hX.1.2.2.2.1, nn_s, hN.1.2.2.2.1, if_pos (by rw [nI_leI (by omega) (by omega)]; omega), hX.1.2.2.2.2.1, nn_s, L0, lt_e, lt_e]
    | succ j ih =>
      intro k n L hj hn f1 f2 f3 f4
      obtain ⟨n, rfl⟩ : ∃ n', n = n' + 1 := ⟨n - 1, by omega⟩
      have hk : k < 4 := by omega
      obtain ⟨I1, r1, g⟩ := ih (k + 1) n (pF (pF L 0 (p + 68 + k) (nI 50)) 1 (p + 68 + k) (nI 50)) (by omega) (by omega) ((f1.pF (by omega) (by omega)).pF (by omega) (by omega)) (fun f a hf => by rw [gF_f (by omega), gF_f (by omega), f2 f a hf]) f3 (fun k' hk' => by
        by_cases er : k' = k
        · rw [er]
          exact ⟨by rw [gF_f (by omega), gF_s], by rw [gF_s]⟩
        · have hq : p + 68 + k' ≠ p + 68 + k := by omega
          rw [gF_a hq, gF_a hq, gF_a hq, gF_a hq]
          exact f4 k' (by omega))
      refine ⟨I1, ?_, g⟩
      rw [← r1]
      show m4_beginAnew_45b fl len X (m4_beginAnew_45 fl len X n) _ _ _ _ _ _ = _
      rw [m4_beginAnew_45b, hX.1.2.2.2.1, nn_s, hN.1.2.2.2.1, if_neg (by rw [nI_leI (by omega) (by omega)]; omega), ck_inb _ (by omega) (by omega), nI_clamp (by omega), hX.2.2 k hk, nn_s, L50, lt_e, nn_s, lt_e, L1, nI_add, lt_e]
  obtain ⟨Ic, rc, fc, gc, hc', c10⟩ := chans 4 0 fl Ib (by omega) (by omega) Fr.rfl (fun _ _ _ => rfl) (fun _ _ => rfl) (fun r' hr' => by omega)
  have gI : ∀ f a, (1 < f ∧ (f < 20 ∨ (20 < f ∧ f < 35) ∨ (35 < f ∧ f < 70))) ∨ f = 97 → gF (pF (pF Ic 35 (p + 30) (nI 0)) 70 p (nI 0)) f a = gF I f a := fun f a hf => by
    rw [gF_f (by omega), gF_f (by omega), gc f a (by omega), gb f a (by omega), gIa f a (by omega) (by omega) (by omega)]
  have hA : ∀ a j, gA (pF (pF Ic 35 (p + 30) (nI 0)) 70 p (nI 0)) a j = gA I a j := fun a j => by
    rw [gA_pF, gA_pF, hc', hb, ha, gA_pF]
  refine ⟨_, ?_, ((fIa.trans fb).trans fc).trans ((Fr.rfl.pF (by omega) (by omega)).pF (by omega) (by omega)), d1.to (hA _) b0, ⟨?_, ?_, ?_⟩, fun c hcc => ?_, ⟨?_, fun d hd => by rw [b6] at hd; omega⟩, ⟨?_, fun j hj => by rw [b7] at hj; omega⟩, fun j hj => by rw [b4] at hj; omega, ?_, fun ch hch => ?_⟩
  · rw [m4_beginAnew, d2.1, lt_e, L0, lt_e, hX.1.2.1, nn_s, ra, nn_s, rb]
    exact rc
  · rw [gF_f (by omega), gF_f (by omega), gc _ _ (by omega), gb _ _ (by omega), ga _ _ (by omega) (by omega), gF_s, b4]
  · rw [gI 97 _ (by omega), b5]; exact d2.2.1
  · rw [gF_f (by omega), gF_f (by omega), gc _ _ (by omega), gb _ _ (by omega), a98]
  · rw [b5] at hcc
    obtain ⟨c0, c1, c2, c3, c4⟩ := bgS_cue hcc h5
    obtain ⟨e0, e1, e2, e3, e4⟩ := d5 c hcc
    rw [c0, c1, c2, c3, c4, gI 16 _ (by omega), gI 17 _ (by omega), gI 18 _ (by omega), gI 19 _ (by omega), gF_f (by omega), gF_f (by omega), gc _ _ (by omega), gb _ _ (by omega)]
    exact ⟨e0, e1, e2, e3, a20 c hcc⟩
  · rw [gF_f (by omega), gF_s, b6]
  · rw [gF_s, b7]
  · exact b9.to (fun r hr => by rw [(bgS_reel hr h5).2.2.2]; exact hm6 r hr) (fun f a hf => by rw [gF_f (by omega), gF_f (by omega), gc _ _ (by omega)]) (fun _ _ _ => rfl)
  · obtain ⟨e0, e1⟩ := c10 ch hch
    rw [gF_f (by omega), gF_f (by omega), gF_f (by omega), gF_f (by omega), bgS_ch (k := 2 * ch) (by omega) h5, show 216 + 2 * ch + 1 = 216 + (2 * ch + 1) by omega, bgS_ch (k := 2 * ch + 1) (by omega) h5]
    exact ⟨e0, e1⟩
end RM
