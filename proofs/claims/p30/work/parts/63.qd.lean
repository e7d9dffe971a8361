/-! ===== a second of the class: winding, and cues that come ===== -/
theorem nearS_self (a s : Nat) : nearS a a s = a := by
  unfold nearS
  rw [if_neg (Nat.lt_irrefl a), if_pos (by omega)]
def wdA (S : Nat → Nat) (k : Nat) : Nat → Nat := fun j => if 128 ≤ j ∧ j < 128 + 4 * k ∧ j % 4 = 0 then (if S (j + 1) = 0 then nearS (S j) (tgS S ((j - 128) / 4) (S j)) (S 0) else S j) else S j
section QD
variable {fl : Nat} {len : Nat → Nat} {X : Xm} {I I1 : Im} {p : Nat} {S S' : Nat → Nat} {K : Nat} {w : Nat → Nat}
theorem wdA_far {k j : Nat} (h : j < 128 ∨ 128 + 4 * k ≤ j ∨ j % 4 ≠ 0) : wdA S k j = S j := by
  unfold wdA
  rw [if_neg (by omega)]
theorem wdA_at {k r : Nat} (h : r < k) : wdA S k (128 + 4 * r) = if S (128 + 4 * r + 1) = 0 then nearS (S (128 + 4 * r)) (tgS S r (S (128 + 4 * r))) (S 0) else S (128 + 4 * r) := by
  unfold wdA
  rw [if_pos (by omega), show (128 + 4 * r - 128) / 4 = r by omega]
theorem q_winds (hfl : 10000 ≤ fl) (hX : XS X p) (hL : LN len p) (hC : XC X p w) (iC : IvC S K) (iB : IvB S K) (hN : Bn S) (hm : ∀ r, r < 4 → S (128 + 4 * r + 3) ≤ 6) (h67 : S 6 ≤ 24 ∧ S 7 ≤ 24) : ∀ (j r n : Nat) (I : Im), r + j = 4 → j < n → Cs I p (wdA S r) K w → ∃ I1, Fr p I I1 ∧ Cs I1 p (wdA S 4) K w ∧ m4_windReels_2 fl len X n I p (nI r) = some I1 := by
  intro j
  induction j with
  | zero =>
    intro r n I hj hn hc
    obtain ⟨n, rfl⟩ : ∃ n', n = n' + 1 := ⟨n - 1, by omega⟩
    have hk : r = 4 := by omega
    rw [hk] at hc
    refine ⟨I, Fr.rfl, hc, ?_⟩
    rw [hk]
    show m4_windReels_2b fl len X (m4_windReels_2 fl len X n) _ p _ = _
    rw [m4_windReels_2b, hX.1.2.2.1, nn_s, hL.1.2.2.1, if_pos (Int32.le_refl _)]
  | succ j ih =>
    intro r n I hj hn hc
    obtain ⟨n, rfl⟩ : ∃ n', n = n' + 1 := ⟨n - 1, by omega⟩
    have hcs := hc
    obtain ⟨d1, d2, d5, d6, d7, d8, d9, d10⟩ := hc
    have hr : r < 4 := by omega
    have hg0 : ∀ j, (j < 128 ∨ 128 + 4 * r ≤ j ∨ j % 4 ≠ 0) → wdA S r j = S j := fun j hj => wdA_far hj
    have hB5 := iB.2.2
    obtain ⟨⟨a1, a2, a3, a4⟩, a5⟩ := d9 r hr
    rw [hg0 _ (by omega)] at a1 a2 a3 a4
    have hfar : ∀ j, j ≠ 128 + 4 * r → wdA S (r + 1) j = wdA S r j := by
      intro j hj
      unfold wdA
      by_cases h1 : 128 ≤ j ∧ j < 128 + 4 * r ∧ j % 4 = 0
      · rw [if_pos h1, if_pos (show 128 ≤ j ∧ j < 128 + 4 * (r + 1) ∧ j % 4 = 0 by omega)]
      · rw [if_neg h1, if_neg (show ¬ (128 ≤ j ∧ j < 128 + 4 * (r + 1) ∧ j % 4 = 0) by omega)]
    have hat := wdA_at (S := S) (k := r + 1) (r := r) (by omega)
    have iC' : IvC (wdA S r) K := iC.to (fun j _ _ => hg0 j (by omega)) (hg0 _ (by omega)) (hg0 _ (by omega)) iB.2.2 (fun r' hr' => hg0 _ (by omega))
    have iB' : IvB (wdA S r) K := ⟨by rw [hg0 4 (by omega)]; exact iB.1, by rw [hg0 5 (by omega)]; exact iB.2.1, by rw [hg0 5 (by omega)]; exact iB.2.2⟩
    have nx : nxF (wdA S r) r (wdA S r 5) 0 = nxF S r (S 5) 0 := by
      rw [hg0 5 (by omega)]
      exact nxF_congr fun i _ hi => ⟨hg0 _ (by omega), hg0 _ (by omega), hg0 _ (by omega)⟩
    have n0 := hN (128 + 4 * r)
    have n1 := hN (128 + 4 * r + 1)
    -- the reel's new place, however it comes
    have fin : ∀ (I1 : Im) (x : Nat), x = wdA S (r + 1) (128 + 4 * r) → (∀ f a, f ≠ 82 ∨ a ≠ p + 36 + 8 * r → gF I1 f a = gF I f a) → (∀ a j, gA I1 a j = gA I a j) → gF I1 82 (p + 36 + 8 * r) = nI x → Fr p I I1 → ∃ I2, Fr p I I2 ∧ Cs I2 p (wdA S 4) K w ∧ m4_windReels_2 fl len X n I1 p (nI (r + 1)) = some I2 := by
      intro I1 x ex gf ga g82 hfr1
      have hc1 : Cs I1 p (wdA S (r + 1)) K w := by
        refine ⟨d1.to (fun j => ga _ j) (fun j hj => hfar j (by omega)), d2.to (gf _ _ (by omega)) (gf _ _ (by omega)) (gf _ _ (by omega)) (hfar _ (by omega)) (hfar _ (by omega)), d5.to (fun f a h1 h2 => gf f a (by omega)) (hfar _ (by omega)) (by rw [hg0 5 (by omega)]; exact hB5) (fun j _ _ => hfar j (by omega)), d6.to (gf _ _ (by omega)) (fun a j _ _ => ga a j) (hfar _ (by omega)) (by rw [hg0 6 (by omega)]; exact h67.1) (fun j _ _ => hfar j (by omega)), d7.to (gf _ _ (by omega)) (fun j => ga _ j) (hfar _ (by omega)) (by rw [hg0 7 (by omega)]; exact h67.2) (fun j _ _ => hfar j (by omega)), d8.to (fun j => ga _ j) (hfar _ (by omega)) (fun j _ => hfar j (by omega)), fun r' hr' => ?_, d10.to (fun f a hf => gf f a (by omega)) (fun j _ _ => hfar j (by omega))⟩
        by_cases er : r' = r
        · subst er
          refine ⟨⟨?_, ?_, ?_, ?_⟩, fun k hk => ?_⟩
          · rw [gf _ _ (by omega), wdA_far (by omega)]; exact a1
          · rw [g82, ex]
          · rw [gf _ _ (by omega), wdA_far (by omega)]; exact a3
          · rw [gf _ _ (by omega), wdA_far (by omega)]; exact a4
          · rw [wdA_far (by omega)] at hk
            have h6' := hm r' hr'
            have := a5 k (by rw [hg0 _ (by omega)]; exact hk)
            rw [gf _ _ (by omega), gf _ _ (by omega), gf _ _ (by omega), gf _ _ (by omega), hfar _ (by omega), hfar _ (by omega), hfar _ (by omega), begS_congr (S := wdA S r') (S' := wdA S (r' + 1)) (fun j hj => hfar _ (by omega))]
            exact this
        · exact (d9 r' hr').to hr' (by rw [hg0 _ (by omega)]; exact hm r' hr') (fun f _ _ => gf f _ (by omega)) (fun f k _ _ _ => gf f _ (by omega)) (fun j _ _ => hfar j (by omega)) (fun j _ _ => hfar j (by omega))
      obtain ⟨I2, hfr, hc2, hrun⟩ := ih (r + 1) n I1 (by omega) (by omega) hc1
      exact ⟨I2, hfr1.trans hfr, hc2, hrun⟩
    have stay : wdA S (r + 1) (128 + 4 * r) = S (128 + 4 * r) → ∃ I2, Fr p I I2 ∧ Cs I2 p (wdA S 4) K w ∧ m4_windReels_2 fl len X n I p (nI (r + 1)) = some I2 := fun he =>
      fin I (S (128 + 4 * r)) he.symm (fun _ _ _ => rfl) (fun _ _ => rfl) a2 Fr.rfl
    have e0 : ∀ V, m4_windReels_2b fl len X (m4_windReels_2 fl len X n) I p (nI r) = V → m4_windReels_2 fl len X (n + 1) I p (nI r) = V := fun V h => h
    by_cases hp : S (128 + 4 * r + 1) = 0
    · rw [if_pos hp] at hat
      have hnx := q_next (fl := fl) (len := len) (X := X) (I := I) (p := p) (w := w) hfl hX hL hC d2 d5 iC' iB' (S := wdA S r) (K := K) hr
      rw [nx] at hnx
      cases hx9 : nxF S r (S 5) 0 with
      | none =>
        have et : tgS S r (S (128 + 4 * r)) = S (128 + 4 * r) := by unfold tgS; rw [hx9]
        obtain ⟨I2, f1, f2, f3⟩ := stay (by rw [hat, et, nearS_self])
        refine ⟨I2, f1, f2, e0 _ ?_⟩
        rw [← f3]
        rw [hx9] at hnx
        rw [m4_windReels_2b, hX.1.2.2.1, nn_s, hL.1.2.2.1, if_neg (by rw [nI_leI (by omega) (by omega)]; omega), ck_inb _ (by omega) (by omega), nI_clamp (by omega), (hX.2.1 r hr).1, nn_s, a3, hp, plI_0, if_pos rfl, hX.1.2.1, nn_s, hnx, nn_s, show oI none = (-6 : Int32) from rfl, q_cue0 d2.2.1 (Or.inl (by decide)), nn_s, if_pos rfl, m4_windReels_62, if_pos rfl, m4_windReels_98, lt_e, L1, nI_add]
      | some c =>
        obtain ⟨-, h2, -, h4, h5⟩ := nxF_some hx9
        have hcue := (iC.1 c (by omega)).2.1
        have hv := hcue.2.2.1 h4
        rw [h5] at hv
        have h6' := hm r hr
        have et : tgS S r (S (128 + 4 * r)) = begS S r (S (8 + 5 * c + 3)) := by unfold tgS; rw [hx9]
        have hb : begS S r (S (8 + 5 * c + 3)) < 2 ^ 30 := by
          have := begS_lt hN r (S (8 + 5 * c + 3))
          have : S (8 + 5 * c + 3) * 1000000 ≤ 6 * 1000000 := Nat.mul_le_mul_right _ (by omega)
          omega
        have hn0 := hN 0
        have e19 := (d5 c (by rw [hg0 5 (by omega)]; omega)).2.2.2.1
        rw [hg0 _ (by omega)] at e19
        have e114 := (a5 (S (8 + 5 * c + 3)) (by rw [hg0 _ (by omega)]; exact hv)).2.2.1
        rw [begS_congr (S := S) (S' := wdA S r) (fun j hj => hg0 _ (by omega))] at e114
        rw [et] at hat
        obtain ⟨I2, f1, f2, f3⟩ := fin (pF I 82 (p + 36 + 8 * r) (nI (nearS (S (128 + 4 * r)) (begS S r (S (8 + 5 * c + 3))) (S 0)))) _ hat.symm (fun f a hf => by rw [gF_pF, if_neg (by omega)]) (fun _ _ => rfl) gF_s (Fr.rfl.pF (by omega) (by omega))
        refine ⟨I2, f1, f2, e0 _ ?_⟩
        rw [← f3]
        rw [hx9] at hnx
        rw [m4_windReels_2b, hX.1.2.2.1, nn_s, hL.1.2.2.1, if_neg (by rw [nI_leI (by omega) (by omega)]; omega), ck_inb _ (by omega) (by omega), nI_clamp (by omega), (hX.2.1 r hr).1, nn_s, a3, hp, plI_0, if_pos rfl, hX.1.2.1, nn_s, hnx, nn_s, show oI (some c) = nI c from rfl, q_cue hX hL hC (n := S 5) hB5 (by rw [d2.2.1, hg0 5 (by omega)]) (by omega), nn_s, if_neg (by simp), nn_s, nn_s, e19, q_snd hX hL hr h6' a1 hv, nn_s, m4_windReels_62, if_neg (by simp), hL.1.2.2.1, ck_inb _ (by omega) (by omega), nI_clamp (by omega), (hX.2.1 r hr).1, nn_s, nn_s, nn_s, hX.1.1, nn_s, hL.1.1, L0, ck_inb _ (by omega) (by omega), nI_clamp (by omega), a2, e114, d1 0 (by omega), hg0 0 (by omega), q_near (by omega) hb (by omega), nn_s, lt_e, m4_windReels_98, lt_e, L1, nI_add]
    · rw [if_neg hp] at hat
      obtain ⟨I2, f1, f2, f3⟩ := stay hat
      refine ⟨I2, f1, f2, e0 _ ?_⟩
      rw [← f3]
      rw [m4_windReels_2b, hX.1.2.2.1, nn_s, hL.1.2.2.1, if_neg (by rw [nI_leI (by omega) (by omega)]; omega), ck_inb _ (by omega) (by omega), nI_clamp (by omega), (hX.2.1 r hr).1, nn_s, a3, if_neg (by rw [plI_eq (by omega)]; exact hp), m4_windReels_98, lt_e, L1, nI_add]
/-! cues that come -/
/-- a sound is called -/
theorem q_call {r k : Nat} (hX : XS X p) (hL : LN len p) (h : Iv S K) (h7 : D7 I p S) (h9 : D9 I p S) (hr : r < 4) (hk : k < S (128 + 4 * r + 3)) :
    (S (128 + 4 * r + 1) ≠ 0 → m4_callSound fl len X I p (nI r) (nI k) = some (nI 2, I)) ∧
    (S (128 + 4 * r + 1) = 0 → S (128 + 4 * r) ≠ begS S r k → m4_callSound fl len X I p (nI r) (nI k) = some (nI 3, I)) ∧
    (S (128 + 4 * r + 1) = 0 → S (128 + 4 * r) = begS S r k → ∃ I1, m4_callSound fl len X I p (nI r) (nI k) = some (nI 1, I1) ∧ Fr p I I1 ∧ (∀ f a, f ≠ 70 → f ≠ 83 → f ≠ 84 → f ≠ 115 → gF I1 f a = gF I f a) ∧ (∀ a j, a ≠ p + 34 → gA I1 a j = gA I a j) ∧ D7 I1 p (startS S r k) ∧ D9 I1 p (startS S r k)) := by
  obtain ⟨iA, iB, iC, iR, iS, iH, iD, iP, iN⟩ := id h
  obtain ⟨r1, r2, r3, r4, r5, r6⟩ := iR r hr
  obtain ⟨⟨a1, a2, a3, a4⟩, a5⟩ := h9 r hr
  obtain ⟨b1, b2, b3, b4⟩ := a5 k hk
  have hk6 : k < 6 := by omega
  have hN1 := iN (128 + 4 * r)
  have hNt := iN (144 + 3 * (6 * r + k) + 2)
  have hbg := begS_31 iN (r := r) (k := k) (by omega)
  have h7l : S 7 ≤ 24 := by rw [iP.1]; exact cntT_le S 24
  refine ⟨fun hp => ?_, fun hp hb => ?_, fun hp hb => ?_⟩
  · rw [m4_callSound, q_reel hX hL hr, nn_s, if_neg (by simp), nn_s, a3, if_neg (by rw [plI_eq (by omega)]; exact hp)]
    rfl
  · rw [m4_callSound, q_reel hX hL hr, nn_s, if_neg (by simp), nn_s, a3, if_pos (by rw [hp]; rfl), q_snd hX hL hr r1 a1 hk, nn_s, if_neg (by simp), nn_s, a2, b3, if_neg (by rw [nI_eq (by omega) hbg]; exact hb)]
    rfl
  · have h7' : S (144 + 3 * (6 * r + k) + 2) = 0 → S 7 < 24 := fun q => h7_lt h hr hk6 q
    obtain ⟨s1, s2, s3, s4, s5⟩ := startS_1 hr hk6 h7'
    obtain ⟨J, eJ⟩ : ∃ y, y = pF (pF I 83 (p + 36 + 8 * r) (nI k)) 84 (p + 36 + 8 * r) (nI (S (144 + 3 * (6 * r + k)))) := ⟨_, rfl⟩
    have jA : ∀ a j, gA J a j = gA I a j := fun a j => by rw [eJ]; rfl
    have jF : ∀ f a, f ≠ 83 → f ≠ 84 → gF J f a = gF I f a := fun f a h1 h2 => by rw [eJ, gF_f h2, gF_f h1]
    have j83 : gF J 83 (p + 36 + 8 * r) = nI k := by rw [eJ, gF_f (by omega), gF_s]
    have j84 : gF J 84 (p + 36 + 8 * r) = nI (S (144 + 3 * (6 * r + k))) := by rw [eJ, gF_s]
    have jo : ∀ f a, a ≠ p + 36 + 8 * r → gF J f a = gF I f a := fun f a h1 => by rw [eJ, gF_a h1, gF_a h1]
    have jFr : Fr p I J := by rw [eJ]; exact (Fr.rfl.pF (by omega) (by omega)).pF (by omega) (by omega)
    -- the end, over any memory that holds the row of firsts
    have fin : ∀ I2, Fr p J I2 → (∀ f a, f ≠ 70 → gF I2 f a = gF J f a) → (∀ a j, a ≠ p + 34 → gA I2 a j = gA J a j) → (gF I2 70 p = nI (startS S r k 7) ∧ ∀ j, j < startS S r k 7 → gA I2 (p + 34) j = nI (startS S r k (296 + j))) →
        ∃ I1, m4_callSound_115 fl len X I2 (p + 36 + 8 * r + 2 + k) = some (nI 1, I1) ∧ Fr p I I1 ∧ (∀ f a, f ≠ 70 → f ≠ 83 → f ≠ 84 → f ≠ 115 → gF I1 f a = gF I f a) ∧ (∀ a j, a ≠ p + 34 → gA I1 a j = gA I a j) ∧ D7 I1 p (startS S r k) ∧ D9 I1 p (startS S r k) := by
      intro I2 f1 f2 f3 f4
      refine ⟨pF I2 115 (p + 36 + 8 * r + 2 + k) (gF I2 115 (p + 36 + 8 * r + 2 + k) + 1), rfl, (jFr.trans f1).pF (by omega) (by omega), fun f a h1 h2 h3 h4 => by rw [gF_f h4, f2 f a h1, jF f a h2 h3], fun a j ha => by rw [gA_pF, f3 a j ha, jA], ⟨by rw [gF_f (by omega)]; exact f4.1, fun j hj => f4.2 j hj⟩, fun r' hr' => ?_⟩
      have e115 : gF I2 115 (p + 36 + 8 * r + 2 + k) + 1 = nI (S (144 + 3 * (6 * r + k) + 2) + 1) := by
        rw [f2 _ _ (by omega), jF _ _ (by omega) (by omega), b4, L1, nI_add]
      rw [e115]
      by_cases er : r' = r
      · subst er
        refine ⟨⟨?_, ?_, ?_, ?_⟩, fun k' hk' => ?_⟩
        · rw [gF_f (by omega), f2 _ _ (by omega), jF _ _ (by omega) (by omega), startS_far hr hk6 h7' (by omega) (by omega) (by omega) (by omega) (by omega)]; exact a1
        · rw [gF_f (by omega), f2 _ _ (by omega), jF _ _ (by omega) (by omega), startS_far hr hk6 h7' (by omega) (by omega) (by omega) (by omega) (by omega)]; exact a2
        · rw [gF_f (by omega), f2 _ _ (by omega), j83, s1, plI_n (by omega), Nat.add_sub_cancel]
        · rw [gF_f (by omega), f2 _ _ (by omega), j84, s2]
        · rw [startS_far hr hk6 h7' (by omega) (by omega) (by omega) (by omega) (by omega)] at hk'
          obtain ⟨c1, c2, c3, c4⟩ := a5 k' hk'
          have eb : begS (startS S r' k) r' k' = begS S r' k' := begS_congr fun j hj => startS_far hr hk6 h7' (by omega) (by omega) (by omega) (by omega) (by omega)
          rw [gF_f (by omega), gF_f (f := 115) (g := 113) (by omega), gF_f (f := 115) (g := 114) (by omega), f2 _ _ (by omega), f2 _ _ (by omega), f2 _ _ (by omega), jF _ _ (by omega) (by omega), jF _ _ (by omega) (by omega), jF _ _ (by omega) (by omega), eb, startS_far hr hk6 h7' (j := 144 + 3 * (6 * r' + k')) (by omega) (by omega) (by omega) (by omega) (by omega), startS_far hr hk6 h7' (j := 144 + 3 * (6 * r' + k') + 1) (by omega) (by omega) (by omega) (by omega) (by omega)]
          refine ⟨c1, c2, c3, ?_⟩
          by_cases ek : k' = k
          · rw [ek, gF_s, s3]
          · rw [gF_a (by omega), f2 _ _ (by omega), jF _ _ (by omega) (by omega), startS_far hr hk6 h7' (by omega) (by omega) (by omega) (by omega) (by omega)]
            exact c4
      · have h6' := (iR r' hr').1
        refine (h9 r' hr').to hr' h6' (fun f h1 h2 => ?_) (fun f k' h1 h2 h3 => ?_) (fun j h1 h2 => startS_far hr hk6 h7' (by omega) (by omega) (by omega) (by omega) (by omega)) (fun j h1 h2 => startS_far hr hk6 h7' (by omega) (by omega) (by omega) (by omega) (by omega))
        · rw [gF_f (by omega), f2 _ _ (by omega), jo _ _ (by omega)]
        · rw [gF_a (by omega), f2 _ _ (by omega), jo _ _ (by omega)]
    rw [m4_callSound, q_reel hX hL hr, nn_s, if_neg (by simp), nn_s, a3, if_pos (by rw [hp]; rfl), q_snd hX hL hr r1 a1 hk, nn_s, if_neg (by simp), nn_s, a2, b3, if_pos (by rw [hb]), lt_e, lt_e, gF_f (f := 83) (g := 112) (by omega), b1, ← eJ, jF 115 _ (by omega) (by omega), b4, jF 70 _ (by omega) (by omega), h7.1]
    by_cases ht : S (144 + 3 * (6 * r + k) + 2) = 0
    · have h7'' := h7' ht
      rw [if_pos ht] at s4
      rw [if_pos (by rw [ht]; rfl), if_neg (nI_nneg (by omega)), hX.1.2.2.2.2.2.1, nn_s, hL.1.2.2.2.2.2.2.2.1, if_neg (by rw [nI_leI (by omega) (by omega)]; omega), ck_inb _ (by omega) (by omega), nI_clamp (by omega), L6, L1, nI_mul, nI_add, lt_e, gF_pA, jF 70 _ (by omega) (by omega), h7.1, nI_add, lt_e]
      refine fin _ ((Fr.rfl.pA (by omega) (by omega)).pF (by omega) (by omega)) (fun f a hf => by rw [gF_f hf, gF_pA]) (fun a j ha => by rw [gA_pF, gA_a ha]) ⟨by rw [gF_s, s4], fun j hj => ?_⟩
      rw [s4] at hj
      rw [gA_pF, s5 j (by omega)]
      by_cases ej : j = S 7
      · rw [if_pos ⟨ht, ej⟩, ej, gA_s, Nat.mul_comm]
      · rw [if_neg (fun q => ej q.2), gA_j ej, jA]
        exact h7.2 j (by omega)
    · rw [if_neg ht] at s4
      rw [if_neg (by rw [L0, nI_eq (by omega) (by omega)]; exact ht)]
      refine fin J Fr.rfl (fun _ _ _ => rfl) (fun _ _ _ => rfl) ⟨by rw [jF _ _ (by omega) (by omega), s4]; exact h7.1, fun j hj => ?_⟩
      rw [s4] at hj
      rw [s5 j (by omega), if_neg (fun q => ht q.1), jA]
      exact h7.2 j hj
/-- a door slams -/
theorem q_slam {a b c : Nat} (hX : XS X p) (hL : LN len p) (h6 : D6 I p S) (hl : S 6 < 24) : ∃ I1, m2_slam fl len X I (p + 30) (nI a) (nI b) (nI c) = some I1 ∧ Fr p I I1 ∧ (∀ f a, f ≠ 35 → gF I1 f a = gF I f a) ∧ (∀ a j, (a < p + 31 ∨ p + 33 < a) → gA I1 a j = gA I a j) ∧ D6 I1 p (upN (upN (upN (upN S (224 + 3 * S 6) a) (224 + 3 * S 6 + 1) b) (224 + 3 * S 6 + 2) c) 6 (S 6 + 1)) := by
  refine ⟨pF (pA (pA (pA I (p + 31) (S 6) (nI a)) (p + 32) (S 6) (nI b)) (p + 33) (S 6) (nI c)) 35 (p + 30) (nI (S 6 + 1)), ?_, (((Fr.rfl.pA (by omega) (by omega)).pA (by omega) (by omega)).pA (by omega) (by omega)).pF (by omega) (by omega), fun f a hf => by rw [gF_f hf]; rfl, fun a j ha => by rw [gA_pF, gA_a (by omega), gA_a (by omega), gA_a (by omega)], ?_, fun d hd => ?_⟩
  · rw [m2_slam, m2_slam_56, h6.1, if_neg (nI_nneg (by omega)), L24, if_neg (by rw [nI_leI (by omega) (by omega)]; omega), hX.1.2.2.2.2.2.2.2.2.1, nn_s, hL.1.2.2.2.2.1, ck_inb _ (by omega) (by omega), nI_clamp (by omega), lt_e, hX.1.2.2.2.2.2.2.2.2.2.1, nn_s, gF_pA, h6.1, hL.1.2.2.2.2.2.1, ck_inb _ (by omega) (by omega), nI_clamp (by omega), lt_e, hX.1.2.2.2.2.2.2.2.2.2.2, nn_s, gF_pA, gF_pA, h6.1, hL.1.2.2.2.2.2.2.1, ck_inb _ (by omega) (by omega), nI_clamp (by omega), lt_e, gF_pA, gF_pA, gF_pA, h6.1, L1, nI_add, lt_e]
    rfl
  · rw [gF_s, upN_eq]
  · rw [upN_eq] at hd
    rw [gA_pF, gA_pF, gA_pF]
    by_cases ed : d = S 6
    · subst ed
      rw [gA_a (by omega), gA_a (by omega), gA_s, gA_a (by omega), gA_s, gA_s]
      simp (disch := omega) only [upN_ne, upN_eq, and_self]
    · rw [gA_j ed, gA_j ed, gA_j ed, gA_j ed, gA_j ed, gA_j ed, gA_j ed, gA_j ed, gA_j ed]
      simp (disch := omega) only [upN_ne]
      exact h6.2 d (by omega)
end QD
