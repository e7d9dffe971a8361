/-! ===== the law's questions: cues, what was heard ===== -/
section CN
variable {fl : Nat} {len : Nat → Nat} {X X1 : Xm} {I I1 I2 : Im} {a b : Nat} {S S' : Nat → Nat} {K K' : Nat} {T T' : Nat → Nat → Nat}
theorem bad_at {n : Nat} (h : n < 2 ^ 31) : bad n (nI n) := Or.inr ⟨nI_nneg h, Int32.le_refl _⟩
theorem bad_m1 {n : Nat} : bad n (-1 : Int32) := Or.inl (by decide)
theorem g_areCues (hfl : 10000 ≤ fl) (hG : LG len b) (ha : a = b + 799) (hL : LL len a) {zq : Nat} (hq : b + 808 ≤ zq) (hlq : len zq = 4) (hT : LT T S) (hc : Cl I X b S K) (hr : ∀ i, i < 9 → ∀ j, gA I (a + i) j = nI (T i j)) (hz : ∀ j, gA I zq j = 0) :
    ∃ I1, m9_areCues fl len X I b a (a + 1) (a + 2) zq = some (1, I1) ∧ Cl I1 X b S K ∧ (∀ i, i < 9 → ∀ j, gA I1 (a + i) j = nI (T i j)) ∧ ∀ c, (c < b ∨ b + 808 ≤ c) → c ≠ zq → (∀ f, gF I1 f c = gF I f c) ∧ ∀ j, gA I1 c j = gA I c j := by
  have hv := hc.iv
  have h5 := hv.m6.1
  obtain ⟨l0, l1, l2, l3, l4, l5, l6, l7, l8⟩ := id hL
  have f5 := hT.1 5 (by omega)
  have key : ∀ (j c n : Nat) (J : Im), c + j = S 5 → j < n → Cl J X b S K → (∀ i, i < 9 → ∀ j, gA J (a + i) j = nI (T i j)) → (∀ v, v < 4 → gA J zq v = nI (cntC S v c)) → ∃ I1, m9_areCues_37 fl len X n J b a (a + 1) (a + 2) zq (1 : Int32) (nI c) = some (1, I1) ∧ Cl I1 X b S K ∧ (∀ i, i < 9 → ∀ j, gA I1 (a + i) j = nI (T i j)) ∧ ∀ c, (c < b ∨ b + 808 ≤ c) → c ≠ zq → (∀ f, gF I1 f c = gF J f c) ∧ ∀ j, gA I1 c j = gA J c j := by
    intro j
    induction j with
    | zero =>
      intro c n J hj hn hcJ hrJ hm
      obtain ⟨n, rfl⟩ : ∃ n', n = n' + 1 := ⟨n - 1, by omega⟩
      have r0 : ∀ j, gA J a j = nI (T 0 j) := hrJ 0 (by omega)
      have ec : c = S 5 := by omega
      refine ⟨J, ?_, hcJ, hrJ, fun _ _ _ => ⟨fun _ => rfl, fun _ => rfl⟩⟩
      obtain ⟨k0, k1, k2, k3, k4, k5, -, -, -, k9, k10, k11, k12⟩ := a_count (fl := fl) (len := len) hfl hG hcJ
      show m9_areCues_37b fl len X (m9_areCues_37 fl len X n) _ _ _ _ _ _ _ _ = _
      rw [m9_areCues_37b, l0, L5, ck_inb _ (by omega) (by omega), nI_clamp (by omega), r0, f5, if_pos (by rw [nI_leI (by omega) (by omega)]; omega), m9_areCues_192, if_neg (by decide), k0, nn_s, l0, ck_t (c := inb (4 : Int32) 8 = true) _ (by decide), show (4 : Int32).toNatClampNeg = 4 from rfl, r0, hT.1 4 (by omega), if_pos rfl, k1, nn_s, ck_t (c := inb (5 : Int32) 8 = true) _ (by decide), show (5 : Int32).toNatClampNeg = 5 from rfl, r0, f5, if_pos rfl, k2, nn_s, hlq, ck_t (c := inb (0 : Int32) 4 = true) _ (by decide), show (0 : Int32).toNatClampNeg = 0 from rfl, hm 0 (by omega), if_pos (by rw [ec]), k3, nn_s, ck_t (c := inb (1 : Int32) 4 = true) _ (by decide), show (1 : Int32).toNatClampNeg = 1 from rfl, hm 1 (by omega), if_pos (by rw [ec]), k4, nn_s, ck_t (c := inb (2 : Int32) 4 = true) _ (by decide), show (2 : Int32).toNatClampNeg = 2 from rfl, hm 2 (by omega), if_pos (by rw [ec]), k5, nn_s, ck_t (c := inb (3 : Int32) 4 = true) _ (by decide), show (3 : Int32).toNatClampNeg = 3 from rfl, hm 3 (by omega), if_pos (by rw [ec]), k9, nn_s, ck_t (c := inb (0 : Int32) 8 = true) _ (by decide), r0, hT.1 0 (by omega), if_pos rfl, k10, nn_s, ck_t (c := inb (1 : Int32) 8 = true) _ (by decide), r0, hT.1 1 (by omega), if_pos rfl, k11, nn_s, ck_t (c := inb (2 : Int32) 8 = true) _ (by decide), r0, hT.1 2 (by omega), if_pos rfl, k12, nn_s, ck_t (c := inb (3 : Int32) 8 = true) _ (by decide), r0, hT.1 3 (by omega), if_pos rfl, m9_areCues_320, ck_isbl1]
    | succ j ih =>
      intro c n J hj hn hcJ hrJ hm
      obtain ⟨n, rfl⟩ : ∃ n', n = n' + 1 := ⟨n - 1, by omega⟩
      have r0 : ∀ j, gA J a j = nI (T 0 j) := hrJ 0 (by omega)
      have hcl : c < S 5 := by omega
      obtain ⟨e1, e2⟩ := hT.2.1 c hcl
      obtain ⟨⟨v1, v2, v3, v4⟩, ⟨b1, b2, b3, b4⟩, b5⟩ := cv_ok hv hcl
      have hst := (hv.2.2.1.1 c hcl).2.2.2.1
      have o0 : m8_ofCue fl len X J b (nI c) (0 : Int32) = some (nI (S (8 + 5 * c))) := a_ofCue hG hcJ hcl (k := 0) (by omega)
      have o1 : m8_ofCue fl len X J b (nI c) (1 : Int32) = some (nI (S (8 + 5 * c + 1))) := a_ofCue hG hcJ hcl (k := 1) (by omega)
      have o2 : m8_ofCue fl len X J b (nI c) (2 : Int32) = some (nI (S (8 + 5 * c + 2))) := a_ofCue hG hcJ hcl (k := 2) (by omega)
      have o3 : m8_ofCue fl len X J b (nI c) (3 : Int32) = some (nI (S (8 + 5 * c + 3))) := a_ofCue hG hcJ hcl (k := 3) (by omega)
      have o4 : m8_ofCue fl len X J b (nI c) (4 : Int32) = some (nI (S (8 + 5 * c + 4))) := a_ofCue hG hcJ hcl (k := 4) (by omega)
      -- the count of this cue, and on
      have fin : ∀ J2 : Im, Cl J2 X b S K → (∀ i, i < 9 → ∀ j, gA J2 (a + i) j = nI (T i j)) → (∀ v, v < 4 → gA J2 zq v = nI (cntC S v c)) → (∀ c, (c < b ∨ b + 808 ≤ c) → c ≠ zq → (∀ f, gF J2 f c = gF J f c) ∧ ∀ j, gA J2 c j = gA J c j) → ∃ I1, m9_areCues_164 fl len X (m9_areCues_37 fl len X n) J2 b a (a + 1) (a + 2) zq (nI c) = some (1, I1) ∧ Cl I1 X b S K ∧ (∀ i, i < 9 → ∀ j, gA I1 (a + i) j = nI (T i j)) ∧ ∀ c, (c < b ∨ b + 808 ≤ c) → c ≠ zq → (∀ f, gF I1 f c = gF J f c) ∧ ∀ j, gA I1 c j = gA J c j := by
        intro J2 hc2 hr2 hm2 hf2
        obtain ⟨J3, eJ3⟩ : ∃ y, y = pA J2 zq (S (8 + 5 * c + 4)) (nI (cntC S (S (8 + 5 * c + 4)) c + 1)) := ⟨_, rfl⟩
        have r3 : ∀ x, x ≠ zq → (∀ f, gF J3 f x = gF J2 f x) ∧ ∀ j, gA J3 x j = gA J2 x j := fun x hx => by
          rw [eJ3]
          exact ⟨fun f => rfl, fun j => gA_a hx⟩
        obtain ⟨I1, g1, g2, g3, g4⟩ := ih (c + 1) n J3 (by omega) (by omega) (hc2.out fun x h1 h2 => r3 x (by omega)) (fun i hi j => by rw [(r3 _ (by omega)).2]; exact hr2 i hi j) (fun v hv4 => by
          show _ = nI (cntC S v c + if S (8 + 5 * c + 4) = v then 1 else 0)
          rw [eJ3]
          by_cases e : v = S (8 + 5 * c + 4)
          · rw [e, gA_s, if_pos rfl]
          · rw [gA_j e, hm2 v hv4, if_neg (fun q => e q.symm)]
            rfl)
        refine ⟨I1, ?_, g2, g3, fun x h1 h2 => ⟨fun f => by rw [(g4 x h1 h2).1, (r3 x h2).1, (hf2 x h1 h2).1], fun j => by rw [(g4 x h1 h2).2, (r3 x h2).2, (hf2 x h1 h2).2]⟩⟩
        rw [← g1, m9_areCues_164, m9_areCues_169, l2, ck_inb _ (by omega) (by omega), nI_clamp (by omega), hr2 2 (by omega), e2, L2048, nI_div (by omega) (by omega), v4, hlq, ck_inb _ (by omega) (by omega), nI_clamp (by omega), hm2 _ (by omega), L1, nI_add, ← eJ3, lt_e, nI_add, lt_e]
      show ∃ I1, m9_areCues_37b fl len X (m9_areCues_37 fl len X n) J b a (a + 1) (a + 2) zq (1 : Int32) (nI c) = some (1, I1) ∧ _
      rw [m9_areCues_37b, l0, L5, ck_inb _ (by omega) (by omega), nI_clamp (by omega), r0, f5, if_neg (by rw [nI_leI (by omega) (by omega)]; omega), if_neg (by decide), o0, nn_s, l1, ck_inb _ (by omega) (by omega), nI_clamp (by omega), hrJ 1 (by omega), e1, if_pos rfl, o1, nn_s, l2, ck_inb _ (by omega) (by omega), hrJ 2 (by omega), e2, show (4 : Int32) = nI 4 from rfl, nI_mod (by omega) (by omega), v1, if_pos rfl, o2, nn_s, nI_div (by omega) (by omega), nI_mod (by omega) (by omega), v2, if_pos rfl, o3, nn_s, L16, nI_div (by omega) (by omega), L128, nI_mod (by omega) (by omega), v3, if_pos rfl, show m8_ofCue fl len X J b (nI c) (nI 4) = some (nI (S (8 + 5 * c + 4))) from o4, nn_s, L2048, nI_div (by omega) (by omega), v4, if_pos rfl]
      by_cases q : cv S c < 2048
      · rw [if_pos (by rw [nI_ltI (by omega) (by omega)]; exact q)]
        exact fin J hcJ hrJ hm (fun _ _ _ => ⟨fun _ => rfl, fun _ => rfl⟩)
      · have hK : c < K := by omega
        obtain ⟨J2, rb, fo, hc2⟩ := k_becomes (fl := fl) (len := len) hfl hG hcJ hK
        rw [if_neg (by rw [nI_ltI (by omega) (by omega)]; exact q), rb, nn_s]
        simp only
        rw [(fo (a + 2) (by omega)).2, hrJ 2 (by omega), e2, nI_div (by omega) (by omega), v4, if_pos rfl]
        exact fin J2 hc2 (fun i hi j => by rw [(fo _ (by omega)).2]; exact hrJ i hi j) (fun v hv4 => by rw [(fo _ (by omega)).2]; exact hm v hv4) (fun x h1 _ => fo.fa x h1)
  obtain ⟨I1, g1, g2⟩ := key (S 5) 0 fl I (by omega) (by omega) hc hr (fun v _ => by rw [hz]; rfl)
  refine ⟨I1, ?_, g2⟩
  have r0 : ∀ j, gA I a j = nI (T 0 j) := hr 0 (by omega)
  rw [m9_areCues, l0, L5, ck_inb _ (by omega) (by omega), nI_clamp (by omega), r0, f5, a_ofCue0 hG hc (bad_at (by omega)), nn_s, if_pos rfl, a_ofCue0 hG hc bad_m1, nn_s, if_pos rfl, m9_areCues_32]
  exact g1
theorem g_isHeard (hfl : 10000 ≤ fl) (hG : LG len b) (ha : a = b + 799) (hL : LL len a) (hc : Cl (mL I a T) X b S K) (h : LT T S) : m9_isHeard fl len X (mL I a T) b a (a + 8) = some 1 := by
  have hv := hc.iv
  have h4 := hv.2.1.1
  have hN := hv.2.2.2.2.2.2.2.2
  obtain ⟨l0, l1, l2, l3, l4, l5, l6, l7, l8⟩ := id hL
  have f4 := h.1 4 (by omega)
  have f3 := h.1 3 (by omega)
  have hlt : ∀ {k : Nat}, tlo S 0 k ≤ k := fun {k} => by
    induction k with
    | zero => exact Nat.le_refl _
    | succ k ih =>
      show tlo S 0 k + _ ≤ _
      split <;> omega
  have key : ∀ (j k n : Nat), k + j = S 4 → j < n → m9_isHeard_36 fl len X (mL I a T) n b a (a + 8) (oI (lof S 0 k)) (nI (tlo S 0 k)) (1 : Int32) (nI k) = some 1 := by
    intro j
    induction j with
    | zero =>
      intro k n hj hn
      obtain ⟨n, rfl⟩ : ∃ n', n = n' + 1 := ⟨n - 1, by omega⟩
      obtain ⟨-, -, -, -, -, -, k6, k7, -⟩ := a_count (fl := fl) (len := len) hfl hG hc
      show m9_isHeard_36b fl len X (mL I a T) (m9_isHeard_36 fl len X (mL I a T) n) _ _ _ _ _ _ _ = _
      rw [m9_isHeard_36b, l0, L4, ck_inb _ (by omega) (by omega), nI_clamp (by omega), gA_mL0, f4, if_pos (by rw [nI_leI (by omega) (by omega)]; omega), m9_isHeard_153, if_neg (by decide), k6, nn_s, show k = S 4 by omega, if_pos rfl, k7, nn_s, if_pos rfl, m9_isHeard_184, ck_isbl1]
    | succ j ih =>
      intro k n hj hn
      obtain ⟨n, rfl⟩ : ∃ n', n = n' + 1 := ⟨n - 1, by omega⟩
      have ih := ih (k + 1) n (by omega) (by omega)
      have hk : k < S 4 := by omega
      have al := a_loud (fl := fl) (len := len) hG hc hk
      have hb := hN (320 + k)
      have hb3 := hN 3
      have htk := hlt (k := k)
      -- the count
      have cnt : ∀ z : Int32, z = oI (lof S 0 (k + 1)) → m9_isHeard_124 fl len X (mL I a T) (m9_isHeard_36 fl len X (mL I a T) n) b a (a + 8) (nI (tlo S 0 k)) (1 : Int32) (nI k) z = some 1 := by
        intro z hz
        rw [m9_isHeard_124, al, nn_s, l0, L3, ck_inb _ (by omega) (by omega), nI_clamp (by omega), gA_mL0, f3, m9_isHeard_144, m9_isHeard_144]
        have et : tlo S 0 (k + 1) = tlo S 0 k + (if S (320 + k) ≤ S 3 then 0 else 1) := by
          show tlo S 0 k + (if S (320 + (0 + k)) ≤ S 3 then 0 else 1) = _
          rw [Nat.zero_add]
        rw [et] at ih
        by_cases q : S (320 + k) ≤ S 3
        · rw [if_pos q] at ih
          rw [if_pos (by rw [nI_leI (by omega) (by omega)]; exact q), L0, nI_add, lt_e, L1, nI_add, lt_e, hz]
          exact ih
        · rw [if_neg q] at ih
          rw [if_neg (by rw [nI_leI (by omega) (by omega)]; exact q), L1, nI_add, lt_e, nI_add, lt_e, hz]
          exact ih
      -- the loudest one
      have best : m9_isHeard_98 fl len X (mL I a T) (m9_isHeard_36 fl len X (mL I a T) n) b a (a + 8) (oI (lof S 0 k)) (nI (tlo S 0 k)) (nI k) (1 : Int32) = some 1 := by
        rw [m9_isHeard_98]
        cases hx : lof S 0 k with
        | none =>
          rw [if_pos (by decide), m9_isHeard_118]
          refine cnt _ ?_
          unfold lof
          rw [hx]
          show nI k = nI (0 + k)
          rw [Nat.zero_add]
        | some c =>
          have hcl := lof_lt hx
          have al2 := a_loud (fl := fl) (len := len) hG hc (k := c) (by omega)
          have hb2 := hN (320 + c)
          show (if nI c < 0 then _ else nn (m8_loud fl len X (mL I a T) b (nI k)) fun zv2 => nn (m8_loud fl len X (mL I a T) b (nI c)) fun zv4 => if zv2 ≤ zv4 then _ else _) = _
          rw [if_neg (nI_nneg (by omega)), al, nn_s, al2, nn_s]
          by_cases q : S (320 + k) ≤ S (320 + c)
          · rw [if_pos (by rw [nI_leI (by omega) (by omega)]; exact q)]
            refine cnt _ ?_
            unfold lof
            rw [hx]
            simp only
            rw [Nat.zero_add, if_pos q]
          · rw [if_neg (by rw [nI_leI (by omega) (by omega)]; exact q), m9_isHeard_118]
            refine cnt _ ?_
            unfold lof
            rw [hx]
            simp only
            rw [Nat.zero_add, if_neg q]
            rfl
      have hd : (nI (S 4) - nI 64).toInt = (S 4 : Int) - 64 := by
        rw [Int32.toInt_sub, nI_toInt (by omega), nI_toInt (by omega), Int.bmod_def]; omega
      show m9_isHeard_36b fl len X (mL I a T) (m9_isHeard_36 fl len X (mL I a T) n) _ _ _ _ _ _ _ = _
      rw [m9_isHeard_36b, l0, L4, ck_inb _ (by omega) (by omega), nI_clamp (by omega), gA_mL0, f4, if_neg (by rw [nI_leI (by omega) (by omega)]; omega), if_neg (by decide), L64, al, nn_s, nn_s, nI_mod (by omega) (by omega), l8, ck_inb _ (by omega) (by omega), nI_clamp (by omega), gA_mL (by omega)]
      by_cases q : S 4 ≤ k + 64
      · rw [if_pos (by rw [Int32.le_iff_toInt_le, hd, nI_toInt (by omega)]; omega), h.2.2.2.2.2.2.2.1 k hk q, if_pos rfl]
        exact best
      · rw [if_neg (by rw [Int32.le_iff_toInt_le, hd, nI_toInt (by omega)]; omega), if_neg (nI_nneg (by omega))]
        exact best
  rw [m9_isHeard, l0, L4, ck_inb _ (by omega) (by omega), nI_clamp (by omega), gA_mL0, f4, a_loud0 hG hc (bad_at (by omega)), nn_s, if_pos rfl, a_loud0 hG hc bad_m1, nn_s, if_pos rfl, m9_isHeard_31]
  exact key (S 4) 0 fl (by omega) (by omega)
end CN
