/-! ===== the mixer and the law's rows side by side; settings, sounds, goals ===== -/
section CL
variable {fl : Nat} {len : Nat → Nat} {X X1 : Xm} {I I1 I2 : Im} {a b : Nat} {S S' : Nat → Nat} {K K' : Nat} {T T' : Nat → Nat → Nat}
/-- nothing but the mixer's cells and the law's rows changes -/
def FA (b : Nat) (I I1 : Im) : Prop := ∀ c, (c < b ∨ b + 808 ≤ c) → (∀ f, gF I1 f c = gF I f c) ∧ ∀ j, gA I1 c j = gA I c j
theorem FA.rfl : FA b I I := fun _ _ => ⟨fun _ => Eq.refl _, fun _ => Eq.refl _⟩
theorem FA.trans (h : FA b I I1) (h2 : FA b I1 I2) : FA b I I2 := fun c hc => ⟨fun f => ((h2 c hc).1 f).trans ((h c hc).1 f), fun j => ((h2 c hc).2 j).trans ((h c hc).2 j)⟩
theorem Fo.fa (h : Fo b I I1) : FA b I I1 := fun c hc => h c (by omega)
theorem mL_fa (ha : a = b + 799) : FA b (mL I a T) (mL I a T') := fun c hc => ⟨fun _ => Eq.refl _, fun j => by rw [gA_mLo (by omega), gA_mLo (by omega)]⟩
/-- what both hold, between two calls -/
def Both (I : Im) (X : Xm) (b : Nat) (S : Nat → Nat) (K : Nat) : Prop := Cl I X b S K ∧ ∃ T, (∀ i, i < 9 → ∀ j, gA I (b + 799 + i) j = nI (T i j)) ∧ LT T S
theorem Cl.out (h : Cl I X b S K) (hI : ∀ c, b ≤ c → c < b + 799 → (∀ f, gF I1 f c = gF I f c) ∧ ∀ j, gA I1 c j = gA I c j) : Cl I1 X b S K := by
  obtain ⟨sg, W, n, hX, hv, hc, hn, h131⟩ := h
  have p0 := hX.2.2.2.1 0 (by omega)
  have i0 := p0.p.in
  refine ⟨sg, W, n, hX, hv, hc.same (hX.2.2.2.2.2.1 _ p0.p).2 hv.m6.1 hv.m6.2 (fun c h1 h2 => hI c (by omega) (by omega)), hn, by rw [(hI b (by omega) (by omega)).1]; exact h131⟩
theorem Cl.mL (ha : a = b + 799) (h : Cl (mL I a T) X b S K) : Cl (mL I a T') X b S K := h.out fun c h1 h2 => ⟨fun _ => Eq.refl _, fun j => by rw [gA_mLo (by omega), gA_mLo (by omega)]⟩
theorem Cl.iv (h : Cl I X b S K) : Iv S K := by
  obtain ⟨sg, W, n, h⟩ := h
  exact h.2.1
theorem Both.el (h : Both I X b S K) : ∃ T, mL I (b + 799) T = I ∧ LT T S := by
  obtain ⟨hc, T, hT, hl⟩ := h
  exact ⟨T, mL_self hT, hl⟩
theorem Both.of (ha : a = b + 799) (hf : Fo b (mL I a T) I1) (hc : Cl I1 X b S K) (hl : LT T S) : Both I1 X b S K :=
  ⟨hc, T, fun i hi j => by rw [(hf _ (by omega)).2, ← ha, gA_mL hi], hl⟩
theorem Both.mL (ha : a = b + 799) (hc : Cl (mL I a T) X b S K) (hl : LT T S) : Both (mL I a T) X b S K := Both.of ha Fo.rfl hc hl
/-- what an event of the law comes to -/
def Ev (e : Option (Int32 × Im × Xm)) (I : Im) (b : Nat) (S : Nat → Nat) : Prop := ∃ I1 X1 S' K', e = some (1, I1, X1) ∧ Both I1 X1 b S' K' ∧ FA b I I1 ∧ S' 4 ≤ S 4 + 20
theorem set73 (hfl : 10000 ≤ fl) (hG : LG len b) (ha : a = b + 799) (hL : LL len a) (hc : Cl (mL I a T) X b S K) (h : LT T S) {k v : Nat} (hk : k < 4) (v1 : loN k ≤ v) (v2 : v ≤ hiN k) : Ev (m9_isSet_73 fl len (mL I a T) X b a (nI k) (nI v)) (mL I a T) b S := by
  have hv := hc.iv
  have hi : hiN k ≤ 400 := by unfold hiN; split <;> (try split) <;> (try split) <;> omega
  obtain ⟨I1, X1, r8, fo, hcl⟩ := k_set (fl := fl) (len := len) hfl hG (hc.mL ha (T' := up2 T 0 k v)) hk v1 v2
  refine ⟨I1, X1, upN S k v, K, ?_, Both.of ha fo hcl (h.set hv hk (by omega)), (mL_fa ha).trans fo.fa, by rw [upN_ne (by omega)]; omega⟩
  rw [m9_isSet_73, hL.1, ck_inb _ (by omega) (by omega), nI_clamp (by omega), gA_mL0, h.1 k (by omega), lt_e, pA_mL0, lt_e, r8, nn_s]
  simp only
  rw [if_pos trivial, m9_isSet_105, ck_isbl1]
theorem g_isSet (hfl : 10000 ≤ fl) (hG : LG len b) (ha : a = b + 799) (hL : LL len a) (hc : Cl (mL I a T) X b S K) (h : LT T S) {way y : Nat} (hw : way ≤ 4) (hy : y < 2 ^ 31) : Ev (m9_isSet fl len X (mL I a T) b a (a + 3) (a + 4) (a + 5) (nI way) (nI y)) (mL I a T) b S := by
  have hv := hc.iv
  obtain ⟨l0, l1, l2, l3, l4, l5, l6, l7, l8⟩ := id hL
  rw [m9_isSet, L4, nI_mod (by omega) (by omega), nI_div (by omega) (by omega), lt_e, lt_e]
  obtain ⟨k, ek⟩ : ∃ k, k = y % 4 := ⟨_, rfl⟩
  obtain ⟨z, ez⟩ : ∃ z, z = y / 4 := ⟨_, rfl⟩
  rw [← ek, ← ez]
  have hk : k < 4 := by omega
  by_cases w0 : way = 0
  · rw [if_pos (by rw [w0]; rfl)]
    have : k = 0 ∨ k = 1 ∨ k = 2 ∨ k = 3 := by omega
    rcases this with e | e | e | e
    · rw [if_pos (by rw [e]; rfl), L20, nI_mod (by omega) (by omega), L1, nI_add]
      exact set73 hfl hG ha hL hc h hk (by rw [e]; show 1 ≤ _; omega) (by rw [e]; show _ ≤ 20; omega)
    · rw [if_neg (by rw [e]; decide), if_pos (by rw [e]; rfl), L9, nI_mod (by omega) (by omega), L1, nI_add]
      exact set73 hfl hG ha hL hc h hk (by rw [e]; show 1 ≤ _; omega) (by rw [e]; show _ ≤ 9; omega)
    · rw [if_neg (by rw [e]; decide), if_neg (by rw [e]; decide), if_pos (by rw [e]; rfl), L100, nI_mod (by omega) (by omega), L1, nI_add]
      exact set73 hfl hG ha hL hc h hk (by rw [e]; show 1 ≤ _; omega) (by rw [e]; show _ ≤ 100; omega)
    · rw [if_neg (by rw [e]; decide), if_neg (by rw [e]; decide), if_neg (by rw [e]; decide), L391, nI_mod (by omega) (by omega), L10, nI_add]
      exact set73 hfl hG ha hL hc h hk (by rw [e]; show 10 ≤ _; omega) (by rw [e]; show _ ≤ 400; omega)
  · rw [if_neg (by rw [L0, nI_eq (by omega) (by omega)]; exact w0)]
    by_cases w4 : 4 ≤ way
    · have e2 : (2 : Int32) * nI k + (1 : Int32) = nI (2 * k + 1) := by rw [L2, L1, nI_mul, nI_add]
      have em : nI z - nI z / (101 : Int32) * (101 : Int32) = nI (z % 101) := by rw [L101, nI_mod (by omega) (by omega)]
      have f1 := h.2.2.2.2.1 (2 * k + 1) (by omega)
      rw [show 216 + (2 * k + 1) = 216 + 2 * k + 1 by omega] at f1
      obtain ⟨I1, X1, r8, fo, hcl⟩ := k_goal (fl := fl) (len := len) hfl hG (hc.mL ha (T' := up2 T 5 (2 * k + 1) (z % 101))) hk (v := z % 101) (by omega)
      refine ⟨I1, X1, _, K, ?_, Both.of ha fo hcl (h.goal hv hk (by omega)), (mL_fa ha).trans fo.fa, by rw [upN_ne (by omega)]; omega⟩
      rw [if_pos (by rw [nI_leI (by omega) (by omega)]; exact w4), e2, em, l5, ck_inb _ (by omega) (by omega), nI_clamp (by omega), gA_mL (by omega), f1, lt_e, pA_mL (by omega), lt_e, r8, nn_s]
      simp only
      rw [if_pos trivial, m9_isSet_259, ck_isbl1]
    · have e4 : (nI 4 : Int32) * nI k + (3 : Int32) = nI (4 * k + 3) := by rw [L3, nI_mul, nI_add]
      have f1 := h.2.2.1 (4 * k + 3) (by omega)
      rw [show 128 + (4 * k + 3) = 128 + 4 * k + 3 by omega] at f1
      have hm6 := hv.m6.2 k hk
      have e9 : nI z - nI z / (9 : Int32) * (9 : Int32) = nI (z % 9) := by rw [L9, nI_mod (by omega) (by omega)]
      have e99 : nI z / (9 : Int32) - nI z / (9 : Int32) / (99 : Int32) * (99 : Int32) = nI (z / 9 % 99) := by rw [L9, nI_div (by omega) (by omega), L99, nI_mod (by omega) (by omega)]
      have e6 : (6 : Int32) * nI k + nI (S (128 + 4 * k + 3)) = nI (6 * k + S (128 + 4 * k + 3)) := by rw [L6, nI_mul, nI_add]
      rw [if_neg (by rw [nI_leI (by omega) (by omega)]; exact w4), e4, l3, ck_inb _ (by omega) (by omega), nI_clamp (by omega), gA_mL (by omega), f1, lt_e, e9, e99, L1, nI_add, nI_add, lt_e, lt_e]
      by_cases hm : S (128 + 4 * k + 3) < 6
      · obtain ⟨I1, X1, r8, fo, hcl⟩ := (k_sound (fl := fl) (len := len) hfl hG (hc.mL ha (T' := up2 (up2 T 4 (6 * k + S (128 + 4 * k + 3)) ((1 + z % 9) + 64 * (1 + z / 9 % 99))) 3 (4 * k + 3) (S (128 + 4 * k + 3) + 1))) hk (a := 1 + z % 9) (c := 1 + z / 9 % 99) (by omega) (by omega)).1 hm
        refine ⟨I1, X1, _, K, ?_, Both.of ha fo hcl (h.snd hv hk hm (by omega) (by omega)), (mL_fa ha).trans fo.fa, by rw [sndS_far hk hm (by omega) (by omega) (by omega) (by omega)]; omega⟩
        rw [if_neg (by rw [L6, nI_leI (by omega) (by omega)]; omega), e6, l4, ck_inb _ (by omega) (by omega), nI_clamp (by omega), L64, nI_mul, nI_add, pA_mL (by omega), lt_e, gA_mL (by omega), up2_i (by omega), f1, nI_add, pA_mL (by omega), lt_e, m9_isSet_180, r8, nn_s]
        simp only
        rw [if_neg (by rw [L6, nI_leI (by omega) (by omega)]; omega), m9_isSet_204, if_pos rfl, m9_isSet_212, ck_isbl1]
      · obtain ⟨I1, X1, r8, fo, hcl⟩ := (k_sound (fl := fl) (len := len) hfl hG hc hk (a := 1 + z % 9) (c := 1 + z / 9 % 99) (by omega) (by omega)).2 hm
        refine ⟨I1, X1, S, K, ?_, Both.of ha fo hcl h, fo.fa, by omega⟩
        rw [if_pos (by rw [L6, nI_leI (by omega) (by omega)]; omega), m9_isSet_180, r8, nn_s]
        simp only
        rw [if_pos (by rw [L6, nI_leI (by omega) (by omega)]; omega), m9_isSet_204, if_pos rfl, m9_isSet_212, ck_isbl1]
end CL
