/-! ===== the law lets a cue come ===== -/
section CE
variable {fl : Nat} {len : Nat → Nat} {X : Xm} {I : Im} {a : Nat} {S : Nat → Nat} {K : Nat} {T : Nat → Nat → Nat}
theorem g_c221 (hl : len (a + 2) = 25) (hK : K < 25) {f : Nat} (hf : f ≤ 3) : m9_comes_221 fl len X (mL I a T) (a + 2) (nI K) (nI f) = some (nI (if f ≤ 1 then 0 else 1), mL I a (up2 T 2 K (T 2 K + 2048 * f))) := by
  rw [m9_comes_221, hl, ck_inb _ (by omega) (by omega), nI_clamp (by omega), gA_mL (by omega), L2048, nI_mul, nI_add, pA_mL (by omega), lt_e, m9_comes_245, m9_comes_245]
  by_cases h : f ≤ 1
  · rw [if_pos (by rw [L1, nI_leI (by omega) (by omega)]; exact h), if_pos h]
    rfl
  · rw [if_neg (by rw [L1, nI_leI (by omega) (by omega)]; exact h), if_neg h]
    rfl
/-- what the law's rows are behind a cue that came -/
def cmT (T : Nat → Nat → Nat) (S : Nat → Nat) (K : Nat) : Nat → Nat → Nat :=
  if S (8 + 5 * K + 1) = 2 then up2 T 5 (2 * S (8 + 5 * K + 2) + 1) (S (8 + 5 * K + 3))
  else if S (8 + 5 * K + 1) = 1 then up2 (up2 T 6 (S 6) (S (8 + 5 * K + 2) + 4 * S (8 + 5 * K + 3) + 512 * S 1)) 0 6 (S 6 + 1)
  else if comeA S K = 1 then up2 (up2 (up2 (up2 (up2 T 3 (4 * S (8 + 5 * K + 2) + 1) (S (8 + 5 * K + 3) + 1)) 3 (4 * S (8 + 5 * K + 2) + 2) (S (144 + 3 * (6 * S (8 + 5 * K + 2) + S (8 + 5 * K + 3))))) 7 (S 7) (6 * S (8 + 5 * K + 2) + S (8 + 5 * K + 3))) 0 7 (if S (144 + 3 * (6 * S (8 + 5 * K + 2) + S (8 + 5 * K + 3)) + 2) = 0 then S 7 + 1 else S 7)) 4 (6 * S (8 + 5 * K + 2) + S (8 + 5 * K + 3)) (uv S (6 * S (8 + 5 * K + 2) + S (8 + 5 * K + 3)) + 8192)
  else T
theorem g_comes (hfl : 10000 ≤ fl) (hL : LL len a) (h : LT T S) (hv : Iv S K) (hK : K < S 5) : m9_comes fl len X (mL I a T) a (a + 2) (a + 3) (a + 4) (a + 5) (a + 6) (a + 7) (nI K) = some (nI (if comeA S K ≤ 1 then 0 else 1), mL I a (up2 (cmT T S K) 2 K (cv S K + 2048 * comeA S K))) := by
  have h5 := hv.m6.1
  obtain ⟨h6, hK24⟩ := K_lt hv hK
  have h67 := h67_le hv
  obtain ⟨⟨v1, v2, v3, v4⟩, ⟨b1, b2, b3, b4⟩, b5⟩ := cv_ok hv hK
  have eC := (h.2.1 K hK).2
  have e1 := h.1 1 (by omega)
  have e6 := h.1 6 (by omega)
  have e7 := h.1 7 (by omega)
  have hs1 := hv.1.2.1
  obtain ⟨l0, l1, l2, l3, l4, l5, l6, l7, l8⟩ := hL
  have hcA := comeA_le S K
  have fin : ∀ (T' : Nat → Nat → Nat) (f : Nat), T' 2 K = cv S K → f ≤ 3 → m9_comes_221 fl len X (mL I a T') (a + 2) (nI K) (nI f) = some (nI (if f ≤ 1 then 0 else 1), mL I a (up2 T' 2 K (cv S K + 2048 * f))) := fun T' f hT hf => by
    rw [g_c221 l2 (by omega) hf, hT]
  rw [m9_comes, l2, ck_inb _ (by omega) (by omega), nI_clamp (by omega), gA_mL (by omega), eC, L4, L16, L128, nI_mod (by omega) (by omega), nI_div (by omega) (by omega), nI_mod (by omega) (by omega), nI_div (by omega) (by omega), nI_mod (by omega) (by omega), v1, v2, v3, lt_e, lt_e, lt_e]
  obtain ⟨wh, ew⟩ : ∃ wh, wh = S (8 + 5 * K + 2) := ⟨_, rfl⟩
  obtain ⟨v, ev⟩ : ∃ v, v = S (8 + 5 * K + 3) := ⟨_, rfl⟩
  have hsnd := (hv.2.2.1.1 K hK).2.1.2.2.1
  rw [← ew] at b2 hsnd ⊢
  rw [← ev] at b3 hsnd ⊢
  have : S (8 + 5 * K + 1) = 2 ∨ S (8 + 5 * K + 1) = 1 ∨ S (8 + 5 * K + 1) = 0 := by omega
  rcases this with k1 | k1 | k1
  · have eA : comeA S K = 1 := by unfold comeA; rw [if_pos k1]
    have eT : cmT T S K = up2 T 5 (2 * wh + 1) v := by unfold cmT; rw [← ew, ← ev, if_pos k1]
    rw [eT, eA]
    refine Eq.trans ?_ (fin _ 1 (by rw [up2_i (by omega), eC]) (by omega))
    rw [k1, if_pos (by rfl), L2, L1, nI_mul, nI_add, l5, ck_inb _ (by omega) (by omega), nI_clamp (by omega), pA_mL (by omega), lt_e, m9_comes_48, if_neg (by decide), m9_comes_84, if_neg (by decide), m9_comes_130, if_neg (by decide)]
    rfl
  · have eA : comeA S K = 1 := by unfold comeA; rw [if_neg (by omega), if_pos k1]
    have eT : cmT T S K = up2 (up2 T 6 (S 6) (wh + 4 * v + 512 * S 1)) 0 6 (S 6 + 1) := by unfold cmT; rw [← ew, ← ev, if_neg (by omega), if_pos k1]
    rw [eT, eA]
    refine Eq.trans ?_ (fin _ 1 (by rw [up2_i (by omega), up2_i (by omega), eC]) (by omega))
    rw [k1, if_neg (by decide), m9_comes_48, if_pos (by rfl), l0, L6, ck_inb _ (by omega) (by omega), L1, ck_inb _ (by omega) (by omega), nI_clamp (by omega), nI_clamp (by omega), gA_mL0, gA_mL0, e6, e1, l6, ck_inb _ (by omega) (by omega), nI_clamp (by omega), L4, L512, nI_mul, nI_mul, nI_add, nI_add, pA_mL (by omega), lt_e, gA_mL0, up2_i (by omega), e6, nI_add, pA_mL0, lt_e, m9_comes_84, if_neg (by decide), m9_comes_130, if_neg (by decide)]
    rfl
  · have hvc := hsnd k1
    have hm6 := hv.m6.2 wh (by omega)
    have hr := hv.2.2.2.1 wh (by omega)
    have et1 := h.2.2.1 (4 * wh + 1) (by omega)
    have et0 := h.2.2.1 (4 * wh) (by omega)
    have eu := h.2.2.2.1 wh (by omega) v hvc
    have eq1 : 128 + (4 * wh + 1) = 128 + 4 * wh + 1 := by omega
    rw [eq1] at et1
    obtain ⟨⟨u1, u2, u3⟩, ⟨w1, w2, w3⟩, w4⟩ := uv_ok hv (r := wh) (k := v) (by omega) hvc
    have head : m9_comes_48 fl len X (mL I a T) a (a + 2) (a + 3) (a + 4) (a + 6) (a + 7) (nI K) (nI 0) (nI wh) (nI v) = if nI (S (128 + 4 * wh + 1)) ≤ 0 then nn (m9_begins fl len X (mL I a T) (a + 4) (nI wh) (nI v)) fun zv5 => if nI (S (128 + 4 * wh)) = zv5 then m9_comes_130 fl len X (mL I a T) a (a + 2) (a + 3) (a + 4) (a + 7) (nI K) (nI 0) (nI wh) (nI v) (1 : Int32) else m9_comes_130 fl len X (mL I a T) a (a + 2) (a + 3) (a + 4) (a + 7) (nI K) (nI 0) (nI wh) (nI v) (3 : Int32) else m9_comes_130 fl len X (mL I a T) a (a + 2) (a + 3) (a + 4) (a + 7) (nI K) (nI 0) (nI wh) (nI v) (2 : Int32) := by
      have e1' : (4 : Int32) * nI wh + (1 : Int32) = nI (4 * wh + 1) := by rw [L4, L1, nI_mul, nI_add]
      have e0' : (4 : Int32) * nI wh = nI (4 * wh) := by rw [L4, nI_mul]
      rw [m9_comes_48, if_neg (by decide), m9_comes_84, if_pos (by decide), e1', e0', l3, ck_inb _ (by omega) (by omega), nI_clamp (by omega), gA_mL (by omega), et1, ck_inb _ (by omega) (by omega), nI_clamp (by omega), gA_mL (by omega), et0]
    rw [k1, if_neg (by decide), head]
    by_cases hp : S (128 + 4 * wh + 1) = 0
    · rw [if_pos (by rw [hp]; decide), g_begins hfl l4 (by omega) (by omega) (h.2.2.2.1.begins hv (r := wh) (kk := v) (by omega) (by omega)), nn_s]
      have hbl := begS_le60 hv.2.2.2.2.1 (r := wh) (by omega) v (by omega)
      by_cases hb : S (128 + 4 * wh) = begS S wh v
      · have eA : comeA S K = 1 := by
          unfold comeA
          rw [← ew, ← ev, if_neg (by omega), if_neg (by omega), if_pos hp, if_pos hb]
        have eT : cmT T S K = up2 (up2 (up2 (up2 (up2 T 3 (4 * wh + 1) (v + 1)) 3 (4 * wh + 2) (S (144 + 3 * (6 * wh + v)))) 7 (S 7) (6 * wh + v)) 0 7 (if S (144 + 3 * (6 * wh + v) + 2) = 0 then S 7 + 1 else S 7)) 4 (6 * wh + v) (uv S (6 * wh + v) + 8192) := by unfold cmT; rw [← ew, ← ev, if_neg (by omega), if_neg (by omega), if_pos eA]
        rw [eT, eA]
        refine Eq.trans ?_ (fin _ 1 (by rw [up2_i (by omega), up2_i (by omega), up2_i (by omega), up2_i (by omega), up2_i (by omega), eC]) (by omega))
        have e2' : (4 : Int32) * nI wh + (2 : Int32) = nI (4 * wh + 2) := by rw [L4, L2, nI_mul, nI_add]
        have e1' : (4 : Int32) * nI wh + (1 : Int32) = nI (4 * wh + 1) := by rw [L4, L1, nI_mul, nI_add]
        have e6' : (6 : Int32) * nI wh + nI v = nI (6 * wh + v) := by rw [L6, nI_mul, nI_add]
        rw [if_pos (by rw [hb]), m9_comes_130, if_pos (by decide), if_pos rfl, e6', lt_e, e1', e2', l3, ck_inb _ (by omega) (by omega), L1, nI_add, nI_clamp (by omega), pA_mL (by omega), lt_e, l4, ck_inb _ (by omega) (by omega), ck_inb _ (by omega) (by omega), nI_clamp (by omega), nI_clamp (by omega), gA_mL (by omega), up2_i (by omega), eu, L64, nI_mod (by omega) (by omega), u1, pA_mL (by omega), lt_e, l0, L7, ck_inb _ (by omega) (by omega), nI_clamp (by omega), gA_mL0, up2_i (by omega), up2_i (by omega), e7, l7, ck_inb _ (by omega) (by omega), nI_clamp (by omega), pA_mL (by omega), lt_e, gA_mL (by omega), up2_i (by omega), up2_i (by omega), up2_i (by omega), eu, gA_mL0, up2_i (by omega), up2_i (by omega), up2_i (by omega), e7]
        have tail : ∀ x : Nat, m9_comes_209 fl len X (mL I a (up2 (up2 (up2 T 3 (4 * wh + 1) (v + 1)) 3 (4 * wh + 2) (S (144 + 3 * (6 * wh + v)))) 7 (S 7) (6 * wh + v))) (a + 2) (a + 4) (nI K) (nI 1) (nI (6 * wh + v)) a (nI 7) (nI (S 7)) (nI x) = m9_comes_221 fl len X (mL I a (up2 (up2 (up2 (up2 (up2 T 3 (4 * wh + 1) (v + 1)) 3 (4 * wh + 2) (S (144 + 3 * (6 * wh + v)))) 7 (S 7) (6 * wh + v)) 0 7 (S 7 + x)) 4 (6 * wh + v) (uv S (6 * wh + v) + 8192))) (a + 2) (nI K) (nI 1) := by
          intro x
          rw [m9_comes_209, l0, ck_inb _ (by omega) (by omega), nI_clamp (by omega), nI_add, pA_mL0, lt_e, l4, ck_inb _ (by omega) (by omega), nI_clamp (by omega), gA_mL (by omega), up2_i (by omega), up2_i (by omega), up2_i (by omega), up2_i (by omega), eu, L8192, nI_add, pA_mL (by omega), lt_e]
        by_cases ht : S (144 + 3 * (6 * wh + v) + 2) = 0
        · rw [if_neg (by rw [L8192, nI_leI (by omega) (by omega)]; omega), if_pos ht]
          exact tail 1
        · rw [if_pos (by rw [L8192, nI_leI (by omega) (by omega)]; omega), if_neg ht]
          exact tail 0
      · have eA : comeA S K = 3 := by
          unfold comeA
          rw [← ew, ← ev, if_neg (by omega), if_neg (by omega), if_pos hp, if_neg hb]
        have eT : cmT T S K = T := by unfold cmT; rw [if_neg (by omega), if_neg (by omega), if_neg (by omega)]
        rw [eT, eA]
        refine Eq.trans ?_ (fin T 3 eC (by omega))
        rw [if_neg (by rw [nI_eq (by omega) (by omega)]; exact hb), m9_comes_130, if_pos (by decide), if_neg (by decide)]
        rfl
    · have eA : comeA S K = 2 := by
        unfold comeA
        rw [← ew, if_neg (by omega), if_neg (by omega), if_neg hp]
      have eT : cmT T S K = T := by unfold cmT; rw [if_neg (by omega), if_neg (by omega), if_neg (by omega)]
      rw [eT, eA]
      refine Eq.trans ?_ (fin T 2 eC (by omega))
      rw [if_neg (by rw [L0, nI_leI (by omega) (by omega)]; omega), m9_comes_130, if_pos (by decide), if_neg (by decide)]
      rfl
end CE
