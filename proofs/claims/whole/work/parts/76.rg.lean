/-! ===== set, goal ===== -/
section RG
variable {fl : Nat} {len : Nat → Nat} {X : Xm} {I I1 : Im} {p b : Nat} {S : Nat → Nat} {K : Nat} {w : Nat → Nat}
/-- an int within two natural numbers is one, or it isn't within them -/
theorem rng (z : Int32) (a m : Nat) (ha : a < 10000) (hm : m < 10000) : (∃ v, a ≤ v ∧ v ≤ m ∧ z = nI v) ∨ ¬ (nI a ≤ z ∧ z ≤ nI m) := by
  by_cases h : nI a ≤ z ∧ z ≤ nI m
  · have h1 := h.1
    have h2 := h.2
    rw [Int32.le_iff_toInt_le, nI_toInt (by omega)] at h1
    rw [Int32.le_iff_toInt_le, nI_toInt (by omega)] at h2
    refine Or.inl ⟨z.toInt.toNat, by omega, by omega, Int32.toInt_inj.mp ?_⟩
    rw [nI_toInt (by omega)]
    omega
  · exact Or.inr h
theorem nneg_not {n : Nat} (h : n < 2 ^ 31) : (0 : Int32) ≤ nI n := by rw [L0, nI_leI (by omega) h]; omega
theorem Rel.of {sg W S K n Hs Hk sv Ss Sk t tx} (h : RelW I X b sg W S K n Hs Hk sv Ss Sk t tx) : Rel b I X := ⟨sg, W, S, K, n, Hs, Hk, sv, Ss, Sk, t, tx, h⟩
def loN (k : Nat) : Nat := if k = 3 then 10 else 1
def hiN (k : Nat) : Nat := if k = 0 then 20 else if k = 1 then 9 else if k = 2 then 100 else 400
theorem lo_hi {k : Nat} (hk : k < 4) : leastS.getD k 0 = nI (loN k) ∧ mostS.getD k 0 = nI (hiN k) := by
  have : k = 0 ∨ k = 1 ∨ k = 2 ∨ k = 3 := by omega
  rcases this with rfl | rfl | rfl | rfl <;> exact ⟨rfl, rfl⟩
theorem p_least {k : Nat} (hk : k < 4) : m9_least fl len X I (nI k) = some (nI (loN k)) := by
  have : k = 0 ∨ k = 1 ∨ k = 2 ∨ k = 3 := by omega
  unfold m9_least m9_least_11
  rcases this with rfl | rfl | rfl | rfl
  · rw [if_neg (by decide)]; rfl
  · rw [if_neg (by decide)]; rfl
  · rw [if_neg (by decide)]; rfl
  · rw [if_pos (by decide)]; rfl
theorem p_most {k : Nat} (hk : k < 4) : m9_most fl len X I (nI k) = some (nI (hiN k)) := by
  have : k = 0 ∨ k = 1 ∨ k = 2 ∨ k = 3 := by omega
  unfold m9_most m9_most_32
  rcases this with rfl | rfl | rfl | rfl
  · rw [if_pos (by decide)]; rfl
  · rw [if_neg (by decide), if_pos (by decide)]; rfl
  · rw [if_neg (by decide), if_neg (by decide), if_pos (by decide)]; rfl
  · rw [if_neg (by decide), if_neg (by decide), if_neg (by decide)]; rfl
theorem Iv.set (h : Iv S K) {k v : Nat} (hk : k < 4) (h1 : loN k ≤ v) (h2 : v ≤ hiN k) : Iv (upN S k v) K := by
  obtain ⟨iA, iB, iC, iR, iS, iH, iD, iP, iN⟩ := h
  have hf : ∀ j, 4 ≤ j → upN S k v j = S j := fun j hj => upN_ne (by omega)
  have h400 : v ≤ 400 := by unfold hiN at h2; split at h2 <;> (try split at h2) <;> (try split at h2) <;> omega
  refine ⟨?_, ⟨by rw [hf 4 (by omega)]; exact iB.1, by rw [hf 5 (by omega)]; exact iB.2.1, by rw [hf 5 (by omega)]; exact iB.2.2⟩, iC.to (fun j _ _ => hf j (by omega)) (hf 4 (by omega)) (hf 5 (by omega)) iB.2.2 (fun r hr => hf _ (by omega)), iR.to (fun j _ _ => hf j (by omega)) (hf 4 (by omega)), iS.to (fun j _ _ => hf j (by omega)) (fun r hr => hf _ (by omega)) (fun r hr => (iR r hr).1) (Nat.le_refl K), iH.to (fun j _ _ => hf j (by omega)), iD.to (fun j _ _ => hf j (by omega)) (hf 4 (by omega)) (hf 6 (by omega)) (by have := iD.1; have := iB.2; omega) (Nat.le_refl K), iP.to (fun j _ => hf _ (by omega)) (fun j _ _ => hf j (by omega)) (hf 7 (by omega)) (fun r hr => hf _ (by omega)), iN.up (by omega)⟩
  have : k = 0 ∨ k = 1 ∨ k = 2 ∨ k = 3 := by omega
  unfold loN at h1
  unfold hiN at h2
  unfold IvA at iA ⊢
  rcases this with rfl | rfl | rfl | rfl
  · simp (disch := omega) only [upN_eq, upN_ne]; simp at h1 h2; omega
  · simp (disch := omega) only [upN_eq, upN_ne]; simp at h1 h2; omega
  · simp (disch := omega) only [upN_eq, upN_ne]; simp at h1 h2; omega
  · simp (disch := omega) only [upN_eq, upN_ne]; simp at h1 h2; omega
theorem Cs.set (hc : Cs I p S K w) (hv : Iv S K) {k v : Nat} (hk : k < 4) : Cs (pA I (p + 1) k (nI v)) p (upN S k v) K w := by
  obtain ⟨d1, d2, d5, d6, d7, d8, d9, d10⟩ := hc
  have hf : ∀ j, 4 ≤ j → upN S k v j = S j := fun j hj => upN_ne (by omega)
  have h67 := h67_le hv
  refine ⟨fun j hj => ?_, d2.to rfl rfl rfl (hf 4 (by omega)) (hf 5 (by omega)), d5.to (fun _ _ _ _ => rfl) (hf 5 (by omega)) hv.m6.1 (fun j _ _ => hf j (by omega)), d6.to rfl (fun a j h1 h2 => gA_a (by omega)) (hf 6 (by omega)) h67.1 (fun j _ _ => hf j (by omega)), d7.to rfl (fun j => gA_a (by omega)) (hf 7 (by omega)) h67.2 (fun j _ _ => hf j (by omega)), d8.to (fun j => gA_a (by omega)) (hf 4 (by omega)) (fun j _ => hf j (by omega)), d9.to hv.m6.2 (fun _ _ _ => rfl) (fun j _ _ => hf j (by omega)), d10.to (fun _ _ _ => rfl) (fun j _ _ => hf j (by omega))⟩
  by_cases e : j = k
  · subst e; rw [gA_s, upN_eq]
  · rw [gA_j e, upN_ne e]; exact d1 j hj
theorem st_set (hfl : 10000 ≤ fl) (hL : LG len b) : St_set fl len b (b + 799) (Rel b) := by
  intro I X a1 a2 ⟨sg, W, S, K, n, Hs, Hk, sv, Ss, Sk, t, tx, h⟩
  obtain ⟨I1, rh, fh, ch⟩ := q_hold hfl hL h
  have h1 := h.hold fh
  have p0 := h.1.2.2.2.1 0 (by omega)
  have i0 := p0.p.in
  obtain ⟨hX, hC⟩ := h.1.2.2.2.2.2.1 _ p0.p
  have hN := hL.2.2 _ p0.p
  have hv := h.2.1.1
  have hc := h1.2.1.2.1
  have hM := h1.2.1.2.2
  have hl := hL.2.1.1
  have h144 := h.1.2.2.2.2.2.2.1
  have ref : ∀ I1 : Im, m9_set fl len X I1 (b + 799) a1 a2 = some (-2, I1) → m4_changeSetting fl len X I1 (sg 0) a1 a2 = some (-2, I1) → m8_holdState fl len X I b = some I1 → Rel b I1 X → ∃ (v : Int32) (I1 : Im) (X1 : Xm) (I2 : Im), m8_set fl len X I b a1 a2 = some (v, I1, X1) ∧ m9_set fl len X1 I1 (b + 799) a1 a2 = some (v, I2) ∧ Rel b I2 X1 := by
    intro I1 e9 e8 eh hr
    refine ⟨-2, I1, X, I1, ?_, e9, hr⟩
    rw [m8_set, eh, nn_s, h.1.1.1, nn_s, e8, nn_s]
    simp only
    rw [q_recneg (by decide), nn_s]
  rcases zc a1 4 (by omega) with ⟨k, hk, rfl⟩ | hb
  · obtain ⟨lo, hi⟩ := lo_hi hk
    rcases rng a2 (loN k) (hiN k) (by unfold loN; split <;> omega) (by unfold hiN; split <;> (try split) <;> (try split) <;> omega) with ⟨v, v1, v2, rfl⟩ | hb
    · have hS := hv.2.2.2.2.2.2.2.2 k
      obtain ⟨I3, X3, I4, r8, r9, x144, hr, -⟩ := change1 (v := S k) (X2 := X) (S' := upN S k v) hfl hL h fh ch (I2 := pA I1 (sg 0 + 1) k (nI v)) (Fr.rfl.pA (by omega) (by omega)) (hc.set hv hk) (hv.set hk v1 v2) (fun _ _ => rfl) (fun _ _ _ => rfl) hC (by omega)
      refine ⟨nI (S k), I3, X3, mS I4 (b + 799 + 1) (upN S k v), ?_, ?_, hr⟩
      · rw [m8_set, rh, nn_s, h.1.1.1, nn_s, m4_changeSetting, if_neg (nI_nneg (by omega)), hX.1.1, nn_s, hN.1.1, if_neg (by rw [nI_leI (by omega) (by omega)]; omega), L4, if_pos (by rw [nI_ltI (by omega) (by omega)]; omega), if_neg (by rw [nI_leI (by omega) (by omega)]; omega), ck_inb _ (by omega) (by omega), ck_inb _ (by omega) (by omega), nI_clamp (by omega), lo, hi, q_within1 ⟨by rw [nI_leI (by unfold loN; split <;> omega) (by unfold hiN at v2; split at v2 <;> (try split at v2) <;> (try split at v2) <;> omega)]; exact v1, by rw [nI_leI (by unfold hiN at v2; split at v2 <;> (try split at v2) <;> (try split at v2) <;> omega) (by unfold hiN; split <;> (try split) <;> (try split) <;> omega)]; exact v2⟩, nn_s, if_neg (by decide), ck_inb _ (by omega) (by omega), hc.1 k hk, lt_e, lt_e, nn_s]
        simp only
        rw [r8, nn_s]
      · rw [m9_set, L0, L3, p_inl1 (by omega) (by omega) (by omega), nn_s, if_neg (by decide), p_least hk, nn_s, p_most hk, nn_s, p_in1 ⟨by rw [nI_leI (by unfold loN; split <;> omega) (by unfold hiN at v2; split at v2 <;> (try split at v2) <;> (try split at v2) <;> omega)]; exact v1, by rw [nI_leI (by unfold hiN at v2; split at v2 <;> (try split at v2) <;> (try split at v2) <;> omega) (by unfold hiN; split <;> (try split) <;> (try split) <;> omega)]; exact v2⟩, nn_s, if_neg (by decide), r9, nn_s, x144, nn_s, show len (b + 799 + 1) = 1620 from hl, ck_inb _ (by omega) (by omega), nI_clamp (by omega), gA_mS, lt_e, pA_mS, lt_e]
    · refine ref I1 ?_ ?_ rh (Rel.of h1)
      · rw [m9_set, L0, L3, p_inl1 (by omega) (by omega) (by omega), nn_s, if_neg (by decide), p_least hk, nn_s, p_most hk, nn_s, p_in0 hb, nn_s, if_pos (by decide)]
        rfl
      · rw [m4_changeSetting, if_neg (nI_nneg (by omega)), hX.1.1, nn_s, hN.1.1, if_neg (by rw [nI_leI (by omega) (by omega)]; omega), L4, if_pos (by rw [nI_ltI (by omega) (by omega)]; omega), if_neg (by rw [nI_leI (by omega) (by omega)]; omega), ck_inb _ (by omega) (by omega), ck_inb _ (by omega) (by omega), nI_clamp (by omega), lo, hi, q_within0 hb, nn_s, if_pos (by decide)]
        rfl
  · refine ref I1 ?_ ?_ rh (Rel.of h1)
    · rw [m9_set, L0, L3, p_inb hb (by omega), nn_s, if_pos (by decide)]
      rfl
    · rw [m4_changeSetting, m4_changeSetting_21]
      rcases hb with h0 | ⟨h0, h4⟩
      · rw [if_pos h0]
      · rw [if_neg h0, hX.1.1, nn_s, hN.1.1, if_pos h4]
theorem Iv.goal (h : Iv S K) {k v : Nat} (hk : k < 4) (h2 : v ≤ 100) : Iv (upN S (216 + 2 * k + 1) v) K := by
  obtain ⟨iA, iB, iC, iR, iS, iH, iD, iP, iN⟩ := h
  have hf : ∀ j, (j < 216 ∨ 224 ≤ j) → upN S (216 + 2 * k + 1) v j = S j := fun j hj => upN_ne (by omega)
  refine ⟨iA.to fun j hj => hf j (by omega), ⟨by rw [hf 4 (by omega)]; exact iB.1, by rw [hf 5 (by omega)]; exact iB.2.1, by rw [hf 5 (by omega)]; exact iB.2.2⟩, iC.to (fun j _ _ => hf j (by omega)) (hf 4 (by omega)) (hf 5 (by omega)) iB.2.2 (fun r hr => hf _ (by omega)), iR.to (fun j _ _ => hf j (by omega)) (hf 4 (by omega)), iS.to (fun j _ _ => hf j (by omega)) (fun r hr => hf _ (by omega)) (fun r hr => (iR r hr).1) (Nat.le_refl K), fun c hc => ?_, iD.to (fun j _ _ => hf j (by omega)) (hf 4 (by omega)) (hf 6 (by omega)) (by have := iD.1; have := iB.2; omega) (Nat.le_refl K), iP.to (fun j _ => hf _ (by omega)) (fun j _ _ => hf j (by omega)) (hf 7 (by omega)) (fun r hr => hf _ (by omega)), iN.up (by omega)⟩
  have := iH c hc
  rw [upN_ne (by omega)]
  refine ⟨this.1, ?_⟩
  by_cases e : c = k
  · subst e; rw [upN_eq]; exact h2
  · rw [upN_ne (by omega)]; exact this.2
theorem Cs.goal (hc : Cs I p S K w) (hv : Iv S K) {k v : Nat} (hk : k < 4) : Cs (pF I 1 (p + 68 + k) (nI v)) p (upN S (216 + 2 * k + 1) v) K w := by
  obtain ⟨d1, d2, d5, d6, d7, d8, d9, d10⟩ := hc
  have hf : ∀ j, (j < 216 ∨ 224 ≤ j) → upN S (216 + 2 * k + 1) v j = S j := fun j hj => upN_ne (by omega)
  have h67 := h67_le hv
  refine ⟨d1.to (fun _ => rfl) (fun j hj => hf j (by omega)), d2.to (gF_f (by omega)) (gF_f (by omega)) (gF_f (by omega)) (hf 4 (by omega)) (hf 5 (by omega)), d5.to (fun f a h1 h2 => gF_f (by omega)) (hf 5 (by omega)) hv.m6.1 (fun j _ _ => hf j (by omega)), d6.to (gF_f (by omega)) (fun _ _ _ _ => rfl) (hf 6 (by omega)) h67.1 (fun j _ _ => hf j (by omega)), d7.to (gF_f (by omega)) (fun _ => rfl) (hf 7 (by omega)) h67.2 (fun j _ _ => hf j (by omega)), d8.to (fun _ => rfl) (hf 4 (by omega)) (fun j _ => hf j (by omega)), d9.to hv.m6.2 (fun f a hf' => gF_f (by omega)) (fun j _ _ => hf j (by omega)), fun c hcc => ?_⟩
  obtain ⟨e0, e1⟩ := d10 c hcc
  rw [gF_f (f := 1) (g := 0) (by omega), upN_ne (j := 216 + 2 * c) (by omega)]
  refine ⟨e0, ?_⟩
  by_cases e : c = k
  · subst e; rw [gF_s, upN_eq]
  · rw [gF_a (by omega), upN_ne (by omega)]; exact e1
theorem st_goal (hfl : 10000 ≤ fl) (hL : LG len b) : St_goal fl len b (b + 799) (Rel b) := by
  intro I X a1 a2 ⟨sg, W, S, K, n, Hs, Hk, sv, Ss, Sk, t, tx, h⟩
  obtain ⟨I1, rh, fh, ch⟩ := q_hold hfl hL h
  have h1 := h.hold fh
  have p0 := h.1.2.2.2.1 0 (by omega)
  have i0 := p0.p.in
  obtain ⟨hX, hC⟩ := h.1.2.2.2.2.2.1 _ p0.p
  have hN := hL.2.2 _ p0.p
  have hv := h.2.1.1
  have hc := h1.2.1.2.1
  have hl := hL.2.1.1
  have ref : ∀ v : Int32, ¬ (0 : Int32) ≤ v → m9_goal fl len X I1 (b + 799) a1 a2 = some (v, I1) → m4_putGoal fl len X I1 (sg 0) a1 a2 = some (v, I1) → ∃ (v : Int32) (I1 : Im) (X1 : Xm) (I2 : Im), m8_goal fl len X I b a1 a2 = some (v, I1, X1) ∧ m9_goal fl len X1 I1 (b + 799) a1 a2 = some (v, I2) ∧ Rel b I2 X1 := by
    intro v hneg e9 e8
    refine ⟨v, I1, X, I1, ?_, e9, Rel.of h1⟩
    rw [m8_goal, rh, nn_s, h.1.1.1, nn_s, e8, nn_s]
    simp only
    rw [q_recneg hneg, nn_s]
  rcases zc a1 4 (by omega) with ⟨k, hk, rfl⟩ | hb
  · rcases rng a2 0 100 (by omega) (by omega) with ⟨v, v1, v2, rfl⟩ | hb
    · have hS := hv.2.2.2.2.2.2.2.2 (216 + 2 * k + 1)
      obtain ⟨I3, X3, I4, r8, r9, x144, hr, -⟩ := change1 (v := S (216 + 2 * k + 1)) (X2 := X) (S' := upN S (216 + 2 * k + 1) v) hfl hL h fh ch (I2 := pF I1 1 (sg 0 + 68 + k) (nI v)) (Fr.rfl.pF (by omega) (by omega)) (hc.goal hv hk) (hv.goal hk v2) (fun _ _ => rfl) (fun _ _ _ => rfl) hC (by omega)
      refine ⟨nI (S (216 + 2 * k + 1)), I3, X3, mS I4 (b + 799 + 1) (upN S (216 + 2 * k + 1) v), ?_, ?_, hr⟩
      · rw [m8_goal, rh, nn_s, h.1.1.1, nn_s, m4_putGoal, q_chan hX hN hk, nn_s, if_neg (by simp), q_within1 ⟨by rw [L0, nI_leI (by omega) (by omega)]; omega, by rw [L100, nI_leI (by omega) (by omega)]; omega⟩, nn_s, if_neg (by decide), nn_s, (hc.2.2.2.2.2.2.2 k hk).2, lt_e, lt_e, nn_s]
        simp only
        rw [r8, nn_s]
      · rw [m9_goal, p_isReel1 hk, nn_s, if_neg (by decide), L0, L100, p_inl1 v2 (by omega) (by omega), nn_s, if_neg (by decide), r9, nn_s, x144, nn_s, L216, L2, L1, nI_mul, nI_add, nI_add, show len (b + 799 + 1) = 1620 from hl, ck_inb _ (by omega) (by omega), nI_clamp (by omega), gA_mS, lt_e, pA_mS, lt_e]
    · refine ref (-2) (by decide) ?_ ?_
      · rw [m9_goal, p_isReel1 hk, nn_s, if_neg (by decide), L0, L100, p_in0 hb, nn_s, if_pos (by decide)]
      · rw [m4_putGoal, q_chan hX hN hk, nn_s, if_neg (by simp), L0, L100, q_within0 hb, nn_s, if_pos (by decide)]
  · refine ref (-1) (by decide) ?_ ?_
    · rw [m9_goal, p_isReel0 hb, nn_s, if_pos (by decide)]
    · rw [m4_putGoal, q_chan0 hX hN hb, nn_s, if_pos rfl]
end RG
