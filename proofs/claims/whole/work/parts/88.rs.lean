/-! ===== undo, save, restore ===== -/
section RS
variable {fl : Nat} {len : Nat → Nat} {X X1 X2 : Xm} {I I1 I2 I3 : Im} {p q b : Nat} {S S' T : Nat → Nat} {K : Nat} {w w' : Nat → Nat}
/-- a row is filled from another one -/
def cpS (I : Im) (a s o k : Nat) : Im := pAr I a (fun j => if j < k then gA I s (o + j) else gA I a j)
theorem cpS_0 (I : Im) (a s o : Nat) : cpS I a s o 0 = I := by
  have e : cpS I a s o 0 = cpR I a 0 0 0 := by
    unfold cpS cpR
    congr 1
  rw [e, cpR_0]
theorem cpS_up {a s o k : Nat} {v : Int32} (hv : v = gA I s (o + k)) : pA (cpS I a s o k) a k v = cpS I a s o (k + 1) := by
  unfold cpS pA pAr
  refine congrArg (fun z => (I.1, z)) ?_
  funext i j
  by_cases h : i = a
  · subst h
    by_cases hj : j = k
    · subst hj
      simp [u2, hv]
    · simp only [u2, hj, and_false, if_false, if_true]
      by_cases h1 : j < k
      · rw [if_pos h1, if_pos (show j < k + 1 by omega)]
      · rw [if_neg h1, if_neg (show ¬ j < k + 1 by omega)]
  · simp [u2, h]
theorem gA_cpS_ne {a s o k c j : Nat} (h : c ≠ a) : gA (cpS I a s o k) c j = gA I c j := by unfold cpS; rw [gA_pAr, if_neg h]
theorem gA_cpS {a s o k j : Nat} : gA (cpS I a s o k) a j = if j < k then gA I s (o + j) else gA I a j := by unfold cpS; rw [gA_pAr, if_pos rfl]
theorem gF_cpS {a s o k f c : Nat} : gF (cpS I a s o k) f c = gF I f c := rfl
theorem st_save (hfl : 10000 ≤ fl) (hL : LG len b) : St_save fl len b (b + 799) (Rel b) := by
  intro I X a1 ⟨sg, W, S, K, n, Hs, Hk, sv, Ss, Sk, t, tx, h⟩
  have hR := Rel.of h
  obtain ⟨hX, hC, hH, hS, hT⟩ := h
  have m := hX.2.2.2.2.2.2
  have hl : len (b + 799 + 1) = 1620 := hL.2.1.1
  rcases zc a1 2 (by omega) with ⟨i, hi, rfl⟩ | hb
  · have p0 := hX.2.2.2.1 0 (by omega)
    have ps : isP b (b + 655 + 72 * i) := by unfold isP; omega
    obtain ⟨x1, x2⟩ := hX.2.2.2.2.2.1 _ p0.p
    obtain ⟨y1, y2⟩ := hX.2.2.2.2.2.1 _ ps
    have nt0 := p0.nt
    obtain ⟨I1, r, f, c⟩ := q_copy (fl := fl) (len := len) hfl y1 (hL.2.2 _ ps) y2 x1 (hL.2.2 _ p0.p) x2 (ps.apart p0.p (by omega)) hC.1 hC.2.1
    have i0 := p0.p.in
    have ap0 := ps.apart p0.p (by omega)
    obtain ⟨I3, eI3⟩ : ∃ I3, I3 = pA (pA I1 (b + 147) i (1 : Int32)) (b + 803) i (1 : Int32) := ⟨_, rfl⟩
    have loop : ∀ (j k n : Nat), k + j = 1620 → j < n → m9_save_21 fl len X n (cpR I3 (b + 802) (1620 * i) (b + 800) k) (b + 799) (nI i) (nI k) (b + 803) = some (nI (S 5), cpR I3 (b + 802) (1620 * i) (b + 800) 1620) := by
      intro j
      induction j with
      | zero =>
        intro k n hj hn
        obtain ⟨n, rfl⟩ : ∃ n', n = n' + 1 := ⟨n - 1, by omega⟩
        show m9_save_21b fl len X (m9_save_21 fl len X n) _ _ _ _ _ = _
        rw [m9_save_21b, L1620, if_pos (by rw [nI_leI (by omega) (by omega)]; omega), m.1, nn_s, hl, L5, ck_inb _ (by omega) (by omega), nI_clamp (by omega), gA_cpR_ne (by omega), eI3, gA_a (by omega), gA_a (by omega), (f _ (by omega)).2, hC.2.2, show k = 1620 by omega]
      | succ j ih =>
        intro k n hj hn
        obtain ⟨n, rfl⟩ : ∃ n', n = n' + 1 := ⟨n - 1, by omega⟩
        have ih := ih (k + 1) n (by omega) (by omega)
        show m9_save_21b fl len X (m9_save_21 fl len X n) _ _ _ _ _ = _
        rw [m9_save_21b, L1620, if_neg (by rw [nI_leI (by omega) (by omega)]; omega), m.2.2.1, nn_s, m.1, nn_s, hl, ck_inb _ (by omega) (by omega), nI_mul, nI_add, hL.2.1.2.2.1, ck_inb _ (by omega) (by omega), nI_clamp (by omega), nI_clamp (by omega), gA_cpR_ne (by omega), cpR_up rfl, lt_e, L1, nI_add, lt_e, ih]
    have e9 := loop 1620 0 fl (by omega) (by omega)
    rw [cpR_0] at e9
    obtain ⟨J, eJ⟩ : ∃ J, J = cpR I3 (b + 802) (1620 * i) (b + 800) 1620 := ⟨_, rfl⟩
    rw [← eJ] at e9
    have jF : ∀ f' a, gF J f' a = gF I1 f' a := fun f' a => by rw [eJ, gF_cpR, eI3]; rfl
    have jA : ∀ a j, a ≠ b + 147 → a ≠ b + 803 → a ≠ b + 802 → gA J a j = gA I1 a j := fun a j h1 h2 h3 => by
      rw [eJ, gA_cpR_ne h3, eI3, gA_a h2, gA_a h1]
    have kp : ∀ a S K, isP b a → a ≠ b + 655 + 72 * i → Iv S K → Cs I a S K (W a) → Cs J a S K (W a) := fun a S K ha hne hv hc => by
      have ia := ha.in
      have ap := ps.apart ha (Ne.symm hne)
      exact hc.same (hX.2.2.2.2.2.1 a ha).2 hv.m6.1 hv.m6.2 fun c h1 h2 => ⟨fun f' => by rw [jF]; exact (f c (by omega)).1 f', fun j => by rw [jA c j (by omega) (by omega) (by omega)]; exact (f c (by omega)).2 j⟩
    have oF : ∀ f' a, (a ≤ b ∨ b + 799 ≤ a ∨ (b + 145 ≤ a ∧ a < b + 151)) → gF J f' a = gF I f' a := fun f' a ha => by rw [jF]; exact (f a (by omega)).1 f'
    have oA : ∀ a j, (a ≤ b ∨ b + 799 ≤ a ∨ (b + 145 ≤ a ∧ a < b + 151)) → a ≠ b + 147 → a ≠ b + 803 → a ≠ b + 802 → gA J a j = gA I a j := fun a j ha h1 h2 h3 => by rw [jA a j h1 h2 h3]; exact (f a (by omega)).2 j
    refine ⟨nI (S 5), pA I1 (b + 147) i (1 : Int32), J, ?_, ?_, sg, W, S, K, n, Hs, Hk, fun k => if k = i then 1 else sv k, fun k => if k = i then S else Ss k, fun k => if k = i then K else Sk k, t, tx, hX, ⟨hC.1, kp _ _ _ p0.p (by omega) hC.1 hC.2.1, fun j => ?_⟩, ⟨⟨hH.1.1, ?_, ?_, ?_⟩, fun k hk => ⟨(hH.2 k hk).1, kp _ _ _ (hX.2.2.2.1 (k + 1) (by have := hH.1.1; omega)).p (by have := (hX.2.2.2.1 (k + 1) (by have := hH.1.1; omega)).nt; omega) (hH.2 k hk).1 (hH.2 k hk).2.1, fun j hj => ?_⟩⟩, fun k hk => ?_, ⟨⟨hT.1.1, ?_, ?_⟩, fun j hj => ⟨(hT.2 j hj).1, ?_, ?_⟩⟩⟩
    · rw [m8_save, if_neg (nI_nneg (by omega)), hX.1.2.2.2.1, nn_s, hL.1.2.1, if_pos (by rw [nI_ltI (by omega) (by omega)]; omega), ck_inb _ (by omega) (by omega), nI_clamp (by omega), hX.2.2.1 i hi, nn_s, hX.1.1, nn_s, r, nn_s, hX.1.2.2.2.2.1, nn_s, hL.1.2.2.1, ck_inb _ (by omega) (by omega), lt_e, x1.1.2.1, nn_s, gF_pA, (f _ (by omega)).1, hC.2.1.2.1.2.1]
    · rw [m9_save, show m9_in fl len X (pA I1 (b + 147) i (1 : Int32)) (nI i) (0 : Int32) (1 : Int32) = some (1 : Int32) from p_inl1 (a := 0) (n := 1) (by omega) (Nat.zero_le _) (by omega), nn_s, if_neg (by decide), m.2.2.2.1, nn_s, hL.2.1.2.2.2.1, ck_inb _ (by omega) (by omega), nI_clamp (by omega), lt_e, ← eI3]
      exact e9
    · rw [oA _ _ (by omega) (by omega) (by omega) (by omega)]; exact hC.2.2 j
    · rw [oF _ _ (by omega)]; exact hH.1.2.1
    · rw [oF _ _ (by omega)]; exact hH.1.2.2.1
    · rw [oF _ _ (by omega)]; exact hH.1.2.2.2
    · rw [oA _ _ (by omega) (by omega) (by omega) (by omega)]; exact (hH.2 k hk).2.2 j hj
    · have s147 : ∀ k, gA J (b + 147) k = if k = i then (1 : Int32) else gA I (b + 147) k := fun k => by
        rw [eJ, gA_cpR_ne (by omega), eI3, gA_a (by omega)]
        by_cases e : k = i
        · rw [e, gA_s, if_pos rfl]
        · rw [gA_j e, if_neg e, (f _ (by omega)).2]
      have s803 : ∀ k, gA J (b + 803) k = if k = i then (1 : Int32) else gA I (b + 803) k := fun k => by
        rw [eJ, gA_cpR_ne (by omega), eI3]
        by_cases e : k = i
        · rw [e, gA_s, if_pos rfl]
        · rw [gA_j e, if_neg e, gA_a (by omega), (f _ (by omega)).2]
      have s802 : ∀ k j, k < 2 → j < 1620 → gA J (b + 802) (1620 * k + j) = if k = i then gA I (b + 800) j else gA I (b + 802) (1620 * k + j) := fun k j hk hj => by
        rw [eJ, gA_cpR]
        by_cases e : k = i
        · rw [if_pos (by omega), if_pos e, show 1620 * k + j - 1620 * i = j by omega, eI3, gA_a (by omega), gA_a (by omega), (f _ (by omega)).2]
        · rw [if_neg (by omega), if_neg e, eI3, gA_a (by omega), gA_a (by omega), (f _ (by omega)).2]
      rw [s147 k, s803 k]
      by_cases e : k = i
      · simp only [if_pos e]
        refine ⟨Nat.le_refl _, rfl, rfl, fun _ => ⟨hC.1, ?_, fun j hj => ?_⟩⟩
        · rw [e]
          exact c.same y2 hC.1.m6.1 hC.1.m6.2 fun a h1 h2 => ⟨fun f' => jF f' a, fun j => jA a j (by omega) (by omega) (by omega)⟩
        · rw [s802 k j hk hj, if_pos e]
          exact hC.2.2 j
      · simp only [if_neg e]
        refine ⟨(hS k hk).1, (hS k hk).2.1, (hS k hk).2.2.1, fun hv => ⟨((hS k hk).2.2.2 hv).1, kp _ _ _ (by unfold isP; omega) (by omega) ((hS k hk).2.2.2 hv).1 ((hS k hk).2.2.2 hv).2.1, fun j hj => ?_⟩⟩
        rw [s802 k j hk hj, if_neg e]
        exact ((hS k hk).2.2.2 hv).2.2 j hj
    · rw [oF _ _ (by omega)]; exact hT.1.2.1
    · rw [oF _ _ (by omega)]; exact hT.1.2.2
    · rw [oA _ _ (by omega) (by omega) (by omega) (by omega)]; exact (hT.2 j hj).2.1
    · rw [oA _ _ (by omega) (by omega) (by omega) (by omega)]; exact (hT.2 j hj).2.2
  · refine ⟨-2, I, I, ?_, ?_, hR⟩
    · rw [m8_save, m8_save_13]
      rcases hb with h0 | ⟨h0, h2⟩
      · rw [if_pos h0]
      · rw [if_neg h0, hX.1.2.2.2.1, nn_s, hL.1.2.1, if_neg (Int32.not_lt.mpr h2)]
    · rw [m9_save, show m9_in fl len X I a1 (0 : Int32) (1 : Int32) = some (0 : Int32) from p_inb (n := 1) hb (by omega), nn_s, if_pos (by decide)]
/-- the row comes from a row of many -/
theorem p_restore (hfl : 10000 ≤ fl) (hL : LG len b) (h144 : gR X 144 (b + 799) = some (b + 799 + 1)) (h146 : gR X 146 (b + 799) = some (b + 802)) {i v : Nat} (hi : i < 2) (I : Im) (hv : gA I (b + 802) (1620 * i + 5) = nI v) : m9_restore_30 fl len X fl I (b + 799) (nI i) (nI 0) (b + 803) = some (nI v, cpS I (b + 800) (b + 802) (1620 * i) 1620) := by
  have hl : len (b + 799 + 1) = 1620 := hL.2.1.1
  have loop : ∀ (j k n : Nat), k + j = 1620 → j < n → m9_restore_30 fl len X n (cpS I (b + 800) (b + 802) (1620 * i) k) (b + 799) (nI i) (nI k) (b + 803) = some (nI v, cpS I (b + 800) (b + 802) (1620 * i) 1620) := by
    intro j
    induction j with
    | zero =>
      intro k n hj hn
      obtain ⟨n, rfl⟩ : ∃ n', n = n' + 1 := ⟨n - 1, by omega⟩
      show m9_restore_30b fl len X (m9_restore_30 fl len X n) _ _ _ _ _ = _
      rw [m9_restore_30b, L1620, if_pos (by rw [nI_leI (by omega) (by omega)]; omega), h144, nn_s, hl, L5, ck_inb _ (by omega) (by omega), nI_clamp (by omega), show k = 1620 by omega, show b + 799 + 1 = b + 800 from rfl, gA_cpS, if_pos (by omega), hv]
    | succ j ih =>
      intro k n hj hn
      obtain ⟨n, rfl⟩ : ∃ n', n = n' + 1 := ⟨n - 1, by omega⟩
      have ih := ih (k + 1) n (by omega) (by omega)
      show m9_restore_30b fl len X (m9_restore_30 fl len X n) _ _ _ _ _ = _
      rw [m9_restore_30b, L1620, if_neg (by rw [nI_leI (by omega) (by omega)]; omega), h144, nn_s, h146, nn_s, nI_mul, nI_add, hL.2.1.2.2.1, ck_inb _ (by omega) (by omega), hl, ck_inb _ (by omega) (by omega), nI_clamp (by omega), nI_clamp (by omega), gA_cpS_ne (by omega), show b + 799 + 1 = b + 800 from rfl, cpS_up rfl, lt_e, L1, nI_add, lt_e, ih]
  have e := loop 1620 0 fl (by omega) (by omega)
  rw [cpS_0] at e
  exact e
theorem st_restore (hfl : 10000 ≤ fl) (hL : LG len b) : St_restore fl len b (b + 799) (Rel b) := by
  intro I X a1 ⟨sg, W, S, K, n, Hs, Hk, sv, Ss, Sk, t, tx, h⟩
  have hR := Rel.of h
  have hX := h.1
  have hC := h.2.1
  have hS := h.2.2.2.1
  have hT := h.2.2.2.2
  have m := hX.2.2.2.2.2.2
  have hl : len (b + 799 + 1) = 1620 := hL.2.1.1
  rcases zc a1 2 (by omega) with ⟨i, hi, rfl⟩ | hb
  · obtain ⟨s1, s2, s3, s4⟩ := hS i hi
    have w1 : ∀ I9 X9, m9_in fl len X9 I9 (nI i) (0 : Int32) (1 : Int32) = some (1 : Int32) := fun I9 X9 => p_inl1 (a := 0) (n := 1) (by omega) (Nat.zero_le _) (by omega)
    by_cases hsv : sv i = 1
    · obtain ⟨k1, k2, k3⟩ := s4 hsv
      have p0 := hX.2.2.2.1 0 (by omega)
      have p1 := hX.2.2.2.1 (n + 1) (by have := h.2.2.1.1.1; omega)
      have ps : isP b (b + 655 + 72 * i) := by unfold isP; omega
      have i0 := p0.p.in
      have i1 := p1.p.in
      have nt0 := p0.nt
      have nt1 := p1.nt
      obtain ⟨I1, rh, fh, ch⟩ := q_hold hfl hL h
      obtain ⟨x1, x2⟩ := hX.2.2.2.2.2.1 _ p0.p
      obtain ⟨y1, y2⟩ := hX.2.2.2.2.2.1 _ ps
      have k2' : Cs I1 (b + 655 + 72 * i) (Ss i) (Sk i) (W (b + 655 + 72 * i)) := k2.apart y2 k1 (p1.p.apart ps (by omega)) fh
      obtain ⟨I2, r2, f2, c2⟩ := q_copy (fl := fl) (len := len) hfl x1 (hL.2.2 _ p0.p) x2 y1 (hL.2.2 _ ps) y2 (p0.p.apart ps (by omega)) k1 k2'
      obtain ⟨S', eS'⟩ : ∃ S' : Nat → Nat, S' = fun j => if j < 1620 then Ss i j else S j := ⟨_, rfl⟩
      have hS' : ∀ j, j < 1620 → S' j = Ss i j := fun j hj => by rw [eS']; exact if_pos hj
      have hB' : Bn S' := fun j => by
        rw [eS']
        show (if j < 1620 then Ss i j else S j) < _
        split
        · exact k1.2.2.2.2.2.2.2.2 j
        · exact hC.1.2.2.2.2.2.2.2.2 j
      have iv2 : Iv S' (Sk i) := k1.congr hS' hB'
      have cs2 : Cs I2 (sg 0) S' (Sk i) (W (sg 0)) := c2.congr k1 hS'
      have hv5 : S' 5 < 2 ^ 31 := by have := iv2.m6.1; omega
      obtain ⟨I3, X3, I4, r8, r9, s4', f4, a4, xR, r150, fin⟩ := change (v := S' 5) (X2 := X) (I2 := I2) hfl hL h fh ch (fun a h1 _ _ => f2 a h1) cs2 iv2 (fun _ _ => rfl) (fun _ _ _ => rfl) x2 hv5
      have o2 : ∀ a, b + 145 ≤ a ∧ a < b + 151 ∨ b + 799 ≤ a → (∀ f, gF I2 f a = gF I f a) ∧ ∀ j, gA I2 a j = gA I a j := fun a ha => by
        obtain ⟨z1, z2⟩ := f2 a (by omega)
        obtain ⟨z3, z4⟩ := fh a (by omega)
        exact ⟨fun f => (z1 f).trans (z3 f), fun j => (z2 j).trans (z4 j)⟩
      have e5 : gA I4 (b + 802) (1620 * i + 5) = nI (S' 5) := by rw [a4 _ _ (by omega), (o2 _ (by omega)).2, k3 5 (by omega), hS' 5 (by omega)]
      have e9 := p_restore (fl := fl) (len := len) (X := X3) hfl hL (by rw [xR]; exact m.1) (by rw [xR]; exact m.2.2.1) hi I4 e5
      obtain ⟨J, eJ⟩ : ∃ J, J = cpS I4 (b + 800) (b + 802) (1620 * i) 1620 := ⟨_, rfl⟩
      rw [← eJ] at e9
      have rt : RT J b t tx := by
        refine ⟨⟨hT.1.1, ?_, ?_⟩, fun j hj => ⟨(hT.2 j hj).1, ?_, ?_⟩⟩
        · rw [eJ, gF_cpS, f4 _ _ (by omega) (by omega), (o2 _ (by omega)).1]; exact hT.1.2.1
        · rw [eJ, gF_cpS, f4 _ _ (by omega) (by omega), (o2 _ (by omega)).1]; exact hT.1.2.2
        · rw [eJ, gA_cpS_ne (by omega), a4 _ _ (by omega), (o2 _ (by omega)).2]; exact (hT.2 j hj).2.1
        · rw [eJ, gA_cpS_ne (by omega), a4 _ _ (by omega), (o2 _ (by omega)).2]; exact (hT.2 j hj).2.2
      obtain ⟨sg', W', n', Hs', Hk', hR'⟩ := fin J t tx (fun f a _ _ _ _ => by rw [eJ]; rfl) (fun a j ha _ => by rw [eJ]; exact gA_cpS_ne (by omega)) (fun j => by
        rw [eJ, show b + 799 + 1 = b + 800 from rfl, gA_cpS, eS']
        show _ = nI (if j < 1620 then Ss i j else S j)
        by_cases hj : j < 1620
        · rw [if_pos hj, if_pos hj, a4 _ _ (by omega), (o2 _ (by omega)).2]; exact k3 j hj
        · rw [if_neg hj, if_neg hj]; exact s4' j) (by rw [eJ, gF_cpS]; exact r150) rt
      have g803 : gA I3 (b + 803) i = nI 1 := by
        obtain ⟨J3, Y3, a1', -, -, a4', -⟩ := q_record (fl := fl) (len := len) (X := X) (I := I2) (sg := sg) (n := n) hfl hL hX.1.2.2.1 hX.2.1 h.2.2.1.1.1 (by rw [(f2 b (by omega)).1, (fh b (by omega)).1]; exact h.2.2.1.1.2.1) hv5
        have eJ3 : J3 = I3 := by
          rw [r8] at a1'
          exact ((Prod.mk.inj (Prod.mk.inj (Option.some.inj a1')).2).1).symm
        rw [← eJ3, a4', (o2 _ (by omega)).2, s3, hsv]
      refine ⟨nI (S' 5), I3, X3, J, ?_, ?_, Rel.of hR'⟩
      · rw [m8_restore, if_neg (nI_nneg (by omega)), hX.1.2.2.2.1, nn_s, hL.1.2.1, if_pos (by rw [nI_ltI (by omega) (by omega)]; omega), hX.1.2.2.2.2.1, nn_s, hL.1.2.2.1, ck_inb _ (by omega) (by omega), nI_clamp (by omega), s2, hsv, if_neg (by decide), rh, nn_s, hX.1.1, nn_s, ck_inb _ (by omega) (by omega), hX.2.2.1 i hi, nn_s, r2, nn_s, x1.1.2.1, nn_s, c2.2.1.2.1, ← hS' 5 (by omega), r8, nn_s]
      · rw [m9_restore, w1, nn_s, if_neg (by decide), xR, m.2.2.2.1, nn_s, hL.2.1.2.2.2.1, ck_inb _ (by omega) (by omega), nI_clamp (by omega), g803, if_neg (by decide), r9, nn_s]
        exact e9
    · have hz : sv i = 0 := by omega
      refine ⟨-5, I, X, I, ?_, ?_, hR⟩
      · rw [m8_restore, if_neg (nI_nneg (by omega)), hX.1.2.2.2.1, nn_s, hL.1.2.1, if_pos (by rw [nI_ltI (by omega) (by omega)]; omega), hX.1.2.2.2.2.1, nn_s, hL.1.2.2.1, ck_inb _ (by omega) (by omega), nI_clamp (by omega), s2, hz, if_pos (by decide)]
      · rw [m9_restore, w1, nn_s, if_neg (by decide), m.2.2.2.1, nn_s, hL.2.1.2.2.2.1, ck_inb _ (by omega) (by omega), nI_clamp (by omega), s3, hz, if_pos (by decide)]
  · refine ⟨-2, I, X, I, ?_, ?_, hR⟩
    · rw [m8_restore, m8_restore_13]
      rcases hb with h0 | ⟨h0, h2⟩
      · rw [if_pos h0]
      · rw [if_neg h0, hX.1.2.2.2.1, nn_s, hL.1.2.1, if_neg (Int32.not_lt.mpr h2)]
    · rw [m9_restore, show m9_in fl len X I a1 (0 : Int32) (1 : Int32) = some (0 : Int32) from p_inb (n := 1) hb (by omega), nn_s, if_pos (by decide)]
/-! undo -/
theorem XS.to2 (h : XS X p) (hR : ∀ f a, f ≠ 128 → gR X2 f a = gR X f a) (hQ : ∀ a j, p + 28 ≤ a → a < p + 72 → gQ X2 a j = gQ X a j) : XS X2 p := by
  obtain ⟨⟨a1, a2, a3, a4, a5, a6, a7, a8, a9, a10, a11⟩, h2, h3⟩ := h
  refine ⟨⟨by rw [hR _ _ (by omega)]; exact a1, by rw [hR _ _ (by omega)]; exact a2, by rw [hR _ _ (by omega)]; exact a3, by rw [hR _ _ (by omega)]; exact a4, by rw [hR _ _ (by omega)]; exact a5, by rw [hR _ _ (by omega)]; exact a6, by rw [hR _ _ (by omega)]; exact a7, by rw [hR _ _ (by omega)]; exact a8, by rw [hR _ _ (by omega)]; exact a9, by rw [hR _ _ (by omega)]; exact a10, by rw [hR _ _ (by omega)]; exact a11⟩, fun r hr => ?_, fun ch hc => ?_⟩
  · obtain ⟨c1, c2, c3⟩ := h2 r hr
    exact ⟨by rw [hQ _ _ (by omega) (by omega)]; exact c1, by rw [hR _ _ (by omega)]; exact c2, fun k hk => by rw [hQ _ _ (by omega) (by omega)]; exact c3 k hk⟩
  · rw [hQ _ _ (by omega) (by omega)]; exact h3 ch hc
theorem p_undo (hfl : 10000 ≤ fl) (hL : LG len b) (h144 : gR X 144 (b + 799) = some (b + 799 + 1)) (h145 : gR X 145 (b + 799) = some (b + 801)) {i : Nat} (hi : i < 6) (I : Im) (h149 : gF I 149 (b + 799) = nI i) : m9_undo_22 fl len X fl I (b + 799) (nI 0) = some (nI i, cpS I (b + 800) (b + 801) (1620 * i) 1620) := by
  have hl : len (b + 799 + 1) = 1620 := hL.2.1.1
  have loop : ∀ (j k n : Nat), k + j = 1620 → j < n → m9_undo_22 fl len X n (cpS I (b + 800) (b + 801) (1620 * i) k) (b + 799) (nI k) = some (nI i, cpS I (b + 800) (b + 801) (1620 * i) 1620) := by
    intro j
    induction j with
    | zero =>
      intro k n hj hn
      obtain ⟨n, rfl⟩ : ∃ n', n = n' + 1 := ⟨n - 1, by omega⟩
      show m9_undo_22b fl len X (m9_undo_22 fl len X n) _ _ _ = _
      rw [m9_undo_22b, L1620, if_pos (by rw [nI_leI (by omega) (by omega)]; omega), gF_cpS, h149, show k = 1620 by omega]
    | succ j ih =>
      intro k n hj hn
      obtain ⟨n, rfl⟩ : ∃ n', n = n' + 1 := ⟨n - 1, by omega⟩
      have ih := ih (k + 1) n (by omega) (by omega)
      show m9_undo_22b fl len X (m9_undo_22 fl len X n) _ _ _ = _
      rw [m9_undo_22b, L1620, if_neg (by rw [nI_leI (by omega) (by omega)]; omega), h144, nn_s, h145, nn_s, gF_cpS, h149, nI_mul, nI_add, hL.2.1.2.1, ck_inb _ (by omega) (by omega), hl, ck_inb _ (by omega) (by omega), nI_clamp (by omega), nI_clamp (by omega), gA_cpS_ne (by omega), show b + 799 + 1 = b + 800 from rfl, cpS_up rfl, lt_e, L1, nI_add, lt_e, ih]
  have e := loop 1620 0 fl (by omega) (by omega)
  rw [cpS_0] at e
  exact e
theorem st_undo (hfl : 10000 ≤ fl) (hL : LG len b) : St_undo fl len b (b + 799) (Rel b) := by
  intro I X ⟨sg, W, S, K, n, Hs, Hk, sv, Ss, Sk, t, tx, h⟩
  have hR := Rel.of h
  obtain ⟨hX, hC, hH, hS, hT⟩ := h
  have m := hX.2.2.2.2.2.2
  have hn := hH.1.1
  by_cases h0 : n = 0
  · refine ⟨-5, I, X, I, ?_, ?_, hR⟩
    · rw [m8_undo, hH.1.2.1, h0, if_pos (by decide)]
      rfl
    · rw [m9_undo, hH.1.2.2.1, h0, if_pos (by decide)]
  · obtain ⟨i, rfl⟩ : ∃ i, n = i + 1 := ⟨n - 1, by omega⟩
    obtain ⟨k1, k2, k3⟩ := hH.2 i (by omega)
    obtain ⟨I1, eI1⟩ : ∃ I1, I1 = pF I 131 b (nI i) := ⟨_, rfl⟩
    obtain ⟨X1, eX1⟩ : ∃ X1, X1 = pQ (pR X 128 b (some (sg (i + 1)))) (b + 145) i (some (sg 0)) := ⟨_, rfl⟩
    have xR : ∀ f a, f ≠ 128 → gR X1 f a = gR X f a := fun f a hf => by rw [eX1, gR_pQ, gR_pR, if_neg (fun q => hf q.1)]
    have xQ : ∀ a j, a ≠ b + 145 → gQ X1 a j = gQ X a j := fun a j ha => by rw [eX1, gQ_pQ, if_neg (fun q => ha q.1), gQ_pR]
    obtain ⟨I2, eI2⟩ : ∃ I2, I2 = pF I1 149 (b + 799) (nI i) := ⟨_, rfl⟩
    have e9 := p_undo (fl := fl) (len := len) (X := X1) hfl hL (by rw [xR _ _ (by omega)]; exact m.1) (by rw [xR _ _ (by omega)]; exact m.2.1) (i := i) (by omega) I2 (by rw [eI2, gF_s])
    obtain ⟨J, eJ⟩ : ∃ J, J = cpS I2 (b + 800) (b + 801) (1620 * i) 1620 := ⟨_, rfl⟩
    rw [← eJ] at e9
    have jF : ∀ f a, f ≠ 131 → f ≠ 149 → gF J f a = gF I f a := fun f a h1 h2 => by rw [eJ, gF_cpS, eI2, gF_f h2, eI1, gF_f h1]
    have jA : ∀ a j, a ≠ b + 800 → gA J a j = gA I a j := fun a j ha => by rw [eJ, gA_cpS_ne ha, eI2, eI1]; rfl
    obtain ⟨S', eS'⟩ : ∃ S' : Nat → Nat, S' = fun j => if j < 1620 then Hs i j else S j := ⟨_, rfl⟩
    have hS' : ∀ j, j < 1620 → S' j = Hs i j := fun j hj => by rw [eS']; exact if_pos hj
    have hB' : Bn S' := fun j => by
      rw [eS']
      show (if j < 1620 then Hs i j else S j) < _
      split
      · exact k1.2.2.2.2.2.2.2.2 j
      · exact hC.1.2.2.2.2.2.2.2.2 j
    have kp : ∀ a S K, isP b a → Iv S K → Cs I a S K (W a) → Cs J a S K (W a) := fun a S K ha hv hc => by
      have ia := ha.in
      exact hc.same2 (hX.2.2.2.2.2.1 a ha).2 hv.m6.1 hv.m6.2 fun c h1 h2 => ⟨fun f hf => jF f c (by omega) (by omega), fun j => jA c j (by omega)⟩
    have hsn := hX.2.2.2.1 (i + 1) (by omega)
    obtain ⟨sg', esg⟩ : ∃ sg' : Nat → Nat, sg' = fun k => if k = 0 then sg (i + 1) else if k = i + 1 then sg 0 else sg k := ⟨_, rfl⟩
    have g0 : sg' 0 = sg (i + 1) := by rw [esg]; exact if_pos rfl
    have gn : sg' (i + 1) = sg 0 := by rw [esg]; show (if i + 1 = 0 then _ else if i + 1 = i + 1 then _ else _) = _; rw [if_neg (by omega), if_pos rfl]
    have go : ∀ k, k ≠ 0 → k ≠ i + 1 → sg' k = sg k := fun k h1 h2 => by rw [esg]; show (if k = 0 then _ else if k = i + 1 then _ else _) = _; rw [if_neg h1, if_neg h2]
    have inj := hX.2.2.2.2.1
    obtain ⟨⟨x1, x2, x3, x4, x5, x6, x7, x8⟩, y2, y3, y4, y5, y6, -⟩ := id hX
    refine ⟨nI i, I1, X1, J, ?_, ?_, sg', W, S', Hk i, i, Hs, Hk, sv, Ss, Sk, t, tx, ⟨⟨?_, by rw [xR _ _ (by omega)]; exact x2, by rw [xR _ _ (by omega)]; exact x3, by rw [xR _ _ (by omega)]; exact x4, by rw [xR _ _ (by omega)]; exact x5, by rw [xR _ _ (by omega)]; exact x6, by rw [xR _ _ (by omega)]; exact x7, by rw [xR _ _ (by omega)]; exact x8⟩, fun k hk => ?_, fun k hk => by rw [xQ _ _ (by omega)]; exact y3 k hk, fun k hk => ?_, fun k hk l hl he => ?_, fun a ha => ⟨?_, ?_⟩, by rw [xR _ _ (by omega)]; exact m.1, by rw [xR _ _ (by omega)]; exact m.2.1, by rw [xR _ _ (by omega)]; exact m.2.2.1, by rw [xR _ _ (by omega)]; exact m.2.2.2.1, by rw [xR _ _ (by omega)]; exact m.2.2.2.2.1, by rw [xR _ _ (by omega)]; exact m.2.2.2.2.2.1, by rw [xR _ _ (by omega)]; exact m.2.2.2.2.2.2⟩, ⟨k1.congr hS' hB', ?_, fun j => ?_⟩, ⟨⟨by omega, ?_, ?_, ?_⟩, fun k hk => ?_⟩, fun k hk => ⟨(hS k hk).1, ?_, ?_, fun hv => ⟨((hS k hk).2.2.2 hv).1, kp _ _ _ (by unfold isP; omega) ((hS k hk).2.2.2 hv).1 ((hS k hk).2.2.2 hv).2.1, fun j hj => ?_⟩⟩, ⟨⟨hT.1.1, ?_, ?_⟩, fun j hj => ⟨(hT.2 j hj).1, ?_, ?_⟩⟩⟩
    · rw [m8_undo, hH.1.2.1, if_neg (by rw [L0, nI_leI (by omega) (by omega)]; omega), x3, nn_s, hL.1.1, if_pos (by rw [nI_leI (by omega) (by omega)]; omega), L1, nI_sub (by omega), Nat.add_sub_cancel, lt_e, gF_s, x1, nn_s, ck_inb _ (by omega) (by omega), nI_clamp (by omega), y2 i (by omega), nn_s, lt_e, gR_pR, if_neg (by omega), x3, nn_s, hL.1.1, ck_inb _ (by omega) (by omega), lt_e, ← eI1, ← eX1]
    · have h149 : gF I1 149 (b + 799) = nI (i + 1) := by rw [eI1, gF_f (by omega)]; exact hH.1.2.2.1
      rw [m9_undo, h149, if_neg (by rw [L0, nI_eq (by omega) (by omega)]; omega), L1, nI_sub (by omega), Nat.add_sub_cancel, lt_e, ← eI2]
      exact e9
    · rw [eX1, gR_pQ, gR_pR, if_pos ⟨rfl, rfl⟩, g0]
    · rw [eX1, gQ_pQ]
      by_cases e : k = i
      · rw [if_pos ⟨rfl, e⟩, e, gn]
      · rw [if_neg (fun q => e q.2), gQ_pR, y2 k hk, go (k + 1) (by omega) (by omega)]
    · by_cases e0 : k = 0
      · rw [e0, g0]; exact hsn
      · by_cases en : k = i + 1
        · rw [en, gn]; exact y4 0 (by omega)
        · rw [go k e0 en]; exact y4 k hk
    · have e : ∀ k, sg' k = sg (if k = 0 then i + 1 else if k = i + 1 then 0 else k) := fun k => by
        rw [esg]
        show (if k = 0 then _ else if k = i + 1 then _ else _) = _
        split
        · rfl
        · split <;> rfl
      rw [e k, e l] at he
      have := inj _ (by split <;> first | omega | (split <;> omega)) _ (by split <;> first | omega | (split <;> omega)) he
      by_cases a0 : k = 0
      · rw [if_pos a0] at this
        by_cases c0 : l = 0
        · omega
        · rw [if_neg c0] at this
          split at this <;> omega
      · rw [if_neg a0] at this
        by_cases c0 : l = 0
        · rw [if_pos c0] at this
          split at this <;> omega
        · rw [if_neg c0] at this
          by_cases a7 : k = i + 1
          · rw [if_pos a7] at this
            split at this <;> omega
          · rw [if_neg a7] at this
            split at this <;> omega
    · have ia := ha.in
      exact (y6 a ha).1.to2 xR fun c j h1 h2 => xQ c j (by omega)
    · have ia := ha.in
      intro c hc
      rw [xQ _ _ (by omega)]
      exact (y6 a ha).2 c hc
    · rw [g0]
      exact (kp _ _ _ hsn.p k1 k2).congr k1 hS'
    · rw [eJ, show b + 799 + 1 = b + 800 from rfl, gA_cpS, eS']
      show _ = nI (if j < 1620 then Hs i j else S j)
      by_cases hj : j < 1620
      · rw [if_pos hj, if_pos hj, eI2, eI1]
        exact k3 j hj
      · rw [if_neg hj, if_neg hj, eI2, eI1]
        exact hC.2.2 j
    · rw [eJ, gF_cpS, eI2, gF_f (by omega), eI1, gF_s]
    · rw [eJ, gF_cpS, eI2, gF_s]
    · rw [jF _ _ (by omega) (by omega)]; exact hH.1.2.2.2
    · rw [go (k + 1) (by omega) (by omega)]
      obtain ⟨z1, z2, z3⟩ := hH.2 k (by omega)
      exact ⟨z1, kp _ _ _ (y4 (k + 1) (by omega)).p z1 z2, fun j hj => by rw [jA _ _ (by omega)]; exact z3 j hj⟩
    · rw [jA _ _ (by omega)]; exact (hS k hk).2.1
    · rw [jA _ _ (by omega)]; exact (hS k hk).2.2.1
    · rw [jA _ _ (by omega)]; exact ((hS k hk).2.2.2 hv).2.2 j hj
    · rw [jF _ _ (by omega) (by omega)]; exact hT.1.2.1
    · rw [jF _ _ (by omega) (by omega)]; exact hT.1.2.2
    · rw [jA _ _ (by omega)]; exact (hT.2 j hj).2.1
    · rw [jA _ _ (by omega)]; exact (hT.2 j hj).2.2
end RS
