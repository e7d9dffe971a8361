/-! ===== becomes, ifMoved, rest ===== -/
section RO
variable {fl : Nat} {len : Nat → Nat} {X X1 : Xm} {I I1 I2 I3 : Im} {p q b : Nat} {S S' T : Nat → Nat} {K : Nat} {w w' : Nat → Nat}
theorem RelW.tryIt {sg W S K n Hs Hk sv Ss Sk t tx} (hfl : 10000 ≤ fl) (hL : LG len b) (h : RelW I X b sg W S K n Hs Hk sv Ss Sk t tx) : ∃ I1, m4_copyFrom fl len X I (b + 73) (sg 0) = some I1 ∧ Fr (b + 73) I I1 ∧ Cs I1 (b + 73) S K (W (b + 73)) ∧ XS X (b + 73) ∧ LN len (b + 73) ∧ XC X (b + 73) (W (b + 73)) := by
  obtain ⟨hX, hC, hH, hS, hT⟩ := h
  have p0 := hX.2.2.2.1 0 (by omega)
  have pt : isP b (b + 73) := Or.inr (Or.inl rfl)
  obtain ⟨x1, x2⟩ := hX.2.2.2.2.2.1 _ p0.p
  obtain ⟨y1, y2⟩ := hX.2.2.2.2.2.1 _ pt
  obtain ⟨I1, r, f, c⟩ := q_copy (fl := fl) (len := len) hfl y1 (hL.2.2 _ pt) y2 x1 (hL.2.2 _ p0.p) x2 (pt.apart p0.p (Ne.symm p0.nt.1)) hC.1 hC.2.1
  exact ⟨I1, r, f, c, y1, hL.2.2 _ pt, y2⟩
theorem RelW.trial {sg W S K n Hs Hk sv Ss Sk t tx} (h : RelW I X b sg W S K n Hs Hk sv Ss Sk t tx) (hf : Fr (b + 73) I I1) : RelW I1 X b sg W S K n Hs Hk sv Ss Sk t tx :=
  h.fr fun a ha => by
    unfold sp at ha
    obtain ⟨x1, x2⟩ := hf a (by omega)
    exact ⟨fun f _ _ _ _ _ => x1 f, x2⟩
theorem aside_row {S : Nat → Nat} (h : ∀ j, gA I (b + 799 + 1) j = nI (S j)) : cpR I (b + 804) 0 (b + 800) 1620 = mS (cpR I (b + 804) 0 (b + 800) 1620) (b + 799 + 1) S :=
  (mS_self fun j => by rw [gA_cpR_ne (by omega)]; exact h j).symm
theorem p_become (hfl : 10000 ≤ fl) (hL : LG len b) (h144 : gR X 144 (b + 799) = some (b + 799 + 1)) (h148 : gR X 148 (b + 799) = some (b + 804)) {c : Nat} : ∀ (j n : Nat) (S : Nat → Nat) (K m : Nat), c < S 5 → j < n → Iv S K → S 4 + j ≤ 1200 → m + (nP j S K).2.2 < 10000 → rd (fun S _ => S (8 + 5 * c + 4) = 0) j S K → m9_becomes_16 fl len X n (mS I (b + 799 + 1) S) (b + 799) (nI c) (nI m) = some (nI ((nP j S K).1 (8 + 5 * c + 4)), cpR (mS I (b + 799 + 1) (nP j S K).1) (b + 800) 0 (b + 804) 1620) := by
  have hl : len (b + 799 + 1) = 1620 := hL.2.1.1
  intro j
  induction j with
  | zero =>
    intro n S K m hc hn h h4 hm hr
    obtain ⟨n, rfl⟩ : ∃ n', n = n' + 1 := ⟨n - 1, by omega⟩
    have h5 := h.m6.1
    have hB := h.2.2.2.2.2.2.2.2 (8 + 5 * c + 4)
    have hr : ¬ S (8 + 5 * c + 4) = 0 := hr
    have hm : m + 0 < 10000 := hm
    show m9_becomes_16b fl len X (m9_becomes_16 fl len X n) _ _ _ _ = _
    rw [m9_becomes_16b, L4, p_of h144 hl (by omega) (by omega), nn_s, L0, if_neg (by rw [nI_eq (by omega) (by omega)]; exact hr), if_pos (by rw [nI_leI (by omega) (by omega)]; omega), nn_s, m9_becomes_50, p_back hfl h144 h148 hl hL.2.1.2.2.2.2.1, nn_s]
    rfl
  | succ j ih =>
    intro n S K m hc hn h h4 hm hr
    obtain ⟨n, rfl⟩ : ∃ n', n = n' + 1 := ⟨n - 1, by omega⟩
    obtain ⟨a, e4, e5⟩ := h.pass (by omega)
    have h5 := h.m6.1
    have h0 : S (8 + 5 * c + 4) = 0 := hr.1
    have hm : m + (passM S K + (nP j (passS S K) (passK S K)).2.2) < 10000 := hm
    have ih := ih n _ _ (m + passM S K) (by omega) (by omega) a (by omega) (by omega) hr.2
    show m9_becomes_16b fl len X (m9_becomes_16 fl len X n) _ _ _ _ = _
    rw [m9_becomes_16b, L4, p_of h144 hl (by omega) (by omega), nn_s, if_pos (by rw [h0]; rfl), p_passes hfl h144 hl h, nn_s]
    simp only
    rw [nI_add, lt_e, ih]
    rfl
theorem st_becomes (hfl : 10000 ≤ fl) (hL : LG len b) : St_becomes fl len b (b + 799) (Rel b) := by
  intro I X a1 ⟨sg, W, S, K, n, Hs, Hk, sv, Ss, Sk, t, tx, h⟩
  obtain ⟨I1, rt, ft, ct, xt, nt, xct⟩ := RelW.tryIt hfl hL h
  have hv := h.2.1.1
  have h5 := hv.m6.1
  obtain ⟨j, hj, h4j⟩ := rd_ex (G := tcm) (fun S K hi hg => gon_lt hi (tcm_gon hg)) 1200 S K hv (by omega)
  obtain ⟨I2, f2, c2, r2⟩ := q_missedIn (fl := fl) (len := len) (b := b) hfl xt nt xct h.1.1.2.1 hv ct h4j hj
  have hft := ft.trans f2
  have h2 := h.trial hft
  have hvT := Iv.passes j S K hv h4j
  obtain ⟨e4, e5⟩ := nP_4 j S K hv h4j
  have m := h.1.2.2.2.2.2.2
  have hl : len (b + 799 + 1) = 1620 := hL.2.1.1
  rcases zc a1 (S 5) (by omega) with ⟨c, hc1, rfl⟩ | hb
  · obtain ⟨j3, hj3, h43⟩ := rd_ex (G := fun S _ => S (8 + 5 * c + 4) = 0 ∧ c < S 5) (fun S K hi hg => gon_lt hi (tcm_gon (Nat.lt_of_le_of_lt ((hi.2.2.1.1 c hg.2).2.2.2.1.mp hg.1) hg.2))) 1200 S K hv (by omega)
    have hrd : ∀ (j : Nat) (S : Nat → Nat) (K : Nat), Iv S K → c < S 5 → S 4 + j ≤ 1200 → rd (fun S _ => S (8 + 5 * c + 4) = 0 ∧ c < S 5) j S K → rd (fun S _ => S (8 + 5 * c + 4) = 0) j S K := by
      intro j
      induction j with
      | zero => exact fun S K hi hc' h4' hr => fun q => hr ⟨q, hc'⟩
      | succ j ih =>
        intro S K hi hc' h4' hr
        obtain ⟨a, e4, e5⟩ := hi.pass (by omega)
        exact ⟨hr.1.1, ih _ _ a (by omega) (by omega) hr.2⟩
    have hrd3 := hrd j3 S K hv hc1 h43 hj3
    have est := rd_st j3 j S K hv hc1 h4j hrd3 hj
    have hm3 := msd_nP j3 S K hv h43
    have h48 := msd_le (Iv.passes j3 S K hv h43)
    have e20 := (c2.2.2.1 c (by omega)).2.2.2.2
    have hcue := q_cue (fl := fl) (len := len) xt nt xct hvT.m6.1 c2.2.1.2.1 (show c < (nP j S K).1 5 by omega)
    refine ⟨nI ((nP j S K).1 (8 + 5 * c + 4)), I2, _, ?_, ?_, h.asked hft ((Iv.passes j3 S K hv h43).2.2.2.2.2.2.2.2) (fun _ _ => rfl) (fun _ _ _ => rfl) xct⟩
    · rw [m8_becomes, h.1.1.2.1, nn_s, h.1.1.1, nn_s, rt, nn_s, r2, nn_s]
      simp only
      rw [xt.1.2.1, nn_s, hcue, nn_s, if_neg (by simp), nn_s, e20]
      rfl
    · have hrow := aside_row (I := I2) h2.2.1.2.2
      have i1 : m9_isCue fl len X I2 (b + 799) (nI c) = some (1 : Int32) := by rw [← mS_self h2.2.1.2.2]; exact p_isCue1 m.1 hl hc1 h5
      have e := p_become (fl := fl) (len := len) (X := X) (I := cpR I2 (b + 804) 0 (b + 800) 1620) hfl hL m.1 m.2.2.2.2.1 j3 fl S K 0 hc1 (by omega) hv h43 (by omega) hrd3
      rw [← hrow, est] at e
      rw [m9_becomes, i1, nn_s, if_neg (by decide), p_aside hfl m.1 m.2.2.2.2.1 hl hL.2.1.2.2.2.2.1, nn_s]
      exact e
  · refine ⟨-1, I2, I2, ?_, ?_, Rel.of h2⟩
    · rw [m8_becomes, h.1.1.2.1, nn_s, h.1.1.1, nn_s, rt, nn_s, r2, nn_s]
      simp only
      rw [xt.1.2.1, nn_s, q_cue0 c2.2.1.2.1 (show bad ((nP j S K).1 5) a1 by rw [e5]; exact hb), nn_s, if_pos rfl]
      rfl
    · have i0 : m9_isCue fl len X I2 (b + 799) a1 = some (0 : Int32) := by rw [← mS_self h2.2.1.2.2]; exact p_isCue0 m.1 hl hb h5
      rw [m9_becomes, i0, nn_s, if_pos (by decide)]
theorem st_ifMoved (hfl : 10000 ≤ fl) (hL : LG len b) : St_ifMoved fl len b (b + 799) (Rel b) := by
  intro I X a1 a2 ⟨sg, W, S, K, n, Hs, Hk, sv, Ss, Sk, t, tx, h⟩
  obtain ⟨I1, rt, ft, ct, xt, nt, xct⟩ := RelW.tryIt hfl hL h
  have hv := h.2.1.1
  have m := h.1.2.2.2.2.2.2
  have hl : len (b + 799 + 1) = 1620 := hL.2.1.1
  rcases o_mv (fl := fl) (len := len) (X := X) (I := I1) (q := b + 799) hfl xt nt xct hv ct hl a1 a2 with ⟨r, S', w', I2, X2, z1, z2, z3, z4, z5, z6, z7, z8, z9, z10⟩ | ⟨v, z1, z2, z3⟩
  · have xt2 : XS X2 (b + 73) := xt.to z7 (fun a j h1 h2 => z8 a j (by omega))
    obtain ⟨j, hj, h4j⟩ := rd_ex (G := tcm) (fun S K hi hg => gon_lt hi (tcm_gon hg)) 1200 S' K z5 (by omega)
    obtain ⟨j2, hj2, h42⟩ := rd_ex (G := gon) (fun S K hi hg => gon_lt hi hg) 1200 S' K z5 (by omega)
    obtain ⟨I3, f3, c3, r3⟩ := q_missedIn (fl := fl) (len := len) (b := b) hfl xt2 nt z6 (by rw [z7]; exact h.1.1.2.1) z5 z4 h4j hj
    have hft := (ft.trans z3).trans f3
    have h3 := h.trial hft
    have em := rd_m j2 j S' K z5 h42 hj2 hj
    have x144 : gR X2 144 (b + 799) = some (b + 799 + 1) := by rw [z7]; exact m.1
    have x148 : gR X2 148 (b + 799) = some (b + 804) := by rw [z7]; exact m.2.2.2.2.1
    refine ⟨nI (nP j S' K).2.2, I3, X2, _, ?_, ?_, h.asked hft ((Iv.passes j2 S' K z5 h42).2.2.2.2.2.2.2.2) z7 z8 z6⟩
    · rw [m8_ifMoved, h.1.1.2.1, nn_s, h.1.1.1, nn_s, rt, nn_s, z2, nn_s]
      simp only
      rw [if_pos (nneg_not z1), r3, nn_s]
      rfl
    · have hrow := aside_row (I := I3) h3.2.1.2.2
      have e := p_playsRest (fl := fl) (len := len) (X := X2) (I := cpR I3 (b + 804) 0 (b + 800) 1620) (q := b + 799) hfl x144 hl j2 fl S' K 0 (by omega) z5 h42 hj2
      rw [Nat.zero_add, em] at e
      rw [m9_ifMoved, z9 X2 I3 x144 h3.2.1.2.2, nn_s, if_pos (by decide), p_aside hfl x144 x148 hl hL.2.1.2.2.2.2.1, nn_s, hrow, z10 X2 _ x144, nn_s]
      simp only
      rw [if_pos (nneg_not z1), m9_playsRest, L0, e, nn_s]
      simp only
      rw [m9_ifMoved_39, p_back hfl x144 x148 hl hL.2.1.2.2.2.2.1, nn_s, ← hrow]
  · have h1 := h.trial ft
    refine ⟨v, I1, X, I1, ?_, ?_, Rel.of h1⟩
    · rw [m8_ifMoved, h.1.1.2.1, nn_s, h.1.1.1, nn_s, rt, nn_s, z2, nn_s]
      simp only
      rw [if_neg z1]
      rfl
    · rw [m9_ifMoved, z3 X I1 m.1 h1.2.1.2.2, nn_s, if_neg z1]
/-! rest -/
def vlo (S : Nat → Nat) (f k : Nat) : Nat := match lof S f k with
  | none => 0
  | some c => S (320 + c)
theorem lof_congr {f : Nat} : ∀ {k : Nat}, (∀ i, f ≤ i → i < f + k → S' (320 + i) = S (320 + i)) → lof S' f k = lof S f k
  | 0, _ => rfl
  | k + 1, h => by
    have ih := lof_congr (f := f) (k := k) (fun i h1 h2 => h i h1 (by omega))
    unfold lof
    rw [ih]
    cases hx : lof S f k with
    | none => rfl
    | some c =>
      have := lof_lt hx
      show (if S' (320 + (f + k)) ≤ S' (320 + c) then some c else some (f + k)) = _
      rw [h (f + k) (by omega) (by omega), h c (by omega) (by omega)]
theorem tlo_congr {f : Nat} (h3 : S' 3 = S 3) : ∀ {k : Nat}, (∀ i, f ≤ i → i < f + k → S' (320 + i) = S (320 + i)) → tlo S' f k = tlo S f k
  | 0, _ => rfl
  | k + 1, h => by
    show tlo S' f k + _ = tlo S f k + _
    rw [tlo_congr h3 (k := k) (fun i h1 h2 => h i h1 (by omega)), h (f + k) (by omega) (by omega), h3]
theorem q_restL (hfl : 10000 ≤ fl) (hX : XS X p) (hN : LN len p) (hC : XC X p w) (a1 m0 : Int32) (f p0 : Nat) : ∀ (j k n : Nat) (S : Nat → Nat) (K : Nat) (I : Im), f + k = S 4 → j < n → Iv S K → Cs I p S K w → S 4 + j ≤ 1200 → rd gon j S K → ∃ I1, Fr p I I1 ∧ Cs I1 p (nP j S K).1 (nP j S K).2.1 w ∧ m8_rest_46 fl len X n I b a1 m0 (nI k) (oI (lof S f k)) (nI (vlo S f k)) (nI (tlo S f k)) p0 p (p + 2) = m8_rest_125 fl len X I1 b a1 m0 (nI (k + j)) (oI (lof (nP j S K).1 f (k + j))) (nI (vlo (nP j S K).1 f (k + j))) (nI (tlo (nP j S K).1 f (k + j))) p0 p (p + 2) := by
  intro j
  induction j with
  | zero =>
    intro k n S K I hk hn h hc h4 hr
    obtain ⟨n, rfl⟩ : ∃ n', n = n' + 1 := ⟨n - 1, by omega⟩
    refine ⟨I, Fr.rfl, hc, ?_⟩
    show m8_rest_46b fl len X (m8_rest_46 fl len X n) _ _ _ _ _ _ _ _ _ _ _ = _
    rw [m8_rest_46b, L1M, if_neg (by rw [nI_leI (by omega) (by omega)]; omega), q_goes0 hfl hX hN h hc hr, nn_s, if_pos (by decide)]
    rfl
  | succ j ih =>
    intro k n S K I hk hn h hc h4 hr
    obtain ⟨n, rfl⟩ : ∃ n', n = n' + 1 := ⟨n - 1, by omega⟩
    obtain ⟨I1, f1, c1, r1⟩ := q_second (fl := fl) (len := len) hfl hX hN hC h (by omega) hc
    obtain ⟨a, e4, e5⟩ := h.pass (by omega)
    obtain ⟨pr1, pr2, pr3⟩ := pass_row h (by omega)
    obtain ⟨I2, f2, c2, r2⟩ := ih (k + 1) n _ _ I1 (by omega) (by omega) a c1 (by omega) hr.2
    refine ⟨I2, f1.trans f2, c2, ?_⟩
    rw [show k + (j + 1) = k + 1 + j by omega]
    show _ = m8_rest_125 fl len X I2 b a1 m0 (nI (k + 1 + j)) (oI (lof (nP j (passS S K) (passK S K)).1 f (k + 1 + j))) (nI (vlo (nP j (passS S K) (passK S K)).1 f (k + 1 + j))) (nI (tlo (nP j (passS S K) (passK S K)).1 f (k + 1 + j))) p0 p (p + 2)
    rw [← r2]
    have lc : lof (passS S K) f k = lof S f k := lof_congr fun i h1 h2 => pr2 _ (by omega) (by omega)
    have tc : tlo (passS S K) f k = tlo S f k := tlo_congr (pr3 3 (by omega)) fun i h1 h2 => pr2 _ (by omega) (by omega)
    have eh : passS S K (320 + (f + k)) = loudP S K := by rw [hk]; exact pr1
    have tn : tlo (passS S K) f (k + 1) = tlo S f k + if loudP S K ≤ S 3 then 0 else 1 := by
      show tlo (passS S K) f k + (if passS S K (320 + (f + k)) ≤ passS S K 3 then 0 else 1) = _
      rw [tc, eh, pr3 3 (by omega)]
    have hBp := a.2.2.2.2.2.2.2.2
    have hBh := hBp (320 + (f + k))
    rw [eh] at hBh
    have hB3 := h.2.2.2.2.2.2.2.2 3
    have d13 : gA I1 (p + 1) 3 = nI (S 3) := by rw [c1.1 3 (by omega), pr3 3 (by omega)]
    -- the count of what was too loud
    have fin : ∀ (x4 : Int32) (x5 : Nat), lof (passS S K) f (k + 1) = (fun o => o) (lof (passS S K) f (k + 1)) → x4 = oI (lof (passS S K) f (k + 1)) → x5 = vlo (passS S K) f (k + 1) → m8_rest_102 fl len X (m8_rest_46 fl len X n) I1 b a1 m0 (nI k) x4 (nI x5) (nI (tlo S f k)) (nI (loudP S K)) p0 p (p + 2) = m8_rest_46 fl len X n I1 b a1 m0 (nI (k + 1)) (oI (lof (passS S K) f (k + 1))) (nI (vlo (passS S K) f (k + 1))) (nI (tlo (passS S K) f (k + 1))) p0 p (p + 2) := by
      intro x4 x5 _ e1 e2
      rw [m8_rest_102, hX.1.1, nn_s, hN.1.1, L3, ck_inb _ (by omega) (by omega), nI_clamp (by omega), d13, e1, e2, tn]
      by_cases hs : loudP S K ≤ S 3
      · rw [if_pos (by rw [nI_leI (by omega) (by omega)]; exact hs), if_pos hs, m8_rest_119, L1, nI_add, lt_e]
        rfl
      · rw [if_neg (by rw [nI_leI (by omega) (by omega)]; exact hs), if_neg hs, L1, nI_add, lt_e, m8_rest_119, L1, nI_add, lt_e]
    have start : m8_rest_46 fl len X (n + 1) I b a1 m0 (nI k) (oI (lof S f k)) (nI (vlo S f k)) (nI (tlo S f k)) p0 p (p + 2) = if oI (lof S f k) = (-6 : Int32) then m8_rest_94 fl len X (m8_rest_46 fl len X n) I1 b a1 m0 (nI k) (nI (tlo S f k)) (nI (S 4)) (nI (loudP S K)) p0 p (p + 2) else if nI (loudP S K) ≤ nI (vlo S f k) then m8_rest_102 fl len X (m8_rest_46 fl len X n) I1 b a1 m0 (nI k) (oI (lof S f k)) (nI (vlo S f k)) (nI (tlo S f k)) (nI (loudP S K)) p0 p (p + 2) else m8_rest_94 fl len X (m8_rest_46 fl len X n) I1 b a1 m0 (nI k) (nI (tlo S f k)) (nI (S 4)) (nI (loudP S K)) p0 p (p + 2) := by
      show m8_rest_46b fl len X (m8_rest_46 fl len X n) _ _ _ _ _ _ _ _ _ _ _ = _
      rw [m8_rest_46b, L1M, if_neg (by rw [nI_leI (by omega) (by omega)]; omega), q_goes1 hfl hX hN h hc hr.1, nn_s, if_neg (by decide), hc.2.1.1, lt_e, r1, nn_s]
    rw [start]
    have newOne : lof (passS S K) f (k + 1) = some (f + k) → m8_rest_94 fl len X (m8_rest_46 fl len X n) I1 b a1 m0 (nI k) (nI (tlo S f k)) (nI (S 4)) (nI (loudP S K)) p0 p (p + 2) = m8_rest_46 fl len X n I1 b a1 m0 (nI (k + 1)) (oI (lof (passS S K) f (k + 1))) (nI (vlo (passS S K) f (k + 1))) (nI (tlo (passS S K) f (k + 1))) p0 p (p + 2) := by
      intro e
      rw [m8_rest_94]
      refine fin (nI (S 4)) (loudP S K) rfl ?_ ?_
      · rw [e, ← hk]; rfl
      · unfold vlo
        rw [e]
        exact eh.symm
    cases hx : lof S f k with
    | none =>
      rw [if_pos (show oI none = (-6 : Int32) from rfl)]
      refine newOne ?_
      unfold lof
      rw [lc, hx]
    | some c =>
      have hcl := lof_lt hx
      have ev : vlo S f k = S (320 + c) := by unfold vlo; rw [hx]
      have hBc := h.2.2.2.2.2.2.2.2 (320 + c)
      have ec : passS S K (320 + c) = S (320 + c) := pr2 _ (by omega) (by omega)
      have el : lof (passS S K) f (k + 1) = if loudP S K ≤ S (320 + c) then some c else some (f + k) := by
        conv => lhs; unfold lof
        rw [lc, hx]
        show (if passS S K (320 + (f + k)) ≤ passS S K (320 + c) then _ else _) = _
        rw [eh, ec]
      rw [if_neg (show ¬ oI (some c) = (-6 : Int32) from nI_m6 (by omega)), ev]
      by_cases hs : loudP S K ≤ S (320 + c)
      · rw [if_pos (by rw [nI_leI (by omega) (by omega)]; exact hs)]
        rw [if_pos hs] at el
        refine fin _ _ rfl (by rw [el]) ?_
        unfold vlo
        rw [el]
        exact ec.symm
      · rw [if_neg (by rw [nI_leI (by omega) (by omega)]; exact hs)]
        rw [if_neg hs] at el
        exact newOne el
theorem st_rest (hfl : 10000 ≤ fl) (hL : LG len b) : St_rest fl len b (b + 799) (Rel b) := by
  intro I X a1 ⟨sg, W, S, K, n, Hs, Hk, sv, Ss, Sk, t, tx, h⟩
  have m := h.1.2.2.2.2.2.2
  have hl : len (b + 799 + 1) = 1620 := hL.2.1.1
  rcases rng a1 0 4 (by omega) (by omega) with ⟨z, -, hz, rfl⟩ | hb
  · obtain ⟨I1, rt, ft, ct, xt, nt, xct⟩ := RelW.tryIt hfl hL h
    have hv := h.2.1.1
    have h4S := hv.2.1.1
    obtain ⟨j, hj, h4j⟩ := rd_ex (G := gon) (fun S K hi hg => gon_lt hi hg) 1200 S K hv (by omega)
    obtain ⟨I2, f2, c2, r2⟩ := q_restL (fl := fl) (len := len) (b := b) hfl xt nt xct (nI z) (nI (msd S)) (S 4) (sg 0) j 0 fl S K I1 rfl (by omega) hv ct h4j hj
    rw [Nat.zero_add] at r2
    have hft := ft.trans f2
    have h2 := h.trial hft
    have hvT := Iv.passes j S K hv h4j
    obtain ⟨e4, e5⟩ := nP_4 j S K hv h4j
    have hm := msd_nP j S K hv h4j
    have h48 := msd_le hvT
    have hBT := hvT.2.2.2.2.2.2.2.2
    have h4T := hvT.2.1.1
    have hrow := aside_row (I := I2) h2.2.1.2.2
    have ep := p_playsRest (fl := fl) (len := len) (X := X) (I := cpR I2 (b + 804) 0 (b + 800) 1620) (q := b + 799) hfl m.1 hl j fl S K 0 (by omega) hv h4j hj
    rw [Nat.zero_add, ← hrow] at ep
    have class8 : m8_rest fl len X I b (nI z) = m8_rest_125 fl len X I2 b (nI z) (nI (msd S)) (nI j) (oI (lof (nP j S K).1 (S 4) j)) (nI (vlo (nP j S K).1 (S 4) j)) (nI (tlo (nP j S K).1 (S 4) j)) (sg 0) (b + 73) (b + 75) := by
      rw [m8_rest, show m8_within fl len X I (nI z) (0 : Int32) (4 : Int32) = some (1 : Int32) from q_withinl (a := 0) (n := 4) hz (Nat.zero_le _) (by omega), nn_s, if_neg (by decide), h.1.1.2.1, nn_s, h.1.1.1, nn_s, rt, nn_s, xt.1.2.1, nn_s, q_missed hfl xt nt xct hv ct, nn_s]
      exact r2
    generalize hT : (nP j S K).1 = T at *
    have tl := p_tooLoud (fl := fl) (len := len) (X := X) (I := cpR I2 (b + 804) 0 (b + 800) 1620) (q := b + 799) (S := T) hfl m.1 hl hBT h4T (f := S 4) (by omega)
    have lo := p_loudest (fl := fl) (len := len) (X := X) (I := cpR I2 (b + 804) 0 (b + 800) 1620) (q := b + 799) (S := T) hfl m.1 hl hBT h4T (f := S 4) (by omega)
    rw [show T 4 - S 4 = j by omega] at tl lo
    have back := p_back (fl := fl) (len := len) (X := X) hfl m.1 m.2.2.2.2.1 hl hL.2.1.2.2.2.2.1 (mS (cpR I2 (b + 804) 0 (b + 800) 1620) (b + 799 + 1) T)
    obtain ⟨J, eJ⟩ : ∃ J, J = cpR (mS (cpR I2 (b + 804) 0 (b + 800) 1620) (b + 799 + 1) T) (b + 800) 0 (b + 804) 1620 := ⟨_, rfl⟩
    rw [← eJ] at back
    have tail : m9_rest fl len X I2 (b + 799) (nI z) = m9_rest_118 fl len X J (if z = 0 then nI j else if z = 1 then nI (nP j S K).2.2 else if z = 2 then oI (lof T (S 4) j) else if z = 3 then nI (vlo T (S 4) j) else nI (tlo T (S 4) j)) := by
      have t55 : ∀ (v12 v3 : Int32), m9_rest_55 fl len X (mS (cpR I2 (b + 804) 0 (b + 800) 1620) (b + 799 + 1) T) (b + 799) (nI z) (nI (S 4)) (nI (nP j S K).2.2) v12 v3 (b + 799 + 1) = m9_rest_118 fl len X J (if z = 0 then nI j else if z = 1 then nI (nP j S K).2.2 else if z = 2 then v12 else if z = 3 then v3 else nI (tlo T (S 4) j)) := by
        intro v12 v3
        rw [m9_rest_55, tl, nn_s, hl, show (4 : Int32) = nI 4 from rfl, ck_inb _ (by omega) (by omega), nI_clamp (by omega), gA_mS, nI_sub (by omega), lt_e, back, nn_s, show T 4 - S 4 = j by omega]
        have : z = 0 ∨ z = 1 ∨ z = 2 ∨ z = 3 ∨ z = 4 := by omega
        rcases this with rfl | rfl | rfl | rfl | rfl
        · rw [if_pos (by decide), if_pos rfl]
        · rw [if_neg (by decide), if_pos (by decide), if_neg (by omega), if_pos rfl]
        · rw [if_neg (by decide), if_neg (by decide), if_pos (by decide), if_neg (by omega), if_neg (by omega), if_pos rfl]
        · rw [if_neg (by decide), if_neg (by decide), if_neg (by decide), if_pos (by decide), if_neg (by omega), if_neg (by omega), if_neg (by omega), if_pos rfl]
        · rw [if_neg (by decide), if_neg (by decide), if_neg (by decide), if_neg (by decide), if_neg (by omega), if_neg (by omega), if_neg (by omega), if_neg (by omega)]
      rw [m9_rest, show m9_in fl len X I2 (nI z) (0 : Int32) (4 : Int32) = some (1 : Int32) from p_inl1 (a := 0) (n := 4) hz (Nat.zero_le _) (by omega), nn_s, if_neg (by decide), p_aside hfl m.1 m.2.2.2.2.1 hl hL.2.1.2.2.2.2.1, nn_s, m.1, nn_s, hl, show (4 : Int32) = nI 4 from rfl, ck_inb _ (by omega) (by omega), nI_clamp (by omega), gA_cpR_ne (by omega), show gA I2 (b + 799 + 1) 4 = nI (S 4) from h2.2.1.2.2 4, lt_e, m9_playsRest, L0, ep, nn_s]
      simp only
      rw [lo, nn_s]
      cases hx : lof T (S 4) j with
      | none =>
        rw [if_neg (by decide), t55]
        unfold vlo
        rw [hx]
      | some c =>
        have hcl := lof_lt hx
        rw [show oI (some c) = nI c from rfl, if_pos (by rw [nI_leI (by omega) (by omega)]; omega), L320, nI_add, ck_inb _ (by omega) (by omega), nI_clamp (by omega), gA_mS, t55]
        unfold vlo
        rw [hx]
    have hR : Rel b J X := by rw [eJ]; exact h.asked hft hBT (fun _ _ => rfl) (fun _ _ _ => rfl) xct
    have hz5 : z = 0 ∨ z = 1 ∨ z = 2 ∨ z = 3 ∨ z = 4 := by omega
    refine ⟨if z = 0 then nI j else if z = 1 then nI (nP j S K).2.2 else if z = 2 then oI (lof T (S 4) j) else if z = 3 then nI (vlo T (S 4) j) else nI (tlo T (S 4) j), I2, J, ?_, ?_, hR⟩
    · rw [class8, m8_rest_125]
      have hq : m6_missedCues fl len X I2 (b + 75) = some (nI (msd T)) := q_missed hfl xt nt xct hvT c2
      rcases hz5 with rfl | rfl | rfl | rfl | rfl
      · rw [if_pos (by decide), if_pos rfl]
      · rw [if_neg (by decide), if_pos (by decide), if_neg (by omega), if_pos rfl, hq, nn_s, nI_sub (by omega), hm, Nat.add_sub_cancel_left]
      · rw [if_neg (by decide), if_neg (by decide), if_pos (by decide), if_neg (by omega), if_neg (by omega), if_pos rfl]
      · rw [if_neg (by decide), if_neg (by decide), if_neg (by decide), if_pos (by decide), if_neg (by omega), if_neg (by omega), if_neg (by omega), if_pos rfl]
      · rw [if_neg (by decide), if_neg (by decide), if_neg (by decide), if_neg (by decide), if_neg (by omega), if_neg (by omega), if_neg (by omega), if_neg (by omega)]
    · rw [tail, m9_rest_118]
  · refine ⟨-2, I, I, ?_, ?_, Rel.of h⟩
    · rw [m8_rest, L0, L4, q_within0 hb, nn_s, if_pos (by decide)]
    · rw [m9_rest, L0, L4, p_in0 hb, nn_s, if_pos (by decide)]
end RO
