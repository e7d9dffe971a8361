/-! ===== cues: they come in, go out, are moved ===== -/
section CM
variable {fl : Nat} {len : Nat → Nat} {X X1 : Xm} {I I1 I2 : Im} {a b : Nat} {S S' : Nat → Nat} {K K' : Nat} {T T' : Nat → Nat → Nat}
/-- a change that is refused, or one that leaves the second now as it is -/
theorem ins_4 {r t kd wh v : Nat} (hr : r ≤ S 5) (hn : S 5 < 24) : insS S r t kd wh v 4 = S 4 := ins_far hr hn (by omega) (by omega)
/-- a small int, maybe below 0 -/
theorem small (z : Int32) (n : Nat) (h : z.toInt = (n : Int) - 2) (hn : n < 10000) : (z < 0 ∧ n < 2) ∨ (2 ≤ n ∧ z = nI (n - 2)) := by
  by_cases q : n < 2
  · exact Or.inl ⟨by rw [Int32.lt_iff_toInt_lt, Int32.toInt_zero]; omega, q⟩
  · refine Or.inr ⟨by omega, Int32.toInt_inj.mp ?_⟩
    rw [nI_toInt (by omega)]
    omega
theorem neg_no {z : Int32} (h : z < 0) : ¬ (nI 0 ≤ z ∧ z ≤ nI 999) := fun q => by
  have h1 := q.1
  rw [Int32.le_iff_toInt_le, nI_toInt (by omega)] at h1
  rw [Int32.lt_iff_toInt_lt, Int32.toInt_zero] at h
  omega
/-- a cue comes in -/
theorem g_cueIn (hfl : 10000 ≤ fl) (hG : LG len b) (ha : a = b + 799) (hL : LL len a) (hc : Cl (mL I a T) X b S K) (h : LT T S) {kd wh v : Nat} {z : Int32} {m : Nat} (hz : z.toInt = (m : Int) - 2) (hm : m < 10000) (hkd : kd ≤ 2) (hwh : wh < 4) (h1 : kd = 1 → 1 ≤ v ∧ v ≤ 99) (h2 : kd = 2 → v ≤ 100) (hb : v ≤ 100) : Ev (m9_isCue_94 fl len (mL I a T) X b a (a + 1) (a + 2) (a + 3) z (nI wh) (nI kd) (nI v)) (mL I a T) b S := by
  have hv := hc.iv
  have h5 := hv.m6.1
  have h4 := hv.2.1.1
  obtain ⟨l0, l1, l2, l3, l4, l5, l6, l7, l8⟩ := id hL
  have f3 := h.2.2.1 (4 * wh + 3) (by omega)
  rw [show 128 + (4 * wh + 3) = 128 + 4 * wh + 3 by omega] at f3
  have hm6 := hv.m6.2 wh hwh
  -- the end: what is due is what comes
  have neg : ∀ v' : Int32, v' < 0 → Did (m8_cue fl len X (mL I a T) b z (nI kd) (nI wh) (nI v)) (mL I a T) b S K v' → Ev (m9_isCue_182 fl len (mL I a T) X b a (a + 1) (a + 2) z (nI wh) (nI kd) (nI v) v') (mL I a T) b S := by
    intro v' hn hd
    obtain ⟨I1, X1, r8, fo, hcl⟩ := hd
    refine ⟨I1, X1, S, K, ?_, Both.of ha fo hcl h, fo.fa, by omega⟩
    rw [m9_isCue_182, if_pos hn, m9_isCue_212, r8, nn_s]
    simp only
    rw [if_pos trivial, m9_isCue_234, ck_isbl1]
  -- behind the question whether the sound is there
  have all : ∀ no : Nat, no ≤ 1 → (no = 1 ↔ (kd = 0 ∧ ¬ v < S (128 + 4 * wh + 3))) → Ev (m9_isCue_120 fl len (mL I a T) X b a (a + 1) (a + 2) z (nI wh) (nI kd) (nI v) (nI no)) (mL I a T) b S := by
    intro no hno1 hno
    rcases small z m hz hm with ⟨hlt, -⟩ | ⟨hm2, ez⟩
    · rw [m9_isCue_120, if_pos hlt, m9_isCue_135]
      exact neg _ (by decide) (k_cueB hfl hG hc (neg_no hlt))
    · rw [m9_isCue_120, ez, if_neg (nI_nneg (by omega))]
      by_cases ht : m - 2 ≤ 999
      · rw [if_pos (by rw [L999, nI_leI (by omega) (by omega)]; exact ht)]
        have kc := k_cue (fl := fl) (len := len) hfl hG hc (t := m - 2) ht hkd hwh h1 h2 (by omega)
        rw [ez] at neg
        by_cases hq : no = 1
        · have hq' := hno.mp hq
          have e1 : cueV S (m - 2) kd wh v = -1 := by unfold cueV; rw [if_pos hq']
          have e2 : cueS S (m - 2) kd wh v = S := by unfold cueS; rw [if_pos hq']
          rw [e1, e2] at kc
          rw [if_neg (by rw [hq]; decide)]
          exact neg _ (by decide) kc
        · have hq' : ¬ (kd = 0 ∧ ¬ v < S (128 + 4 * wh + 3)) := fun q => hq (hno.mpr q)
          rw [if_pos (by rw [show no = 0 by omega]; rfl), l0, L4, ck_inb _ (by omega) (by omega), nI_clamp (by omega), gA_mL0, h.1 4 (by omega)]
          by_cases hn : S 4 ≤ m - 2
          · rw [if_pos (by rw [nI_leI (by omega) (by omega)]; exact hn), L5, ck_inb _ (by omega) (by omega), nI_clamp (by omega), gA_mL0, h.1 5 (by omega)]
            by_cases h24 : S 5 < 24
            · have e1 : cueV S (m - 2) kd wh v = nI (rkS S (m - 2) (S 5)) := by unfold cueV; rw [if_neg hq', if_neg (fun q => q hn), if_neg (fun q => q h24)]
              have e2 : cueS S (m - 2) kd wh v = insS S (rkS S (m - 2) (S 5)) (m - 2) kd wh v := by unfold cueS; rw [if_neg hq', if_neg (fun q => q hn), if_neg (fun q => q h24)]
              have hrn := rkS_le S (m - 2) (S 5)
              obtain ⟨T', g1, g2, g3, g4, g5, g6, g7, g8⟩ := g_insert (fl := fl) (len := len) (X := X) (I := I) hfl hL h.2.2.2.2.2.2.2.2 (nn' := S 5) (r := rkS S (m - 2) (S 5)) (s := m - 2) (v := kd + 4 * wh + 16 * v) (h.1 5 (by omega)) h24 hrn (by omega) (by omega)
              have kc' := k_cue (fl := fl) (len := len) hfl hG (hc.mL ha (T' := T')) (t := m - 2) ht hkd hwh h1 h2 (by omega)
              rw [e1, e2] at kc'
              obtain ⟨I1, X1, r8, fo, hcl⟩ := kc'
              refine ⟨I1, X1, _, K, ?_, Both.of ha fo hcl (h.ins hv h24 hrn g1 g2 g3 g4 g5 g6 g7), (mL_fa ha).trans fo.fa, by rw [ins_4 hrn h24]; omega⟩
              rw [if_neg (by rw [L24, nI_eq (by omega) (by omega)]; omega), g_rank hfl hL (h.1 5 (by omega)) (fun c hcc => (h.2.1 c hcc).1) hv (by omega), nn_s, m9_isCue_182, if_neg (nI_nneg (by omega)), L4, nI_mul, L16, nI_mul, nI_add, nI_add, g8, nn_s, m9_isCue_212, r8, nn_s]
              simp only
              rw [if_pos trivial, m9_isCue_234, ck_isbl1]
            · have e1 : cueV S (m - 2) kd wh v = -4 := by unfold cueV; rw [if_neg hq', if_neg (fun q => q hn), if_pos h24]
              have e2 : cueS S (m - 2) kd wh v = S := by unfold cueS; rw [if_neg hq', if_neg (fun q => q hn), if_pos h24]
              rw [e1, e2] at kc
              rw [if_pos (by rw [L24, nI_eq (by omega) (by omega)]; omega)]
              exact neg _ (by decide) kc
          · have e1 : cueV S (m - 2) kd wh v = -5 := by unfold cueV; rw [if_neg hq', if_pos hn]
            have e2 : cueS S (m - 2) kd wh v = S := by unfold cueS; rw [if_neg hq', if_pos hn]
            rw [e1, e2] at kc
            rw [if_neg (by rw [nI_leI (by omega) (by omega)]; exact hn)]
            exact neg _ (by decide) kc
      · rw [if_neg (by rw [L999, nI_leI (by omega) (by omega)]; exact ht), m9_isCue_135]
        rw [ez] at neg
        exact neg _ (by decide) (k_cueB hfl hG hc (fun q => by have := q.2; rw [nI_leI (by omega) (by omega)] at this; exact ht this))
  have e4 : (4 : Int32) * nI wh + (3 : Int32) = nI (4 * wh + 3) := by rw [L4, L3, nI_mul, nI_add]
  rw [m9_isCue_94]
  by_cases hk0 : kd = 0
  · rw [if_pos (by rw [hk0]; rfl), e4, l3, ck_inb _ (by omega) (by omega), nI_clamp (by omega), gA_mL (by omega), f3]
    by_cases hlt : v < S (128 + 4 * wh + 3)
    · rw [if_pos (by rw [nI_ltI (by omega) (by omega)]; exact hlt), m9_isCue_119]
      exact all 0 (by omega) ⟨fun q => by omega, fun q => absurd hlt q.2⟩
    · rw [if_neg (by rw [nI_ltI (by omega) (by omega)]; exact hlt)]
      exact all 1 (by omega) ⟨fun _ => ⟨hk0, hlt⟩, fun _ => rfl⟩
  · rw [if_neg (by rw [L0, nI_eq (by omega) (by omega)]; exact hk0), m9_isCue_119]
    exact all 0 (by omega) ⟨fun q => by omega, fun q => absurd q.1 hk0⟩
/-- a cue goes out, or is moved -/
theorem g_cueOut (hfl : 10000 ≤ fl) (hG : LG len b) (ha : a = b + 799) (hL : LL len a) (hc : Cl (mL I a T) X b S K) (h : LT T S) {z : Int32} {m c way : Nat} (hz : z.toInt = (m : Int) - 2) (hm : m < 10000) (hw : way < 20) (hcc : c < S 5 ∨ (S 5 = 0 ∧ c = 0)) : Ev (m9_isCue_251 fl len (mL I a T) X b a (a + 1) (a + 2) (nI way) z (nI c)) (mL I a T) b S := by
  have hv := hc.iv
  have h5 := hv.m6.1
  have h4 := hv.2.1.1
  have hB := h.2.2.2.2.2.2.2.2
  obtain ⟨l0, l1, l2, l3, l4, l5, l6, l7, l8⟩ := id hL
  have f5 := h.1 5 (by omega)
  have f4 := h.1 4 (by omega)
  -- ends
  have e325 : ∀ (J : Im) (Y : Xm) (x : Int32), m9_isCue_325 fl len J Y x x = some (1, J, Y) := fun J Y x => by rw [m9_isCue_325, if_pos rfl, m9_isCue_333, ck_isbl1]
  have mneg : ∀ v' : Int32, ¬ v' = 0 → Did (m8_move fl len X (mL I a T) b (nI c) z) (mL I a T) b S K v' → Ev (m9_isCue_381 fl len (mL I a T) X b a (a + 1) (a + 2) z (nI c) v') (mL I a T) b S := by
    intro v' hn hd
    obtain ⟨I1, X1, r8, fo, hcl⟩ := hd
    refine ⟨I1, X1, S, K, ?_, Both.of ha fo hcl h, fo.fa, by omega⟩
    rw [m9_isCue_381, if_neg hn, m9_isCue_423, r8, nn_s]
    simp only
    rw [if_pos trivial, m9_isCue_441, ck_isbl1]
  by_cases h0 : S 5 = 0
  · have hc0 : c = 0 := by omega
    rw [m9_isCue_251, l0, L5, ck_inb _ (by omega) (by omega), nI_clamp (by omega), gA_mL0, f5, if_pos (by rw [h0]; decide), m9_isCue_273, m9_isCue_274]
    by_cases w14 : 14 ≤ way
    · rw [if_pos (by rw [L14, nI_leI (by omega) (by omega)]; exact w14), l0, L5, ck_inb _ (by omega) (by omega), nI_clamp (by omega), gA_mL0, f5, if_pos (by rw [h0]; rfl)]
      rw [hc0] at mneg ⊢
      exact mneg _ (by decide) (k_move0 hfl hG hc h0)
    · obtain ⟨I1, X1, r8, fo, hcl⟩ := k_take0 (fl := fl) (len := len) hfl hG hc h0
      have f51 : gA I1 a 5 = nI (S 5) := by rw [(fo a (by omega)).2, gA_mL0, f5]
      refine ⟨I1, X1, S, K, ?_, Both.of ha fo hcl h, fo.fa, by omega⟩
      rw [if_neg (by rw [L14, nI_leI (by omega) (by omega)]; exact w14), if_pos rfl, hc0, m9_isCue_296, r8, nn_s]
      simp only
      rw [if_pos trivial, l0, L5, ck_inb _ (by omega) (by omega), nI_clamp (by omega), f51, if_pos (by rw [h0]; rfl)]
      exact e325 _ _ _
  · have hcl : c < S 5 := by omega
    obtain ⟨e1, e2⟩ := h.2.1 c hcl
    obtain ⟨⟨v1, v2, v3, v4⟩, ⟨b1, b2, b3, b4⟩, b5⟩ := cv_ok hv hcl
    have hst := (hv.2.2.1.1 c hcl).2.2.2.1
    have start : m9_isCue_251 fl len (mL I a T) X b a (a + 1) (a + 2) (nI way) z (nI c) = m9_isCue_274 fl len (mL I a T) X b a (a + 1) (a + 2) (nI way) z (nI c) (nI (if S (8 + 5 * c + 4) = 0 then 1 else 0)) := by
      rw [m9_isCue_251, l0, L5, ck_inb _ (by omega) (by omega), nI_clamp (by omega), gA_mL0, f5, if_neg (by rw [L0, nI_leI (by omega) (by omega)]; omega), l2, ck_inb _ (by omega) (by omega), nI_clamp (by omega), gA_mL (by omega), e2]
      by_cases q : S (8 + 5 * c + 4) = 0
      · rw [if_neg (by rw [L2048, nI_leI (by omega) (by omega)]; omega), if_pos q]
        rfl
      · rw [if_pos (by rw [L2048, nI_leI (by omega) (by omega)]; omega), if_neg q, m9_isCue_273]
        rfl
    rw [start, m9_isCue_274]
    by_cases w14 : 14 ≤ way
    · rw [if_pos (by rw [L14, nI_leI (by omega) (by omega)]; exact w14), l0, L5, ck_inb _ (by omega) (by omega), nI_clamp (by omega), gA_mL0, f5, if_neg (by rw [L0, nI_eq (by omega) (by omega)]; exact h0)]
      rcases small z m hz hm with ⟨hlt, -⟩ | ⟨hm2, ez⟩
      · rw [if_pos hlt, m9_isCue_357]
        exact mneg _ (by decide) (k_moveB hfl hG hc hcl (neg_no hlt))
      · rw [ez] at mneg ⊢
        rw [if_neg (nI_nneg (by omega))]
        by_cases ht : m - 2 ≤ 999
        · obtain ⟨km, kn⟩ := k_move (fl := fl) (len := len) hfl hG hc hcl ht
          rw [if_pos (by rw [L999, nI_leI (by omega) (by omega)]; exact ht)]
          by_cases q : S (8 + 5 * c + 4) = 0
          · rw [if_pos q, if_neg (by decide), L4, ck_inb _ (by omega) (by omega), nI_clamp (by omega), gA_mL0, f4]
            by_cases hn : S 4 ≤ m - 2
            · rw [if_pos (by rw [nI_leI (by omega) (by omega)]; exact hn)]
              have hK := hst.mp q
              obtain ⟨Ta, t1, t2, t3, t4, t5, t6⟩ := g_take (fl := fl) (len := len) (X := X) (I := I) hfl hL hB (nn' := S 5) (c := c) f5 h5 hcl
              have hT1 := h.cl hv hcl t1 t2 t3 t4 t5
              have iv1 := hv.cl hcl hK
              have c5 : clS S c 5 = S 5 - 1 := cl_5
              have hrn := rkS_le (clS S c) (m - 2) (S 5 - 1)
              obtain ⟨Tb, g1, g2, g3, g4, g5, g6, g7, g8⟩ := g_insert (fl := fl) (len := len) (X := X) (I := I) hfl hL t5 (nn' := S 5 - 1) (r := mvV S c (m - 2)) (s := m - 2) (v := cv S c) t2 (by omega) (by unfold mvV; exact hrn) (by omega) (by omega)
              obtain ⟨I1, X1, r8, fo, hcl1⟩ := (k_move (fl := fl) (len := len) hfl hG (hc.mL ha (T' := Tb)) hcl ht).1 ⟨q, hn⟩
              have hT2 : LT Tb (mvS S c (m - 2)) := by
                unfold mvS
                refine hT1.ins iv1 (by omega) (by rw [c5]; unfold mvV; exact hrn) g1 (by rw [g2, c5]) g3 g4 (by rw [g5]; unfold cv; rw [q]; omega) (fun i j hi q1 q2 => g6 i j hi q1 (by rw [c5] at q2; exact q2)) g7
              refine ⟨I1, X1, _, K, ?_, Both.of ha fo hcl1 hT2, (mL_fa ha).trans fo.fa, ?_⟩
              · rw [m9_isCue_381, if_pos rfl, l2, ck_inb _ (by omega) (by omega), nI_clamp (by omega), gA_mL (by omega), e2, lt_e, t6, nn_s, g_rank hfl hL (S := clS S c) (by rw [t2, c5]) (fun c' hc' => (hT1.2.1 c' hc').1) iv1 (by omega), nn_s, c5, show rkS (clS S c) (m - 2) (S 5 - 1) = mvV S c (m - 2) from rfl, g8, nn_s, m9_isCue_423, r8, nn_s]
                simp only
                rw [if_pos trivial, m9_isCue_441, ck_isbl1]
              · unfold mvS
                rw [ins_4 (by rw [c5]; unfold mvV; exact hrn) (by omega), cl_far h5 (by omega) (by omega)]
                omega
            · rw [if_neg (by rw [nI_leI (by omega) (by omega)]; exact hn), m9_isCue_375]
              exact mneg _ (by decide) (kn (fun w => hn w.2))
          · rw [if_neg q, if_pos (by rfl), m9_isCue_375]
            exact mneg _ (by decide) (kn (fun w => q w.1))
        · rw [if_neg (by rw [L999, nI_leI (by omega) (by omega)]; exact ht), m9_isCue_357]
          exact mneg _ (by decide) (k_moveB hfl hG hc hcl (fun w => by have := w.2; rw [nI_leI (by omega) (by omega)] at this; exact ht this))
    · rw [if_neg (by rw [L14, nI_leI (by omega) (by omega)]; exact w14)]
      by_cases q : S (8 + 5 * c + 4) = 0
      · have hK := hst.mp q
        obtain ⟨Ta, t1, t2, t3, t4, t5, t6⟩ := g_take (fl := fl) (len := len) (X := X) (I := I) hfl hL hB (nn' := S 5) (c := c) f5 h5 hcl
        have hT1 := h.cl hv hcl t1 t2 t3 t4 t5
        obtain ⟨I1, X1, r8, fo, hcl1⟩ := (k_take (fl := fl) (len := len) hfl hG (hc.mL ha (T' := Ta)) hcl).1 q
        have f51 : gA I1 a 5 = nI (S 5 - 1) := by rw [(fo a (by omega)).2, gA_mL0, t2]
        refine ⟨I1, X1, _, K, ?_, Both.of ha fo hcl1 hT1, (mL_fa ha).trans fo.fa, by rw [cl_far h5 (by omega) (by omega)]; omega⟩
        rw [if_pos q, if_neg (by decide), t6, nn_s, m9_isCue_296, r8, nn_s]
        simp only
        rw [if_neg (by decide), l0, L5, ck_inb _ (by omega) (by omega), nI_clamp (by omega), f51]
        exact e325 _ _ _
      · obtain ⟨I1, X1, r8, fo, hcl1⟩ := (k_take (fl := fl) (len := len) hfl hG hc hcl).2 q
        have f51 : gA I1 a 5 = nI (S 5) := by rw [(fo a (by omega)).2, gA_mL0, f5]
        refine ⟨I1, X1, S, K, ?_, Both.of ha fo hcl1 h, fo.fa, by omega⟩
        rw [if_neg q, if_pos (by rfl), m9_isCue_296, r8, nn_s]
        simp only
        rw [if_pos (by rfl), l0, L5, ck_inb _ (by omega) (by omega), nI_clamp (by omega), f51, if_neg (by rw [L0, nI_eq (by omega) (by omega)]; exact h0)]
        exact e325 _ _ _
theorem g_isCue (hfl : 10000 ≤ fl) (hG : LG len b) (ha : a = b + 799) (hL : LL len a) (hc : Cl (mL I a T) X b S K) (h : LT T S) {way y : Nat} (hw : way < 16) (hy : y < 2 ^ 31) : Ev (m9_isCue fl len X (mL I a T) b a (a + 1) (a + 2) (a + 3) (nI way) (nI y)) (mL I a T) b S := by
  have hv := hc.iv
  have h5 := hv.m6.1
  have h4 := hv.2.1.1
  obtain ⟨l0, l1, l2, l3, l4, l5, l6, l7, l8⟩ := id hL
  have f5 := h.1 5 (by omega)
  have f4 := h.1 4 (by omega)
  obtain ⟨z, ez⟩ : ∃ z : Int32, z = nI (S 4) + nI (y % 30) - nI 2 := ⟨_, rfl⟩
  have hz : z.toInt = ((S 4 + y % 30 : Nat) : Int) - 2 := by
    rw [ez, nI_add, Int32.toInt_sub, nI_toInt (by omega), nI_toInt (by omega), Int.bmod_def]
    omega
  rw [m9_isCue, l0, ck_t (c := inb (4 : Int32) 8 = true) _ (by decide), show (4 : Int32).toNatClampNeg = 4 from rfl, gA_mL0, f4, L30, nI_mod (by omega) (by omega), L2, ← ez, lt_e, nI_div (by omega) (by omega), L4, nI_mod (by omega) (by omega), lt_e, show (120 : Int32) = nI 120 from rfl, nI_div (by omega) (by omega), lt_e]
  by_cases w12 : 12 ≤ way
  · rw [if_pos (by rw [L12, nI_leI (by omega) (by omega)]; exact w12), L5, ck_inb _ (by omega) (by omega), nI_clamp (by omega), gA_mL0, f5]
    by_cases q : S 5 = 0
    · rw [if_pos (by rw [q]; rfl)]
      exact g_cueOut hfl hG ha hL hc h (c := 0) hz (by omega) (by omega) (Or.inr ⟨q, rfl⟩)
    · rw [if_neg (by rw [L0, nI_eq (by omega) (by omega)]; exact q), ck_t _ (by rw [L0, nI_eq (by omega) (by omega)]; exact q), nI_mod (by omega) (by omega)]
      exact g_cueOut hfl hG ha hL hc h hz (by omega) (by omega) (Or.inl (Nat.mod_lt _ (by omega)))
  · rw [if_neg (by rw [L12, nI_leI (by omega) (by omega)]; exact w12)]
    by_cases w7 : 7 ≤ way
    · rw [if_pos (by rw [L7, nI_leI (by omega) (by omega)]; exact w7)]
      by_cases w10 : 10 ≤ way
      · rw [if_pos (by rw [L10, nI_leI (by omega) (by omega)]; exact w10), m9_isCue_59, if_neg (by decide), if_neg (by decide), L101, nI_mod (by omega) (by omega)]
        exact g_cueIn hfl hG ha hL hc h (kd := 2) hz (by omega) (by omega) (by omega) (fun q => by omega) (fun _ => by omega) (by omega)
      · rw [if_neg (by rw [L10, nI_leI (by omega) (by omega)]; exact w10), m9_isCue_59, if_neg (by decide), if_pos rfl, L99, nI_mod (by omega) (by omega), L1, nI_add]
        exact g_cueIn hfl hG ha hL hc h (kd := 1) hz (by omega) (by omega) (by omega) (fun _ => ⟨by omega, by omega⟩) (fun q => by omega) (by omega)
    · rw [if_neg (by rw [L7, nI_leI (by omega) (by omega)]; exact w7), m9_isCue_59, if_pos rfl, L3, nI_mod (by omega) (by omega)]
      exact g_cueIn hfl hG ha hL hc h (kd := 0) hz (by omega) (by omega) (by omega) (fun q => by omega) (fun q => by omega) (by omega)
end CM
