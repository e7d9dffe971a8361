/-! ===== the law's questions: reels, channels, sounds ===== -/
section CO
variable {fl : Nat} {len : Nat → Nat} {X X1 : Xm} {I I1 I2 : Im} {a b : Nat} {S S' : Nat → Nat} {K K' : Nat} {T T' : Nat → Nat → Nat}
theorem i32_or0 (x : Int32) : x ||| 0 = x := by simp
theorem g_areReels (hfl : 10000 ≤ fl) (hG : LG len b) (ha : a = b + 799) (hL : LL len a) (hc : Cl (mL I a T) X b S K) (h : LT T S) : m9_areReels fl len X (mL I a T) b a (a + 2) (a + 3) (a + 4) (a + 5) (a + 6) (a + 7) = some 1 := by
  have hv := hc.iv
  have h5 := hv.m6.1
  have h67 := h67_le hv
  obtain ⟨l0, l1, l2, l3, l4, l5, l6, l7, l8⟩ := id hL
  have f6 := h.1 6 (by omega)
  have f7 := h.1 7 (by omega)
  have hcl : ∀ {r : Nat}, cntD S r (S 6) ≤ S 6 := fun {r} => by
    have : ∀ n, cntD S r n ≤ n := fun n => by
      induction n with
      | zero => exact Nat.le_refl _
      | succ n ih =>
        show cntD S r n + _ ≤ _
        split <;> omega
    exact this _
  -- what was played
  have played : ∀ (j k n : Nat), k + j = S 7 → j < n → m9_areReels_427 fl len X (mL I a T) n b a (a + 4) (a + 7) (pbS S 4) (1 : Int32) (nI k) = some 1 := by
    intro j
    induction j with
    | zero =>
      intro k n hj hn
      obtain ⟨n, rfl⟩ : ∃ n', n = n' + 1 := ⟨n - 1, by omega⟩
      obtain ⟨-, -, -, -, -, -, -, -, k8, -⟩ := a_count (fl := fl) (len := len) hfl hG hc
      show m9_areReels_427b fl len X (mL I a T) (m9_areReels_427 fl len X (mL I a T) n) _ _ _ _ _ _ _ = _
      rw [m9_areReels_427b, l0, L7, ck_inb _ (by omega) (by omega), nI_clamp (by omega), gA_mL0, f7, if_pos (by rw [nI_leI (by omega) (by omega)]; omega), m9_areReels_512, if_neg (by decide), k8, nn_s, if_pos rfl, m9_areReels_533, ck_isbl1]
    | succ j ih =>
      intro k n hj hn
      obtain ⟨n, rfl⟩ : ∃ n', n = n' + 1 := ⟨n - 1, by omega⟩
      have hk : k < S 7 := by omega
      obtain ⟨r, s, hr, hs, e⟩ := hv.2.2.2.2.2.2.2.1.2 k hk
      have hm6 := hv.m6.2 r hr
      obtain ⟨p0, p1, p2⟩ := a_played (fl := fl) (len := len) hG hc hk hr hs e
      have t7 := h.2.2.2.2.2.2.1 k hk
      rw [e] at t7
      have t4 := h.2.2.2.1 r hr s hs
      obtain ⟨⟨u1, u2, u3⟩, ⟨w1, w2, w3⟩, w4⟩ := uv_ok hv hr hs
      show m9_areReels_427b fl len X (mL I a T) (m9_areReels_427 fl len X (mL I a T) n) _ _ _ _ _ _ _ = _
      rw [m9_areReels_427b, l0, L7, ck_inb _ (by omega) (by omega), nI_clamp (by omega), gA_mL0, f7, if_neg (by rw [nI_leI (by omega) (by omega)]; omega), if_neg (by decide), p0, nn_s, l7, ck_inb _ (by omega) (by omega), nI_clamp (by omega), gA_mL (by omega), t7, L6, nI_mod (by omega) (by omega), nI_div (by omega) (by omega), if_pos (by rw [show (6 * r + s) / 6 = r by omega]), p1, nn_s, if_pos (by rw [show (6 * r + s) % 6 = s by omega]), p2, nn_s, l4, ck_inb _ (by omega) (by omega), nI_clamp (by omega), gA_mL (by omega), t4, L8192, nI_div (by omega) (by omega), u3, if_pos rfl, m9_areReels_504, L1, nI_add, lt_e]
      exact ih (k + 1) n (by omega) (by omega)
  -- the sounds of a reel
  have sounds : ∀ (zr : Nat → Nat → Nat → Nat → Nat → Nat → Nat → Nat → Int32 → Int32 → Int32 → Option Int32) (mask : Int32) (r : Nat), r < 4 → ∀ (j k n : Nat), k + j = S (128 + 4 * r + 3) → j < n → m9_areReels_303 fl len X (mL I a T) zr n b a (a + 2) (a + 3) (a + 4) (a + 5) (a + 6) (a + 7) mask (1 : Int32) (nI r) (nI (S (128 + 4 * r + 3))) (nI k) = zr b a (a + 2) (a + 3) (a + 4) (a + 5) (a + 6) (a + 7) mask (1 : Int32) (nI (r + 1)) := by
    intro zr mask r hr j
    have hm6 := hv.m6.2 r hr
    induction j with
    | zero =>
      intro k n hj hn
      obtain ⟨n, rfl⟩ : ∃ n', n = n' + 1 := ⟨n - 1, by omega⟩
      show m9_areReels_303b fl len X (mL I a T) zr (m9_areReels_303 fl len X (mL I a T) zr n) _ _ _ _ _ _ _ _ _ _ _ _ _ = _
      rw [m9_areReels_303b, if_pos (by rw [nI_leI (by omega) (by omega)]; omega), m9_areReels_418, nI_k1, lt_e]
    | succ j ih =>
      intro k n hj hn
      obtain ⟨n, rfl⟩ : ∃ n', n = n' + 1 := ⟨n - 1, by omega⟩
      have hk : k < S (128 + 4 * r + 3) := by omega
      obtain ⟨s0, s1, s2, s3⟩ := a_ofSound (fl := fl) (len := len) hG hc hr hk
      have t4 := h.2.2.2.1 r hr k hk
      obtain ⟨⟨u1, u2, u3⟩, ⟨w1, w2, w3⟩, w4⟩ := uv_ok hv hr hk
      have e6 : (6 : Int32) * nI r + nI k = nI (6 * r + k) := by rw [L6, nI_mul, nI_add]
      show m9_areReels_303b fl len X (mL I a T) zr (m9_areReels_303 fl len X (mL I a T) zr n) _ _ _ _ _ _ _ _ _ _ _ _ _ = _
      rw [m9_areReels_303b, if_neg (by rw [nI_leI (by omega) (by omega)]; omega), if_neg (by decide), e6, l4, ck_inb _ (by omega) (by omega), nI_clamp (by omega), gA_mL (by omega), t4, lt_e, s0, nn_s, L64, nI_mod (by omega) (by omega), u1, if_pos rfl, s1, nn_s, nI_div (by omega) (by omega), L128, nI_mod (by omega) (by omega), u2, if_pos rfl, s2, nn_s, g_begins hfl l4 hr (by omega) (h.2.2.2.1.begins hv hr (by omega)), nn_s, if_pos rfl, s3, nn_s, L8192, nI_div (by omega) (by omega), u3, if_pos rfl, m9_areReels_410, nI_k1, lt_e]
      exact ih (k + 1) n (by omega) (by omega)
  -- the doors of a channel
  have doors : ∀ (zr : Nat → Nat → Nat → Nat → Nat → Nat → Nat → Nat → Int32 → Int32 → Int32 → Option Int32) (mask many : Int32) (r : Nat), r < 4 → ∀ (j d n : Nat), d + j = S 6 → j < n → m9_areReels_53 fl len X (mL I a T) zr n b a (a + 2) (a + 3) (a + 4) (a + 5) (a + 6) (a + 7) mask (nI r) many (nI (cntD S r d)) (nI d) = m9_areReels_111 fl len X (mL I a T) zr b a (a + 2) (a + 3) (a + 4) (a + 5) (a + 6) (a + 7) (nI r) many (nI (cntD S r (S 6))) mask (if S (128 + 4 * r + 1) = 0 then 0 else (1 : Int32) <<< (nI r &&& 31)) := by
    intro zr mask many r hr j
    have f1 := h.2.2.1 (4 * r + 1) (by omega)
    rw [show 128 + (4 * r + 1) = 128 + 4 * r + 1 by omega] at f1
    have hp6 := hv.2.2.2.1 r hr
    induction j with
    | zero =>
      intro d n hj hn
      obtain ⟨n, rfl⟩ : ∃ n', n = n' + 1 := ⟨n - 1, by omega⟩
      have e4' : (4 : Int32) * nI r + (1 : Int32) = nI (4 * r + 1) := by rw [L4, L1, nI_mul, nI_add]
      show m9_areReels_53b fl len X (mL I a T) zr (m9_areReels_53 fl len X (mL I a T) zr n) _ _ _ _ _ _ _ _ _ _ _ _ _ = _
      rw [m9_areReels_53b, l0, L6, ck_inb _ (by omega) (by omega), nI_clamp (by omega), gA_mL0, f6, if_pos (by rw [nI_leI (by omega) (by omega)]; omega), e4', l3, ck_inb _ (by omega) (by omega), nI_clamp (by omega), gA_mL (by omega), f1, show d = S 6 by omega]
      by_cases q : S (128 + 4 * r + 1) = 0
      · rw [if_pos (by rw [q]; decide), if_pos q]
      · rw [if_neg (by rw [L0, nI_leI (by omega) (by omega)]; omega), if_neg q]
    | succ j ih =>
      intro d n hj hn
      obtain ⟨n, rfl⟩ : ∃ n', n = n' + 1 := ⟨n - 1, by omega⟩
      have hd : d < S 6 := by omega
      have t6 := h.2.2.2.2.2.1 d hd
      obtain ⟨⟨v1, v2, v3⟩, ⟨b1, b2, b3, b4⟩, b5⟩ := wv_ok hv hd
      have ih := ih (d + 1) n (by omega) (by omega)
      have ec : cntD S r (d + 1) = cntD S r d + (if S (224 + 3 * d) = r then 1 else 0) := rfl
      rw [ec] at ih
      show m9_areReels_53b fl len X (mL I a T) zr (m9_areReels_53 fl len X (mL I a T) zr n) _ _ _ _ _ _ _ _ _ _ _ _ _ = _
      rw [m9_areReels_53b, l0, L6, ck_inb _ (by omega) (by omega), nI_clamp (by omega), gA_mL0, f6, if_neg (by rw [nI_leI (by omega) (by omega)]; omega), l6, ck_inb _ (by omega) (by omega), nI_clamp (by omega), gA_mL (by omega), t6, L4, nI_mod (by omega) (by omega), v1]
      by_cases q : S (224 + 3 * d) = r
      · rw [if_pos q] at ih
        rw [if_pos (by rw [q]), m9_areReels_81, nI_k1, lt_e, nI_k1, lt_e]
        exact ih
      · rw [if_neg q] at ih
        rw [if_neg (by rw [nI_eq (by omega) (by omega)]; exact q), m9_areReels_81, L0, nI_add, lt_e, nI_k1, lt_e]
        exact ih
  -- reel by reel
  have reels : ∀ (j r n : Nat), r + j = 4 → j < n → m9_areReels_26 fl len X (mL I a T) n b a (a + 2) (a + 3) (a + 4) (a + 5) (a + 6) (a + 7) (pbS S r) (1 : Int32) (nI r) = some 1 := by
    intro j
    induction j with
    | zero =>
      intro r n hj hn
      obtain ⟨n, rfl⟩ : ∃ n', n = n' + 1 := ⟨n - 1, by omega⟩
      have hr : r = 4 := by omega
      show m9_areReels_26b fl len X (mL I a T) (m9_areReels_26 fl len X (mL I a T) n) _ _ _ _ _ _ _ _ _ _ _ = _
      rw [m9_areReels_26b, if_pos (by rw [L4, nI_leI (by omega) (by omega)]; omega), m9_areReels_424, hr, L0]
      exact played (S 7) 0 fl (by omega) (by omega)
    | succ j ih =>
      intro r n hj hn
      obtain ⟨n, rfl⟩ : ∃ n', n = n' + 1 := ⟨n - 1, by omega⟩
      have hr : r < 4 := by omega
      have ih := ih (r + 1) n (by omega) (by omega)
      have hm6 := hv.m6.2 r hr
      have iR := hv.2.2.2.1 r hr
      have iH := hv.2.2.2.2.2.1 r hr
      obtain ⟨o0, o1, o2, o3, o4, o5⟩ := a_ofReel (fl := fl) (len := len) hfl hG hc hr
      obtain ⟨c0, c1, c2⟩ := a_ofChannel (fl := fl) (len := len) hfl hG hc hr
      have g0 := h.2.2.1 (4 * r) (by omega)
      have g1 := h.2.2.1 (4 * r + 1) (by omega)
      have g2 := h.2.2.1 (4 * r + 2) (by omega)
      have g3 := h.2.2.1 (4 * r + 3) (by omega)
      rw [show 128 + (4 * r + 1) = 128 + 4 * r + 1 by omega] at g1
      rw [show 128 + (4 * r + 2) = 128 + 4 * r + 2 by omega] at g2
      rw [show 128 + (4 * r + 3) = 128 + 4 * r + 3 by omega] at g3
      have h0 := h.2.2.2.2.1 (2 * r) (by omega)
      have h1 := h.2.2.2.2.1 (2 * r + 1) (by omega)
      rw [show 216 + (2 * r + 1) = 216 + 2 * r + 1 by omega] at h1
      have e4' : (4 : Int32) * nI r + (1 : Int32) = nI (4 * r + 1) := by rw [L4, L1, nI_mul, nI_add]
      have e42 : (4 : Int32) * nI r + (2 : Int32) = nI (4 * r + 2) := by rw [L4, L2, nI_mul, nI_add]
      have e43 : (4 : Int32) * nI r + (3 : Int32) = nI (4 * r + 3) := by rw [L4, L3, nI_mul, nI_add]
      have e40 : (4 : Int32) * nI r = nI (4 * r) := by rw [L4, nI_mul]
      have e20 : (2 : Int32) * nI r = nI (2 * r) := by rw [L2, nI_mul]
      have e21 : nI (2 * r) + (1 : Int32) = nI (2 * r + 1) := nI_k1 _
      -- the rest of a reel, its mask given
      have rest : ∀ x : Int32, pbS S (r + 1) = (pbS S r ||| x) → m9_areReels_111 fl len X (mL I a T) (m9_areReels_26 fl len X (mL I a T) n) b a (a + 2) (a + 3) (a + 4) (a + 5) (a + 6) (a + 7) (nI r) (nI (S (128 + 4 * r + 3))) (nI (cntD S r (S 6))) (pbS S r) x = some 1 := by
        intro x hx
        have tail : m9_areReels_163 fl len X (mL I a T) (m9_areReels_26 fl len X (mL I a T) n) b a (a + 2) (a + 3) (a + 4) (a + 5) (a + 6) (a + 7) (pbS S (r + 1)) (nI r) (nI (S (128 + 4 * r + 3))) (nI (cntD S r (S 6))) (plI (S (128 + 4 * r + 1))) (plI (S (128 + 4 * r + 1))) = some 1 := by
          rw [m9_areReels_163, if_pos rfl, o2, nn_s, e42, l3, ck_inb _ (by omega) (by omega), nI_clamp (by omega), gA_mL (by omega), g2, if_pos rfl, o3, nn_s, if_pos rfl, o4, nn_s, g_begins hfl l4 hr hm6 (h.2.2.2.1.begins hv hr (Nat.le_refl _)), nn_s, if_pos rfl, o5, nn_s, g_next hfl hL (h.1 5 (by omega)) h.2.1 hv hr, nn_s, if_pos rfl, c0, nn_s, e20, e21, l5, ck_inb _ (by omega) (by omega), nI_clamp (by omega), gA_mL (by omega), h0, if_pos rfl, c1, nn_s, ck_inb _ (by omega) (by omega), nI_clamp (by omega), gA_mL (by omega), h1, if_pos rfl, c2, nn_s, if_pos rfl, a_ofSound0 hG hc hr (bad_at (by omega)), nn_s, if_pos rfl, m9_areReels_298, L0, sounds _ _ r hr (S (128 + 4 * r + 3)) 0 fl (by omega) (by omega)]
          exact ih
        rw [m9_areReels_111, lt_e, ← hx, o0, nn_s, e4', e40, l3, ck_inb _ (by omega) (by omega), nI_clamp (by omega), gA_mL (by omega), g0, if_pos rfl, o1, nn_s, ck_inb _ (by omega) (by omega), nI_clamp (by omega), gA_mL (by omega), g1]
        by_cases q : S (128 + 4 * r + 1) = 0
        · rw [if_pos (by rw [q]; decide)]
          have e : plI (S (128 + 4 * r + 1)) = -6 := by rw [q]; rfl
          rw [e] at tail ⊢
          exact tail
        · rw [if_neg (by rw [L0, nI_leI (by omega) (by omega)]; omega), L1, nI_sub (by omega)]
          have e : plI (S (128 + 4 * r + 1)) = nI (S (128 + 4 * r + 1) - 1) := plI_n q
          rw [e] at tail ⊢
          exact tail
      show m9_areReels_26b fl len X (mL I a T) (m9_areReels_26 fl len X (mL I a T) n) _ _ _ _ _ _ _ _ _ _ _ = _
      rw [m9_areReels_26b, if_neg (by rw [L4, nI_leI (by omega) (by omega)]; omega), if_neg (by decide), e43, l3, ck_inb _ (by omega) (by omega), nI_clamp (by omega), gA_mL (by omega), g3, lt_e, L0]
      have dd := doors (m9_areReels_26 fl len X (mL I a T) n) (pbS S r) (nI (S (128 + 4 * r + 3))) r hr (S 6) 0 fl (by omega) (by omega)
      rw [show cntD S r 0 = 0 from rfl] at dd
      rw [dd]
      by_cases q : S (128 + 4 * r + 1) = 0
      · rw [if_pos q]
        refine rest 0 ?_
        rw [i32_or0]
        unfold pbS
        rw [if_pos q]
        cases r with
        | zero => rfl
        | succ r => rfl
      · rw [if_neg q]
        refine rest _ ?_
        show (if S (128 + 4 * r + 1) = 0 then pbS S r else pbS S r ||| ((1 : Int32) <<< (nI r &&& 31))) = _
        rw [if_neg q]
  rw [m9_areReels, l0, L7, ck_inb _ (by omega) (by omega), nI_clamp (by omega), gA_mL0, f7, a_played0 hG hc (bad_at (by omega)), nn_s, if_pos rfl, m9_areReels_21]
  exact reels 4 0 fl (by omega) (by omega)
end CO
