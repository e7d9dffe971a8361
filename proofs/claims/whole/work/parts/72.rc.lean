/-! ===== the calls that ask ===== -/
section RC
variable {fl : Nat} {len : Nat → Nat} {X : Xm} {I : Im} {b : Nat}
theorem Rel.use (h : Rel b I X) (hL : LG len b) : ∃ p S K w, gR X 128 b = some p ∧ XS X p ∧ LN len p ∧ XC X p w ∧ Iv S K ∧ Cs I p S K w ∧ (∀ j, gA I (b + 799 + 1) j = nI (S j)) ∧ gR X 144 (b + 799) = some (b + 799 + 1) ∧ len (b + 799 + 1) = 1620 := by
  obtain ⟨sg, W, S, K, n, Hs, Hk, sv, Ss, Sk, t, tx, hX, hC, -⟩ := h
  have ha := hX.2.2.2.1 0 (by omega)
  obtain ⟨x1, x2⟩ := hX.2.2.2.2.2.1 _ ha.p
  exact ⟨sg 0, S, K, W (sg 0), hX.1.1, x1, hL.2.2 _ ha.p, x2, hC.1, hC.2.1, hC.2.2, hX.2.2.2.2.2.2.1, hL.2.1.1⟩
theorem zlit5 (z : Int32) : z = nI 0 ∨ z = nI 1 ∨ z = nI 2 ∨ z = nI 3 ∨ z = nI 4 ∨ bad 5 z := by
  rcases zc z 5 (by omega) with ⟨k, hk, rfl⟩ | h
  · have : k = 0 ∨ k = 1 ∨ k = 2 ∨ k = 3 ∨ k = 4 := by omega
    rcases this with rfl | rfl | rfl | rfl | rfl
    · exact Or.inl rfl
    · exact Or.inr (Or.inl rfl)
    · exact Or.inr (Or.inr (Or.inl rfl))
    · exact Or.inr (Or.inr (Or.inr (Or.inl rfl)))
    · exact Or.inr (Or.inr (Or.inr (Or.inr (Or.inl rfl))))
  · exact Or.inr (Or.inr (Or.inr (Or.inr (Or.inr h))))
theorem bad_ne {z : Int32} {n k : Nat} (h : bad n z) (hk : k < n) (hn : n < 10000) : ¬ z = nI k := by
  rintro rfl
  rcases h with h | ⟨-, h⟩
  · exact nI_nneg (by omega) h
  · rw [nI_leI (by omega) (by omega)] at h; omega
theorem p_inb {z : Int32} {n : Nat} (h : bad (n + 1) z) (hn : n < 10000) : m9_in fl len X I z (nI 0) (nI n) = some (0 : Int32) := p_in0 fun q => by
  have h1 := q.1
  have h2 := q.2
  rw [Int32.le_iff_toInt_le, nI_toInt (by omega)] at h1
  rw [Int32.le_iff_toInt_le, nI_toInt (by omega)] at h2
  rcases h with h | ⟨h, h3⟩
  · rw [Int32.lt_iff_toInt_lt, Int32.toInt_zero] at h; omega
  · rw [Int32.le_iff_toInt_le, nI_toInt (by omega)] at h3; omega
theorem st_ofCue (hfl : 10000 ≤ fl) (hL : LG len b) : St_ofCue fl len b (b + 799) (Rel b) := by
  intro I X a1 a2 h
  obtain ⟨p, S, K, w, h128, hX, hN, hC, hv, hc, hM, h144, hl⟩ := h.use hL
  have h5 := hv.m6.1
  rcases zc a1 (S 5) (by omega) with ⟨c, hc1, rfl⟩ | hb
  · obtain ⟨e0, e1, e2, e3, e4⟩ := hc.2.2.1 c hc1
    have hcue := q_cue (fl := fl) (len := len) hX hN hC h5 hc.2.1.2.1 hc1
    have run : ∀ k, k ≤ 4 → m9_ofCue fl len X I (b + 799) (nI c) (nI k) = some (nI (S (8 + 5 * c + k))) := by
      intro k hk
      rw [← mS_self hM, m9_ofCue, m9_ofCue_32, m9_ofCue_32, p_isCue1 h144 hl hc1 h5, nn_s, if_neg (by decide), L0, L4, p_inl1 hk (Nat.zero_le _) (by omega), nn_s, if_neg (by decide), p_of h144 hl (by omega) (by omega), nn_s, m9_ofCue_32]
    rcases zlit5 a2 with rfl | rfl | rfl | rfl | rfl | hb
    · refine ⟨_, ?_, run 0 (by omega), h⟩
      rw [m8_ofCue, h128, nn_s, hX.1.2.1, nn_s, hcue, nn_s, if_neg (by simp), if_pos (by first | rfl | decide), nn_s, e0]; rfl
    · refine ⟨_, ?_, run 1 (by omega), h⟩
      rw [m8_ofCue, h128, nn_s, hX.1.2.1, nn_s, hcue, nn_s, if_neg (by simp), if_neg (by decide), if_pos (by first | rfl | decide), nn_s, e1]
    · refine ⟨_, ?_, run 2 (by omega), h⟩
      rw [m8_ofCue, h128, nn_s, hX.1.2.1, nn_s, hcue, nn_s, if_neg (by simp), if_neg (by decide), if_neg (by decide), if_pos (by first | rfl | decide), nn_s, e2]
    · refine ⟨_, ?_, run 3 (by omega), h⟩
      rw [m8_ofCue, h128, nn_s, hX.1.2.1, nn_s, hcue, nn_s, if_neg (by simp), if_neg (by decide), if_neg (by decide), if_neg (by decide), if_pos (by first | rfl | decide), nn_s, e3]
    · refine ⟨_, ?_, run 4 (by omega), h⟩
      rw [m8_ofCue, h128, nn_s, hX.1.2.1, nn_s, hcue, nn_s, if_neg (by simp), if_neg (by decide), if_neg (by decide), if_neg (by decide), if_neg (by decide), if_pos (by first | rfl | decide), nn_s, e4]
    · refine ⟨-2, ?_, ?_, h⟩
      · rw [m8_ofCue, h128, nn_s, hX.1.2.1, nn_s, hcue, nn_s, if_neg (by simp), if_neg (by exact bad_ne hb (k := 0) (by omega) (by omega)), if_neg (by exact bad_ne hb (k := 1) (by omega) (by omega)), if_neg (by exact bad_ne hb (k := 2) (by omega) (by omega)), if_neg (by exact bad_ne hb (k := 3) (by omega) (by omega)), if_neg (by exact bad_ne hb (k := 4) (by omega) (by omega))]
      · rw [← mS_self hM, m9_ofCue, m9_ofCue_32, m9_ofCue_32, p_isCue1 h144 hl hc1 h5, nn_s, if_neg (by decide), L0, L4, p_inb hb (by omega), nn_s]
        rfl
  · refine ⟨-1, ?_, ?_, h⟩
    · rw [m8_ofCue, h128, nn_s, hX.1.2.1, nn_s, q_cue0 hc.2.1.2.1 hb, nn_s, if_pos (by first | rfl | decide)]
    · rw [← mS_self hM, m9_ofCue, m9_ofCue_32, p_isCue0 h144 hl hb h5, nn_s]
      rfl
theorem begS_tape {S : Nat → Nat} {r n : Nat} (hn : n ≠ 0) : begS S r n = begS S r (n - 1) + S (144 + 3 * (6 * r + (n - 1))) := by
  obtain ⟨m, rfl⟩ : ∃ m, n = m + 1 := ⟨n - 1, by omega⟩
  rfl
theorem q_tape {p r : Nat} {S : Nat → Nat} (hX : XS X p) (hN : LN len p) (hr : r < 4) (h : RR I p S r) (hm : S (128 + 4 * r + 3) ≤ 6) : m5_tapeLength fl len X I (p + 36 + 8 * r) = some (nI (begS S r (S (128 + 4 * r + 3)))) := by
  obtain ⟨⟨a1, a2, a3, a4⟩, a5⟩ := h
  unfold m5_tapeLength m5_tapeLength_28
  by_cases h0 : S (128 + 4 * r + 3) = 0
  · rw [a1, h0, q_snd0 hX hN hr (n := 0) (by omega) (by rw [a1, h0]) (Or.inl (by decide)), nn_s, if_pos (by first | rfl | decide)]
    rfl
  · obtain ⟨c1, c2, c3, c4⟩ := a5 (S (128 + 4 * r + 3) - 1) (by omega)
    rw [a1, L1, nI_sub (by omega), q_snd hX hN hr hm a1 (by omega), nn_s, if_neg (by simp), nn_s, c3, c1, nI_add, begS_tape h0]
theorem st_ofReel (hfl : 10000 ≤ fl) (hL : LG len b) : St_ofReel fl len b (b + 799) (Rel b) := by
  intro I X a1 a2 h
  obtain ⟨p, S, K, w, h128, hX, hN, hC, hv, hc, hM, h144, hl⟩ := h.use hL
  obtain ⟨h5, hm⟩ := hv.m6
  have hB := hv.2.2.2.2.2.2.2.2
  rcases zc a1 4 (by omega) with ⟨r, hr, rfl⟩ | hb
  · have hRR := hc.2.2.2.2.2.2.1 r hr
    obtain ⟨⟨e1, e2, e3, e4⟩, e5⟩ := hRR
    have hreel := q_reel (fl := fl) (len := len) (I := I) hX hN hr
    have hp6 : S (128 + 4 * r + 1) ≤ 6 := Nat.le_trans (hv.2.2.2.1 r hr).2.1 (hm r hr)
    have nx := q_next (fl := fl) (len := len) (X := X) (I := I) hfl hX hN hC hc.2.1 hc.2.2.1 hv.2.2.1 hv.2.1 hr
    have n1 := hB (128 + 4 * r + 1)
    rcases zc a2 6 (by omega) with ⟨k, hk, rfl⟩ | hb
    · have : k = 0 ∨ k = 1 ∨ k = 2 ∨ k = 3 ∨ k = 4 ∨ k = 5 := by omega
      rcases this with rfl | rfl | rfl | rfl | rfl | rfl
      · refine ⟨nI (S (128 + 4 * r)), ?_, ?_, h⟩
        · rw [m8_ofReel, h128, nn_s, hreel, nn_s, if_neg (by simp), if_pos (by first | rfl | decide), nn_s, e2]
        · rw [← mS_self hM, m9_ofReel, p_isReel1 hr, nn_s, if_neg (by decide), if_pos (by first | rfl | decide), L0, p_reel h144 hl hr (by omega), nn_s]; rfl
      · refine ⟨plI (S (128 + 4 * r + 1)), ?_, ?_, h⟩
        · rw [m8_ofReel, h128, nn_s, hreel, nn_s, if_neg (by simp), if_neg (by decide), if_pos (by first | rfl | decide), nn_s, e3]
        · rw [← mS_self hM, m9_ofReel, p_isReel1 hr, nn_s, if_neg (by decide), if_neg (by decide), if_pos (by first | rfl | decide), L1, p_reel h144 hl hr (by omega), nn_s, nn_s, m9_ofReel_77, m9_ofReel_77]
          by_cases hp : S (128 + 4 * r + 1) = 0
          · rw [if_pos (by rw [L0, nI_leI (by omega) (by omega)]; omega), hp]; rfl
          · rw [if_neg (by rw [L0, nI_leI (by omega) (by omega)]; omega), nI_sub (by omega), plI_n hp]
      · refine ⟨nI (S (128 + 4 * r + 2)), ?_, ?_, h⟩
        · rw [m8_ofReel, h128, nn_s, hreel, nn_s, if_neg (by simp), if_neg (by decide), if_neg (by decide), if_pos (by first | rfl | decide), nn_s, e4]
        · rw [← mS_self hM, m9_ofReel, p_isReel1 hr, nn_s, if_neg (by decide), if_neg (by decide), if_neg (by decide), if_pos (by first | rfl | decide), L2, p_reel h144 hl hr (by omega), nn_s]
      · refine ⟨nI (S (128 + 4 * r + 3)), ?_, ?_, h⟩
        · rw [m8_ofReel, h128, nn_s, hreel, nn_s, if_neg (by simp), if_neg (by decide), if_neg (by decide), if_neg (by decide), if_pos (by first | rfl | decide), nn_s, e1]
        · rw [← mS_self hM, m9_ofReel, p_isReel1 hr, nn_s, if_neg (by decide), if_neg (by decide), if_neg (by decide), if_neg (by decide), if_pos (by first | rfl | decide), L3, p_reel h144 hl hr (by omega), nn_s]
      · refine ⟨nI (begS S r (S (128 + 4 * r + 3))), ?_, ?_, h⟩
        · rw [m8_ofReel, h128, nn_s, hreel, nn_s, if_neg (by simp), if_neg (by decide), if_neg (by decide), if_neg (by decide), if_neg (by decide), if_pos (by first | rfl | decide), nn_s, q_tape hX hN hr ⟨⟨e1, e2, e3, e4⟩, e5⟩ (hm r hr), nn_s]
        · rw [← mS_self hM, m9_ofReel, p_isReel1 hr, nn_s, if_neg (by decide), if_neg (by decide), if_neg (by decide), if_neg (by decide), if_neg (by decide), if_pos (by first | rfl | decide), L3, p_reel h144 hl hr (by omega), nn_s, p_beginning hfl h144 hl hr (hm r hr), nn_s]
      · refine ⟨oI (nxF S r (S 5) 0), ?_, ?_, h⟩
        · rw [m8_ofReel, h128, nn_s, hreel, nn_s, if_neg (by simp), if_neg (by decide), if_neg (by decide), if_neg (by decide), if_neg (by decide), if_neg (by decide), if_pos (by first | rfl | decide), hX.1.2.1, nn_s, nx, nn_s]
        · rw [← mS_self hM, m9_ofReel, p_isReel1 hr, nn_s, if_neg (by decide), if_neg (by decide), if_neg (by decide), if_neg (by decide), if_neg (by decide), if_neg (by decide), if_pos (by first | rfl | decide), p_next hfl h144 hl hr hB h5, nn_s]
    · refine ⟨-2, ?_, ?_, h⟩
      · rw [m8_ofReel, h128, nn_s, hreel, nn_s, if_neg (by simp), if_neg (by exact bad_ne hb (k := 0) (by omega) (by omega)), if_neg (by exact bad_ne hb (k := 1) (by omega) (by omega)), if_neg (by exact bad_ne hb (k := 2) (by omega) (by omega)), if_neg (by exact bad_ne hb (k := 3) (by omega) (by omega)), if_neg (by exact bad_ne hb (k := 4) (by omega) (by omega)), if_neg (by exact bad_ne hb (k := 5) (by omega) (by omega))]
      · rw [m9_ofReel, p_isReel1 hr, nn_s, if_neg (by decide), if_neg (by exact bad_ne hb (k := 0) (by omega) (by omega)), if_neg (by exact bad_ne hb (k := 1) (by omega) (by omega)), if_neg (by exact bad_ne hb (k := 2) (by omega) (by omega)), if_neg (by exact bad_ne hb (k := 3) (by omega) (by omega)), if_neg (by exact bad_ne hb (k := 4) (by omega) (by omega)), if_neg (by exact bad_ne hb (k := 5) (by omega) (by omega))]
  · refine ⟨-1, ?_, ?_, h⟩
    · rw [m8_ofReel, h128, nn_s, q_reel0 hX hN hb, nn_s, if_pos (by first | rfl | decide)]
    · rw [m9_ofReel, p_isReel0 hb, nn_s, if_pos (by first | rfl | decide)]
theorem q_sAt {p r k : Nat} {S : Nat → Nat} (hX : XS X p) (hN : LN len p) (hr : r < 4) (h : RR I p S r) (hm : S (128 + 4 * r + 3) ≤ 6) (hk : k < S (128 + 4 * r + 3)) : m4_soundAt fl len X I p (nI r) (nI k) = some (some (p + 36 + 8 * r + 2 + k)) := by
  rw [m4_soundAt, q_reel hX hN hr, nn_s, if_neg (by simp), nn_s, q_snd hX hN hr hm h.1.1 hk, nn_s]
  rfl
theorem q_sAt0 {p r : Nat} {z : Int32} {S : Nat → Nat} (hX : XS X p) (hN : LN len p) (hr : r < 4) (h : RR I p S r) (hm : S (128 + 4 * r + 3) ≤ 6) (hk : bad (S (128 + 4 * r + 3)) z) : m4_soundAt fl len X I p (nI r) z = some none := by
  rw [m4_soundAt, q_reel hX hN hr, nn_s, if_neg (by simp), nn_s, q_snd0 hX hN hr hm h.1.1 hk, nn_s]
  rfl
theorem q_sAt00 {p : Nat} {r z : Int32} (hX : XS X p) (hN : LN len p) (hr : bad 4 r) : m4_soundAt fl len X I p r z = some none := by
  rw [m4_soundAt, q_reel0 hX hN hr, nn_s, if_pos (by first | rfl | decide)]
  rfl
theorem st_ofSound (hfl : 10000 ≤ fl) (hL : LG len b) : St_ofSound fl len b (b + 799) (Rel b) := by
  intro I X a1 a2 a3 h
  obtain ⟨p, S, K, w, h128, hX, hN, hC, hv, hc, hM, h144, hl⟩ := h.use hL
  obtain ⟨h5, hm⟩ := hv.m6
  rcases zc a1 4 (by omega) with ⟨r, hr, rfl⟩ | hb
  · have hRR := hc.2.2.2.2.2.2.1 r hr
    have hm := hm r hr
    rcases zc a2 (S (128 + 4 * r + 3)) (by omega) with ⟨k, hk, rfl⟩ | hb
    · obtain ⟨e1, e2, e3, e4⟩ := hRR.2 k hk
      have hs := q_sAt (fl := fl) (len := len) hX hN hr hRR hm hk
      have is1 := p_isSound1 (fl := fl) (len := len) (X := X) (I := I) (q := b + 799) h144 hl hr hk hm
      rcases zc a3 4 (by omega) with ⟨f, hf, rfl⟩ | hb
      · have : f = 0 ∨ f = 1 ∨ f = 2 ∨ f = 3 := by omega
        rcases this with rfl | rfl | rfl | rfl
        · refine ⟨nI (S (144 + 3 * (6 * r + k))), ?_, ?_, h⟩
          · rw [m8_ofSound, h128, nn_s, hs, nn_s, if_neg (by simp), if_pos (by first | rfl | decide), nn_s, e1]
          · rw [← mS_self hM, m9_ofSound, is1, nn_s, if_neg (by decide), if_pos (by first | rfl | decide), m9_ofSound_44, h144, nn_s, p_soundAt, nn_s, nI_add, hl, ck_inb _ (by omega) (by omega), nI_clamp (by omega), gA_mS]; rfl
        · refine ⟨nI (S (144 + 3 * (6 * r + k) + 1)), ?_, ?_, h⟩
          · rw [m8_ofSound, h128, nn_s, hs, nn_s, if_neg (by simp), if_neg (by decide), if_pos (by first | rfl | decide), nn_s, e2]
          · rw [← mS_self hM, m9_ofSound, is1, nn_s, if_neg (by decide), if_neg (by decide), if_pos (by first | rfl | decide), m9_ofSound_44, h144, nn_s, p_soundAt, nn_s, nI_add, hl, ck_inb _ (by omega) (by omega), nI_clamp (by omega), gA_mS]
        · refine ⟨nI (begS S r k), ?_, ?_, h⟩
          · rw [m8_ofSound, h128, nn_s, hs, nn_s, if_neg (by simp), if_neg (by decide), if_neg (by decide), if_pos (by first | rfl | decide), nn_s, e3]
          · rw [← mS_self hM, m9_ofSound, is1, nn_s, if_neg (by decide), if_neg (by decide), if_neg (by decide), if_pos (by first | rfl | decide), p_beginning hfl h144 hl hr (by omega), nn_s]
        · refine ⟨nI (S (144 + 3 * (6 * r + k) + 2)), ?_, ?_, h⟩
          · rw [m8_ofSound, h128, nn_s, hs, nn_s, if_neg (by simp), if_neg (by decide), if_neg (by decide), if_neg (by decide), if_pos (by first | rfl | decide), nn_s, e4]
          · rw [← mS_self hM, m9_ofSound, is1, nn_s, if_neg (by decide), if_neg (by decide), if_neg (by decide), if_neg (by decide), if_pos (by first | rfl | decide), h144, nn_s, p_soundAt, nn_s, L2, nI_add, hl, ck_inb _ (by omega) (by omega), nI_clamp (by omega), gA_mS]
      · refine ⟨-2, ?_, ?_, h⟩
        · rw [m8_ofSound, h128, nn_s, hs, nn_s, if_neg (by simp), if_neg (by exact bad_ne hb (k := 0) (by omega) (by omega)), if_neg (by exact bad_ne hb (k := 1) (by omega) (by omega)), if_neg (by exact bad_ne hb (k := 2) (by omega) (by omega)), if_neg (by exact bad_ne hb (k := 3) (by omega) (by omega))]
        · rw [← mS_self hM, m9_ofSound, is1, nn_s, if_neg (by decide), if_neg (by exact bad_ne hb (k := 0) (by omega) (by omega)), if_neg (by exact bad_ne hb (k := 1) (by omega) (by omega)), if_neg (by exact bad_ne hb (k := 2) (by omega) (by omega)), if_neg (by exact bad_ne hb (k := 3) (by omega) (by omega))]
    · refine ⟨-1, ?_, ?_, h⟩
      · rw [m8_ofSound, h128, nn_s, q_sAt0 hX hN hr hRR hm hb, nn_s, if_pos (by first | rfl | decide)]
      · rw [← mS_self hM, m9_ofSound, p_isSound0 h144 hl hr hb hm, nn_s, if_pos (by first | rfl | decide)]
  · refine ⟨-1, ?_, ?_, h⟩
    · rw [m8_ofSound, h128, nn_s, q_sAt00 hX hN hb, nn_s, if_pos (by first | rfl | decide)]
    · rw [m9_ofSound, p_isSound00 hb, nn_s, if_pos (by first | rfl | decide)]
theorem st_loud (hfl : 10000 ≤ fl) (hL : LG len b) : St_loud fl len b (b + 799) (Rel b) := by
  intro I X a1 h
  obtain ⟨p, S, K, w, h128, hX, hN, hC, hv, hc, hM, h144, hl⟩ := h.use hL
  have h4 := hv.2.1.1
  rcases zc a1 (S 4) (by omega) with ⟨k, hk, rfl⟩ | hb
  · refine ⟨nI (S (320 + k)), ?_, ?_, h⟩
    · rw [m8_loud, if_neg (nI_nneg (by omega)), h128, nn_s, hc.2.1.1, if_neg (by rw [nI_leI (by omega) (by omega)]; omega), hX.1.2.2.2.2.2.2.1, nn_s, hN.1.2.2.2.2.2.2.2.2, if_pos (by rw [nI_ltI (by omega) (by omega)]; omega), ck_inb _ (by omega) (by omega), nI_clamp (by omega), hc.2.2.2.2.2.1 k hk]
    · rw [← mS_self hM, m9_loud, h144, nn_s, L4, hl, ck_inb _ (by omega) (by omega), nI_clamp (by omega), gA_mS, L0, L1, p_inc1 hk (by omega), nn_s, if_neg (by decide), L320, nI_add, ck_inb _ (by omega) (by omega), nI_clamp (by omega), gA_mS]
      rfl
  · refine ⟨-1, ?_, ?_, h⟩
    · rw [m8_loud, m8_loud_27]
      rcases hb with h0 | ⟨h0, h1⟩
      · rw [if_pos h0]
      · rw [if_neg h0, h128, nn_s, hc.2.1.1, if_pos h1]
    · rw [← mS_self hM, m9_loud, h144, nn_s, L4, hl, ck_inb _ (by omega) (by omega), nI_clamp (by omega), gA_mS, L0, L1, p_inc0 hb (by omega), nn_s]
      rfl
theorem st_ofChannel (hfl : 10000 ≤ fl) (hL : LG len b) : St_ofChannel fl len b (b + 799) (Rel b) := by
  intro I X a1 a2 h
  obtain ⟨p, S, K, w, h128, hX, hN, hC, hv, hc, hM, h144, hl⟩ := h.use hL
  have hB := hv.2.2.2.2.2.2.2.2
  have h67 := h67_le hv
  rcases zc a1 4 (by omega) with ⟨r, hr, rfl⟩ | hb
  · obtain ⟨e0, e1⟩ := hc.2.2.2.2.2.2.2 r hr
    have hch := q_chan (fl := fl) (len := len) (I := I) hX hN hr
    rcases zc a2 3 (by omega) with ⟨f, hf, rfl⟩ | hb
    · have : f = 0 ∨ f = 1 ∨ f = 2 := by omega
      rcases this with rfl | rfl | rfl
      · refine ⟨nI (S (216 + 2 * r)), ?_, ?_, h⟩
        · rw [m8_ofChannel, h128, nn_s, hch, nn_s, if_neg (by simp), if_pos (by first | rfl | decide), nn_s, e0]
        · rw [← mS_self hM, m9_ofChannel, p_isReel1 hr, nn_s, if_neg (by decide), L0, L1, p_inl1 (Nat.zero_le _) (Nat.zero_le _) (by omega), nn_s, if_neg (by decide), h144, nn_s, L216, L2, nI_mul, nI_add, nI_add, hl, ck_inb _ (by omega) (by omega), nI_clamp (by omega), gA_mS]; rfl
      · refine ⟨nI (S (216 + 2 * r + 1)), ?_, ?_, h⟩
        · rw [m8_ofChannel, h128, nn_s, hch, nn_s, if_neg (by simp), if_neg (by decide), if_pos (by first | rfl | decide), nn_s, e1]
        · rw [← mS_self hM, m9_ofChannel, p_isReel1 hr, nn_s, if_neg (by decide), L0, L1, p_inl1 (Nat.le_refl _) (Nat.zero_le _) (by omega), nn_s, if_neg (by decide), h144, nn_s, L216, L2, nI_mul, nI_add, nI_add, hl, ck_inb _ (by omega) (by omega), nI_clamp (by omega), gA_mS]; rfl
      · refine ⟨nI (cntD S r (S 6)), ?_, ?_, h⟩
        · rw [m8_ofChannel, h128, nn_s, hch, nn_s, if_neg (by simp), if_neg (by decide), if_neg (by decide), if_pos (by first | rfl | decide), hX.1.2.2.2.2.1, nn_s, q_countOn hfl hX hN hc.2.2.2.1 hB h67.1 (by omega), nn_s]
        · rw [← mS_self hM, m9_ofChannel, p_isReel1 hr, nn_s, if_neg (by decide), L0, L1, p_inb (Or.inr ⟨nI_nneg (by omega), Int32.le_refl _⟩) (by omega), nn_s, if_pos (by first | rfl | decide), if_pos (by first | rfl | decide), p_doorsOn hfl h144 hl hB h67.1 (by omega), nn_s]; rfl
    · refine ⟨-2, ?_, ?_, h⟩
      · rw [m8_ofChannel, h128, nn_s, hch, nn_s, if_neg (by simp), if_neg (by exact bad_ne hb (k := 0) (by omega) (by omega)), if_neg (by exact bad_ne hb (k := 1) (by omega) (by omega)), if_neg (by exact bad_ne hb (k := 2) (by omega) (by omega))]
      · have hb2 : bad 2 a2 := by
          rcases hb with h0 | ⟨h0, h1⟩
          · exact Or.inl h0
          · refine Or.inr ⟨h0, Int32.le_trans ?_ h1⟩
            rw [nI_leI (by omega) (by omega)]; omega
        rw [m9_ofChannel, p_isReel1 hr, nn_s, if_neg (by decide), L0, L1, p_inb hb2 (by omega), nn_s, if_pos (by first | rfl | decide), if_neg (by exact bad_ne hb (k := 2) (by omega) (by omega))]
        rfl
  · refine ⟨-1, ?_, ?_, h⟩
    · rw [m8_ofChannel, h128, nn_s, q_chan0 hX hN hb, nn_s, if_pos (by first | rfl | decide)]
    · rw [m9_ofChannel, p_isReel0 hb, nn_s, if_pos (by first | rfl | decide)]
theorem st_played (hfl : 10000 ≤ fl) (hL : LG len b) : St_played fl len b (b + 799) (Rel b) := by
  intro I X a1 a2 h
  obtain ⟨p, S, K, w, h128, hX, hN, hC, hv, hc, hM, h144, hl⟩ := h.use hL
  have h67 := h67_le hv
  have hm := hv.m6.2
  rcases zc a1 (S 7) (by omega) with ⟨k, hk, rfl⟩ | hb
  · obtain ⟨r, s, hr, hs, e⟩ := hv.2.2.2.2.2.2.2.1.2 k hk
    have hm := hm r hr
    have e34 := hc.2.2.2.2.1.2 k hk
    rw [e] at e34
    have hRR := hc.2.2.2.2.2.2.1 r hr
    have hsa := q_sAt (fl := fl) (len := len) hX hN hr hRR hm hs
    have d1 : nI (6 * r + s) / (6 : Int32) = nI r := by rw [L6, nI_div (by omega) (by omega), show (6 * r + s) / 6 = r by omega]
    have d2 : nI (6 * r + s) - nI (6 * r + s) / (6 : Int32) * (6 : Int32) = nI s := by rw [d1, L6, nI_mul, nI_sub (by omega), show 6 * r + s - r * 6 = s by omega]
    have run8 : ∀ V, (if a2 = (0 : Int32) then some (nI r) else if a2 = (1 : Int32) then some (nI s) else if a2 = (2 : Int32) then some (nI (S (144 + 3 * (6 * r + s) + 2))) else some (-2 : Int32)) = V → m8_played fl len X I b (nI k) a2 = V := by
      intro V hV
      rw [m8_played, if_neg (nI_nneg (by omega)), h128, nn_s, hc.2.2.2.2.1.1, if_neg (by rw [nI_leI (by omega) (by omega)]; omega), hX.1.2.2.2.2.2.1, nn_s, hN.1.2.2.2.2.2.2.2.1, if_pos (by rw [nI_ltI (by omega) (by omega)]; omega), ck_inb _ (by omega) (by omega), nI_clamp (by omega), e34, lt_e, lt_e, d2, d1, hsa, nn_s, if_neg (by simp), nn_s, (hRR.2 s hs).2.2.2]
      exact hV
    have run9 : ∀ V, (if a2 = (0 : Int32) then some (nI r) else if a2 = (1 : Int32) then some (nI s) else if a2 = (2 : Int32) then some (nI (S (144 + 3 * (6 * r + s) + 2))) else some (-2 : Int32)) = V → m9_played fl len X I (b + 799) (nI k) a2 = V := by
      intro V hV
      rw [← mS_self hM, m9_played, h144, nn_s, L7, hl, ck_inb _ (by omega) (by omega), nI_clamp (by omega), gA_mS, L0, L1, p_inc1 hk (by omega), nn_s, if_neg (by decide), L296, nI_add, ck_inb _ (by omega) (by omega), nI_clamp (by omega), gA_mS, e, lt_e, d2, d1, L144, L3, L2, nI_mul, nI_add, nI_add, ck_inb _ (by omega) (by omega), nI_clamp (by omega), gA_mS]
      exact hV
    exact ⟨_, (run8 _ rfl).trans (by
      show _ = some (if a2 = (0 : Int32) then nI r else if a2 = (1 : Int32) then nI s else if a2 = (2 : Int32) then nI (S (144 + 3 * (6 * r + s) + 2)) else (-2 : Int32))
      repeat' split
      all_goals rfl), (run9 _ rfl).trans (by
      repeat' split
      all_goals rfl), h⟩
  · refine ⟨-1, ?_, ?_, h⟩
    · rw [m8_played, m8_played_27]
      rcases hb with h0 | ⟨h0, h1⟩
      · rw [if_pos h0]
      · rw [if_neg h0, h128, nn_s, hc.2.2.2.2.1.1, if_pos h1]
    · rw [← mS_self hM, m9_played, h144, nn_s, L7, hl, ck_inb _ (by omega) (by omega), nI_clamp (by omega), gA_mS, L0, L1, p_inc0 hb (by omega), nn_s]
      rfl
theorem st_count (hfl : 10000 ≤ fl) (hL : LG len b) : St_count fl len b (b + 799) (Rel b) := by
  intro I X a1 h
  obtain ⟨p, S, K, w, h128, hX, hN, hC, hv, hc, hM, h144, hl⟩ := h.use hL
  obtain ⟨sg, W, S2, K2, n, Hs, Hk, sv, Ss, Sk, t, tx, gX, gC, gH, gS, gT⟩ := id h
  have hB := hv.2.2.2.2.2.2.2.2
  have h4 := hv.2.1.1
  have h5 := hv.m6.1
  have c8 : ∀ v, v < 4 → m8_count fl len X I b (nI (v + 2)) = some (nI (cntC S v (S 5))) ∧ m9_count fl len X I (b + 799) (nI (v + 2)) = some (nI (cntC S v (S 5))) := by
    intro v hv4
    have e := q_countOf (fl := fl) (len := len) (X := X) (I := I) hfl hX hN hC hc.2.1.2.1 hc.2.2.1 hB h5 (v := v) (by omega)
    have e2 := p_cuesThat (fl := fl) (len := len) (X := X) (I := I) (q := b + 799) hfl h144 hl hB h5 (v := v) (by omega)
    rw [mS_self hM] at e2
    have s2 : nI (v + 2) - (2 : Int32) = nI v := by rw [L2, nI_sub (by omega)]; rfl
    have : v = 0 ∨ v = 1 ∨ v = 2 ∨ v = 3 := by omega
    rcases this with rfl | rfl | rfl | rfl
    · refine ⟨?_, ?_⟩
      · rw [m8_count, if_neg (by decide), if_neg (by decide), if_pos (by decide), h128, nn_s, hX.1.2.1, nn_s, show (0 : Int32) = nI 0 from rfl, e, nn_s]
      · rw [m9_count, if_neg (by decide), if_neg (by decide), if_pos (by decide), m9_count_90, s2, e2, nn_s]
    · refine ⟨?_, ?_⟩
      · rw [m8_count, if_neg (by decide), if_neg (by decide), if_neg (by decide), if_pos (by decide), h128, nn_s, hX.1.2.1, nn_s, show (1 : Int32) = nI 1 from rfl, e, nn_s]
      · rw [m9_count, if_neg (by decide), if_neg (by decide), if_neg (by decide), if_pos (by decide), m9_count_90, s2, e2, nn_s]
    · refine ⟨?_, ?_⟩
      · rw [m8_count, if_neg (by decide), if_neg (by decide), if_neg (by decide), if_neg (by decide), if_pos (by decide), h128, nn_s, hX.1.2.1, nn_s, show (2 : Int32) = nI 2 from rfl, e, nn_s]
      · rw [m9_count, if_neg (by decide), if_neg (by decide), if_neg (by decide), if_neg (by decide), if_pos (by decide), m9_count_90, s2, e2, nn_s]
    · refine ⟨?_, ?_⟩
      · rw [m8_count, if_neg (by decide), if_neg (by decide), if_neg (by decide), if_neg (by decide), if_neg (by decide), if_pos (by decide), h128, nn_s, hX.1.2.1, nn_s, show (3 : Int32) = nI 3 from rfl, e, nn_s]
      · rw [m9_count, if_neg (by decide), if_neg (by decide), if_neg (by decide), if_neg (by decide), if_neg (by decide), if_pos (by decide), m9_count_90, s2, e2, nn_s]
  have c9 : ∀ v, v < 4 → m8_count fl len X I b (nI (v + 9)) = some (nI (S v)) ∧ m9_count fl len X I (b + 799) (nI (v + 9)) = some (nI (S v)) := by
    intro v hv4
    have s9 : nI (v + 9) - (9 : Int32) = nI v := by rw [L9, nI_sub (by omega)]; rfl
    have m115 : m9_count_115 fl len X I (b + 799) (nI (v + 9)) = some (nI (S v)) := by
      rw [m9_count_115, h144, nn_s, s9, hl, ck_inb _ (by omega) (by omega), nI_clamp (by omega), hM]
    have : v = 0 ∨ v = 1 ∨ v = 2 ∨ v = 3 := by omega
    rcases this with rfl | rfl | rfl | rfl
    · refine ⟨?_, ?_⟩
      · rw [m8_count, if_neg (by decide), if_neg (by decide), if_neg (by decide), if_neg (by decide), if_neg (by decide), if_neg (by decide), if_neg (by decide), if_neg (by decide), if_neg (by decide), if_pos (by decide), h128, nn_s, hX.1.1, nn_s, hN.1.1, L0, ck_inb _ (by omega) (by omega), nI_clamp (by omega), hc.1 0 (by omega)]
      · rw [m9_count, if_neg (by decide), if_neg (by decide), if_neg (by decide), if_neg (by decide), if_neg (by decide), if_neg (by decide), if_neg (by decide), if_neg (by decide), if_neg (by decide), if_pos (by decide), m115]
    · refine ⟨?_, ?_⟩
      · rw [m8_count, if_neg (by decide), if_neg (by decide), if_neg (by decide), if_neg (by decide), if_neg (by decide), if_neg (by decide), if_neg (by decide), if_neg (by decide), if_neg (by decide), if_neg (by decide), if_pos (by decide), h128, nn_s, hX.1.1, nn_s, hN.1.1, L1, ck_inb _ (by omega) (by omega), nI_clamp (by omega), hc.1 1 (by omega)]
      · rw [m9_count, if_neg (by decide), if_neg (by decide), if_neg (by decide), if_neg (by decide), if_neg (by decide), if_neg (by decide), if_neg (by decide), if_neg (by decide), if_neg (by decide), if_neg (by decide), if_pos (by decide), m115]
    · refine ⟨?_, ?_⟩
      · rw [m8_count, if_neg (by decide), if_neg (by decide), if_neg (by decide), if_neg (by decide), if_neg (by decide), if_neg (by decide), if_neg (by decide), if_neg (by decide), if_neg (by decide), if_neg (by decide), if_neg (by decide), if_pos (by decide), h128, nn_s, hX.1.1, nn_s, hN.1.1, L2, ck_inb _ (by omega) (by omega), nI_clamp (by omega), hc.1 2 (by omega)]
      · rw [m9_count, if_neg (by decide), if_neg (by decide), if_neg (by decide), if_neg (by decide), if_neg (by decide), if_neg (by decide), if_neg (by decide), if_neg (by decide), if_neg (by decide), if_neg (by decide), if_neg (by decide), if_pos (by decide), m115]
    · refine ⟨?_, ?_⟩
      · rw [m8_count, if_neg (by decide), if_neg (by decide), if_neg (by decide), if_neg (by decide), if_neg (by decide), if_neg (by decide), if_neg (by decide), if_neg (by decide), if_neg (by decide), if_neg (by decide), if_neg (by decide), if_neg (by decide), if_pos (by decide), h128, nn_s, hX.1.1, nn_s, hN.1.1, L3, ck_inb _ (by omega) (by omega), nI_clamp (by omega), hc.1 3 (by omega)]
      · rw [m9_count, if_neg (by decide), if_neg (by decide), if_neg (by decide), if_neg (by decide), if_neg (by decide), if_neg (by decide), if_neg (by decide), if_neg (by decide), if_neg (by decide), if_neg (by decide), if_neg (by decide), if_neg (by decide), if_pos (by decide), m115]
  rcases zc a1 15 (by omega) with ⟨k, hk, rfl⟩ | hb
  · by_cases k2 : 2 ≤ k ∧ k < 6
    · obtain ⟨x1, x2⟩ := c8 (k - 2) (by omega)
      rw [show k - 2 + 2 = k by omega] at x1 x2
      exact ⟨_, x1, x2, h⟩
    · by_cases k9 : 9 ≤ k ∧ k < 13
      · obtain ⟨x1, x2⟩ := c9 (k - 9) (by omega)
        rw [show k - 9 + 9 = k by omega] at x1 x2
        exact ⟨_, x1, x2, h⟩
      · have : k = 0 ∨ k = 1 ∨ k = 6 ∨ k = 7 ∨ k = 8 ∨ k = 13 ∨ k = 14 := by omega
        rcases this with rfl | rfl | rfl | rfl | rfl | rfl | rfl
        · refine ⟨nI (S 4), ?_, ?_, h⟩
          · rw [m8_count, if_pos (by decide), h128, nn_s, hc.2.1.1]
          · rw [m9_count, if_pos (by decide), h144, nn_s, L4, hl, ck_inb _ (by omega) (by omega), nI_clamp (by omega), hM]
        · refine ⟨nI (S 5), ?_, ?_, h⟩
          · rw [m8_count, if_neg (by decide), if_pos (by decide), h128, nn_s, hX.1.2.1, nn_s, hc.2.1.2.1]
          · rw [m9_count, if_neg (by decide), if_pos (by decide), h144, nn_s, L5, hl, ck_inb _ (by omega) (by omega), nI_clamp (by omega), hM]
        · have e2 := p_loudest (fl := fl) (len := len) (X := X) (I := I) (q := b + 799) hfl h144 hl hB h4 (f := 0) (by omega)
          rw [mS_self hM] at e2
          refine ⟨oI (lof S 0 (S 4)), ?_, ?_, h⟩
          · rw [m8_count, if_neg (by decide), if_neg (by decide), if_neg (by decide), if_neg (by decide), if_neg (by decide), if_neg (by decide), if_pos (by decide), h128, nn_s, q_loudest hfl hX hN hc.2.1.1 hc.2.2.2.2.2.1 hB h4, nn_s]
          · rw [m9_count, if_neg (by decide), if_neg (by decide), if_neg (by decide), if_neg (by decide), if_neg (by decide), if_neg (by decide), if_pos (by decide), show (0 : Int32) = nI 0 from rfl, e2, nn_s, Nat.sub_zero]
        · have e2 := p_tooLoud (fl := fl) (len := len) (X := X) (I := I) (q := b + 799) hfl h144 hl hB h4 (f := 0) (by omega)
          rw [mS_self hM] at e2
          refine ⟨nI (tlo S 0 (S 4)), ?_, ?_, h⟩
          · rw [m8_count, if_neg (by decide), if_neg (by decide), if_neg (by decide), if_neg (by decide), if_neg (by decide), if_neg (by decide), if_neg (by decide), if_pos (by decide), h128, nn_s, q_tooLoud hfl hX hN hc.2.1.1 hc.2.2.2.2.2.1 hc.1 hB h4, nn_s]
          · rw [m9_count, if_neg (by decide), if_neg (by decide), if_neg (by decide), if_neg (by decide), if_neg (by decide), if_neg (by decide), if_neg (by decide), if_pos (by decide), show (0 : Int32) = nI 0 from rfl, e2, nn_s, Nat.sub_zero]
        · have e2 := p_playing (fl := fl) (len := len) (X := X) (I := I) (q := b + 799) hfl h144 hl hB
          rw [mS_self hM] at e2
          refine ⟨pbS S 4, ?_, ?_, h⟩
          · rw [m8_count, if_neg (by decide), if_neg (by decide), if_neg (by decide), if_neg (by decide), if_neg (by decide), if_neg (by decide), if_neg (by decide), if_neg (by decide), if_pos (by decide), h128, nn_s, q_playing hfl hX hN hc.2.2.2.2.2.2.1 hB, nn_s]
          · rw [m9_count, if_neg (by decide), if_neg (by decide), if_neg (by decide), if_neg (by decide), if_neg (by decide), if_neg (by decide), if_neg (by decide), if_neg (by decide), if_pos (by decide), e2, nn_s]
        · refine ⟨nI t, ?_, ?_, h⟩
          · rw [m8_count, if_neg (by decide), if_neg (by decide), if_neg (by decide), if_neg (by decide), if_neg (by decide), if_neg (by decide), if_neg (by decide), if_neg (by decide), if_neg (by decide), if_neg (by decide), if_neg (by decide), if_neg (by decide), if_neg (by decide), if_pos (by decide), gX.1.2.2.2.2.2.1, nn_s, gT.1.2.1]
          · rw [m9_count, if_neg (by decide), if_neg (by decide), if_neg (by decide), if_neg (by decide), if_neg (by decide), if_neg (by decide), if_neg (by decide), if_neg (by decide), if_neg (by decide), if_neg (by decide), if_neg (by decide), if_neg (by decide), if_neg (by decide), if_pos (by decide), gT.1.2.2]
        · refine ⟨nI n, ?_, ?_, h⟩
          · rw [m8_count, if_neg (by decide), if_neg (by decide), if_neg (by decide), if_neg (by decide), if_neg (by decide), if_neg (by decide), if_neg (by decide), if_neg (by decide), if_neg (by decide), if_neg (by decide), if_neg (by decide), if_neg (by decide), if_neg (by decide), if_neg (by decide), if_pos (by decide), gH.1.2.1]
          · rw [m9_count, if_neg (by decide), if_neg (by decide), if_neg (by decide), if_neg (by decide), if_neg (by decide), if_neg (by decide), if_neg (by decide), if_neg (by decide), if_neg (by decide), if_neg (by decide), if_neg (by decide), if_neg (by decide), if_neg (by decide), if_neg (by decide), if_pos (by decide), gH.1.2.2.1]
  · have g : ∀ k, k < 15 → ¬ a1 = nI k := fun k hk => bad_ne hb hk (by omega)
    refine ⟨-2, ?_, ?_, h⟩
    · rw [m8_count, if_neg (by exact g 0 (by omega)), if_neg (by exact g 1 (by omega)), if_neg (by exact g 2 (by omega)), if_neg (by exact g 3 (by omega)), if_neg (by exact g 4 (by omega)), if_neg (by exact g 5 (by omega)), if_neg (by exact g 6 (by omega)), if_neg (by exact g 7 (by omega)), if_neg (by exact g 8 (by omega)), if_neg (by exact g 9 (by omega)), if_neg (by exact g 10 (by omega)), if_neg (by exact g 11 (by omega)), if_neg (by exact g 12 (by omega)), if_neg (by exact g 13 (by omega)), if_neg (by exact g 14 (by omega))]
    · rw [m9_count, if_neg (by exact g 0 (by omega)), if_neg (by exact g 1 (by omega)), if_neg (by exact g 2 (by omega)), if_neg (by exact g 3 (by omega)), if_neg (by exact g 4 (by omega)), if_neg (by exact g 5 (by omega)), if_neg (by exact g 6 (by omega)), if_neg (by exact g 7 (by omega)), if_neg (by exact g 8 (by omega)), if_neg (by exact g 9 (by omega)), if_neg (by exact g 10 (by omega)), if_neg (by exact g 11 (by omega)), if_neg (by exact g 12 (by omega)), if_neg (by exact g 13 (by omega)), if_neg (by exact g 14 (by omega))]
end RC
