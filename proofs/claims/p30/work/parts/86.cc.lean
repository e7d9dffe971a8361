/-! ===== the class alone: what it answers when it is asked ===== -/
section CC
variable {fl : Nat} {len : Nat → Nat} {X X2 : Xm} {I I1 I2 : Im} {p b : Nat} {S S' : Nat → Nat} {K K' n : Nat} {w w' : Nat → Nat} {sg : Nat → Nat} {W : Nat → Nat → Nat}
theorem Cl.use (h : Cl I X b S K) (hL : LG len b) : ∃ p w, gR X 128 b = some p ∧ XS X p ∧ LN len p ∧ XC X p w ∧ Iv S K ∧ Cs I p S K w := by
  obtain ⟨sg, W, n, h⟩ := h
  obtain ⟨x128, -, hX, hN, hC, hv, hc⟩ := h.at hL
  exact ⟨sg 0, W (sg 0), x128, hX, hN, hC, hv, hc⟩
theorem k_becomes (hfl : 10000 ≤ fl) (hL : LG len b) (h : Cl I X b S K) {c : Nat} (hc : c < K) : ∃ I2, m8_becomes fl len X I b (nI c) = some (nI (S (8 + 5 * c + 4)), I2) ∧ Fo b I I2 ∧ Cl I2 X b S K := by
  obtain ⟨sg, W, n, h⟩ := h
  obtain ⟨x128, p0, x1, hN, x2, hv, hc0⟩ := h.at hL
  have hKn := h.2.1.2.1.2.1
  have pt : isP b (b + 73) := Or.inr (Or.inl rfl)
  have pa := h.1.2.2.2.1 0 (by omega)
  obtain ⟨y1, y2⟩ := h.1.2.2.2.2.2.1 _ pt
  have hap := pt.apart p0 (Ne.symm pa.nt.1)
  obtain ⟨I1, r, f, c1⟩ := q_copy (fl := fl) (len := len) hfl y1 (hL.2.2 _ pt) y2 x1 hN x2 hap hv hc0
  obtain ⟨j, hj, h4j⟩ := rd_ex (G := tcm) (fun S K hi hg => gon_lt hi (tcm_gon hg)) 1200 S K hv (by omega)
  obtain ⟨I2, f2, c2, r2⟩ := q_missedIn (fl := fl) (len := len) (b := b) hfl y1 (hL.2.2 _ pt) y2 h.1.1.2.1 hv c1 h4j hj
  have hvT := Iv.passes j S K hv h4j
  obtain ⟨e4, e5⟩ := nP_4 j S K hv h4j
  have est := nP_st j S K hv h4j c hc
  have hft := f.trans f2
  refine ⟨I2, ?_, hft.o pt, sg, W, n, h.1, hv, hc0.apart x2 hv hap hft, h.2.2.2.1, by rw [(hft b (by omega)).1]; exact h.2.2.2.2⟩
  have e20 := (c2.2.2.1 c (by omega)).2.2.2.2
  have hcue := q_cue (fl := fl) (len := len) y1 (hL.2.2 _ pt) y2 hvT.m6.1 c2.2.1.2.1 (show c < (nP j S K).1 5 by omega)
  rw [m8_becomes, h.1.1.2.1, nn_s, x128, nn_s, r, nn_s, r2, nn_s]
  simp only
  rw [y1.1.2.1, nn_s, hcue, nn_s, if_neg (by simp), nn_s, e20, est]
  rfl
theorem a_ofCue (hL : LG len b) (h : Cl I X b S K) {c k : Nat} (hc1 : c < S 5) (hk : k ≤ 4) : m8_ofCue fl len X I b (nI c) (nI k) = some (nI (S (8 + 5 * c + k))) := by
  obtain ⟨p, w, h128, hX, hN, hC, hv, hc⟩ := h.use hL
  obtain ⟨e0, e1, e2, e3, e4⟩ := hc.2.2.1 c hc1
  have hcue := q_cue (fl := fl) (len := len) hX hN hC hv.m6.1 hc.2.1.2.1 hc1
  have : k = 0 ∨ k = 1 ∨ k = 2 ∨ k = 3 ∨ k = 4 := by omega
  rcases this with rfl | rfl | rfl | rfl | rfl
  · rw [m8_ofCue, h128, nn_s, hX.1.2.1, nn_s, hcue, nn_s, if_neg (by simp), if_pos (by first | rfl | decide), nn_s, e0]; rfl
  · rw [m8_ofCue, h128, nn_s, hX.1.2.1, nn_s, hcue, nn_s, if_neg (by simp), if_neg (by decide), if_pos (by first | rfl | decide), nn_s, e1]
  · rw [m8_ofCue, h128, nn_s, hX.1.2.1, nn_s, hcue, nn_s, if_neg (by simp), if_neg (by decide), if_neg (by decide), if_pos (by first | rfl | decide), nn_s, e2]
  · rw [m8_ofCue, h128, nn_s, hX.1.2.1, nn_s, hcue, nn_s, if_neg (by simp), if_neg (by decide), if_neg (by decide), if_neg (by decide), if_pos (by first | rfl | decide), nn_s, e3]
  · rw [m8_ofCue, h128, nn_s, hX.1.2.1, nn_s, hcue, nn_s, if_neg (by simp), if_neg (by decide), if_neg (by decide), if_neg (by decide), if_neg (by decide), if_pos (by first | rfl | decide), nn_s, e4]
theorem a_ofCue0 (hL : LG len b) (h : Cl I X b S K) {z a2 : Int32} (hb : bad (S 5) z) : m8_ofCue fl len X I b z a2 = some (-1) := by
  obtain ⟨p, w, h128, hX, hN, hC, hv, hc⟩ := h.use hL
  rw [m8_ofCue, h128, nn_s, hX.1.2.1, nn_s, q_cue0 hc.2.1.2.1 hb, nn_s, if_pos (by first | rfl | decide)]
theorem a_ofReel (hfl : 10000 ≤ fl) (hL : LG len b) (h : Cl I X b S K) {r : Nat} (hr : r < 4) :
    m8_ofReel fl len X I b (nI r) (0 : Int32) = some (nI (S (128 + 4 * r))) ∧ m8_ofReel fl len X I b (nI r) (1 : Int32) = some (plI (S (128 + 4 * r + 1))) ∧ m8_ofReel fl len X I b (nI r) (2 : Int32) = some (nI (S (128 + 4 * r + 2))) ∧ m8_ofReel fl len X I b (nI r) (3 : Int32) = some (nI (S (128 + 4 * r + 3))) ∧ m8_ofReel fl len X I b (nI r) (4 : Int32) = some (nI (begS S r (S (128 + 4 * r + 3)))) ∧ m8_ofReel fl len X I b (nI r) (5 : Int32) = some (oI (nxF S r (S 5) 0)) := by
  obtain ⟨p, w, h128, hX, hN, hC, hv, hc⟩ := h.use hL
  obtain ⟨h5, hm⟩ := hv.m6
  have hRR := hc.2.2.2.2.2.2.1 r hr
  obtain ⟨⟨e1, e2, e3, e4⟩, e5⟩ := hRR
  have hreel := q_reel (fl := fl) (len := len) (I := I) hX hN hr
  have nx := q_next (fl := fl) (len := len) (X := X) (I := I) hfl hX hN hC hc.2.1 hc.2.2.1 hv.2.2.1 hv.2.1 hr
  refine ⟨?_, ?_, ?_, ?_, ?_, ?_⟩
  · rw [m8_ofReel, h128, nn_s, hreel, nn_s, if_neg (by simp), if_pos (by first | rfl | decide), nn_s, e2]
  · rw [m8_ofReel, h128, nn_s, hreel, nn_s, if_neg (by simp), if_neg (by decide), if_pos (by first | rfl | decide), nn_s, e3]
  · rw [m8_ofReel, h128, nn_s, hreel, nn_s, if_neg (by simp), if_neg (by decide), if_neg (by decide), if_pos (by first | rfl | decide), nn_s, e4]
  · rw [m8_ofReel, h128, nn_s, hreel, nn_s, if_neg (by simp), if_neg (by decide), if_neg (by decide), if_neg (by decide), if_pos (by first | rfl | decide), nn_s, e1]
  · rw [m8_ofReel, h128, nn_s, hreel, nn_s, if_neg (by simp), if_neg (by decide), if_neg (by decide), if_neg (by decide), if_neg (by decide), if_pos (by first | rfl | decide), nn_s, q_tape hX hN hr ⟨⟨e1, e2, e3, e4⟩, e5⟩ (hm r hr), nn_s]
  · rw [m8_ofReel, h128, nn_s, hreel, nn_s, if_neg (by simp), if_neg (by decide), if_neg (by decide), if_neg (by decide), if_neg (by decide), if_neg (by decide), if_pos (by first | rfl | decide), hX.1.2.1, nn_s, nx, nn_s]
theorem a_ofSound (hL : LG len b) (h : Cl I X b S K) {r k : Nat} (hr : r < 4) (hk : k < S (128 + 4 * r + 3)) :
    m8_ofSound fl len X I b (nI r) (nI k) (0 : Int32) = some (nI (S (144 + 3 * (6 * r + k)))) ∧ m8_ofSound fl len X I b (nI r) (nI k) (1 : Int32) = some (nI (S (144 + 3 * (6 * r + k) + 1))) ∧ m8_ofSound fl len X I b (nI r) (nI k) (2 : Int32) = some (nI (begS S r k)) ∧ m8_ofSound fl len X I b (nI r) (nI k) (3 : Int32) = some (nI (S (144 + 3 * (6 * r + k) + 2))) := by
  obtain ⟨p, w, h128, hX, hN, hC, hv, hc⟩ := h.use hL
  have hm := hv.m6.2 r hr
  have hRR := hc.2.2.2.2.2.2.1 r hr
  obtain ⟨e1, e2, e3, e4⟩ := hRR.2 k hk
  have hs := q_sAt (fl := fl) (len := len) hX hN hr hRR hm hk
  refine ⟨?_, ?_, ?_, ?_⟩
  · rw [m8_ofSound, h128, nn_s, hs, nn_s, if_neg (by simp), if_pos (by first | rfl | decide), nn_s, e1]
  · rw [m8_ofSound, h128, nn_s, hs, nn_s, if_neg (by simp), if_neg (by decide), if_pos (by first | rfl | decide), nn_s, e2]
  · rw [m8_ofSound, h128, nn_s, hs, nn_s, if_neg (by simp), if_neg (by decide), if_neg (by decide), if_pos (by first | rfl | decide), nn_s, e3]
  · rw [m8_ofSound, h128, nn_s, hs, nn_s, if_neg (by simp), if_neg (by decide), if_neg (by decide), if_neg (by decide), if_pos (by first | rfl | decide), nn_s, e4]
theorem a_ofSound0 (hL : LG len b) (h : Cl I X b S K) {r : Nat} {z a3 : Int32} (hr : r < 4) (hb : bad (S (128 + 4 * r + 3)) z) : m8_ofSound fl len X I b (nI r) z a3 = some (-1) := by
  obtain ⟨p, w, h128, hX, hN, hC, hv, hc⟩ := h.use hL
  rw [m8_ofSound, h128, nn_s, q_sAt0 hX hN hr (hc.2.2.2.2.2.2.1 r hr) (hv.m6.2 r hr) hb, nn_s, if_pos (by first | rfl | decide)]
theorem a_ofChannel (hfl : 10000 ≤ fl) (hL : LG len b) (h : Cl I X b S K) {r : Nat} (hr : r < 4) :
    m8_ofChannel fl len X I b (nI r) (0 : Int32) = some (nI (S (216 + 2 * r))) ∧ m8_ofChannel fl len X I b (nI r) (1 : Int32) = some (nI (S (216 + 2 * r + 1))) ∧ m8_ofChannel fl len X I b (nI r) (2 : Int32) = some (nI (cntD S r (S 6))) := by
  obtain ⟨p, w, h128, hX, hN, hC, hv, hc⟩ := h.use hL
  have hB := hv.2.2.2.2.2.2.2.2
  have h67 := h67_le hv
  obtain ⟨e0, e1⟩ := hc.2.2.2.2.2.2.2 r hr
  have hch := q_chan (fl := fl) (len := len) (I := I) hX hN hr
  refine ⟨?_, ?_, ?_⟩
  · rw [m8_ofChannel, h128, nn_s, hch, nn_s, if_neg (by simp), if_pos (by first | rfl | decide), nn_s, e0]
  · rw [m8_ofChannel, h128, nn_s, hch, nn_s, if_neg (by simp), if_neg (by decide), if_pos (by first | rfl | decide), nn_s, e1]
  · rw [m8_ofChannel, h128, nn_s, hch, nn_s, if_neg (by simp), if_neg (by decide), if_neg (by decide), if_pos (by first | rfl | decide), hX.1.2.2.2.2.1, nn_s, q_countOn hfl hX hN hc.2.2.2.1 hB h67.1 (by omega), nn_s]
theorem a_played (hL : LG len b) (h : Cl I X b S K) {k r s : Nat} (hk : k < S 7) (hr : r < 4) (hs : s < S (128 + 4 * r + 3)) (e : S (296 + k) = 6 * r + s) :
    m8_played fl len X I b (nI k) (0 : Int32) = some (nI r) ∧ m8_played fl len X I b (nI k) (1 : Int32) = some (nI s) ∧ m8_played fl len X I b (nI k) (2 : Int32) = some (nI (S (144 + 3 * (6 * r + s) + 2))) := by
  obtain ⟨p, w, h128, hX, hN, hC, hv, hc⟩ := h.use hL
  have h67 := h67_le hv
  have hm := hv.m6.2 r hr
  have e34 := hc.2.2.2.2.1.2 k hk
  rw [e] at e34
  have hRR := hc.2.2.2.2.2.2.1 r hr
  have hsa := q_sAt (fl := fl) (len := len) hX hN hr hRR hm hs
  have d1 : nI (6 * r + s) / (6 : Int32) = nI r := by rw [L6, nI_div (by omega) (by omega), show (6 * r + s) / 6 = r by omega]
  have d2 : nI (6 * r + s) - nI (6 * r + s) / (6 : Int32) * (6 : Int32) = nI s := by rw [d1, L6, nI_mul, nI_sub (by omega), show 6 * r + s - r * 6 = s by omega]
  have run8 : ∀ a2 V, (if a2 = (0 : Int32) then some (nI r) else if a2 = (1 : Int32) then some (nI s) else if a2 = (2 : Int32) then some (nI (S (144 + 3 * (6 * r + s) + 2))) else some (-2 : Int32)) = V → m8_played fl len X I b (nI k) a2 = V := by
    intro a2 V hV
    rw [m8_played, if_neg (nI_nneg (by omega)), h128, nn_s, hc.2.2.2.2.1.1, if_neg (by rw [nI_leI (by omega) (by omega)]; omega), hX.1.2.2.2.2.2.1, nn_s, hN.1.2.2.2.2.2.2.2.1, if_pos (by rw [nI_ltI (by omega) (by omega)]; omega), ck_inb _ (by omega) (by omega), nI_clamp (by omega), e34, lt_e, lt_e, d2, d1, hsa, nn_s, if_neg (by simp), nn_s, (hRR.2 s hs).2.2.2]
    exact hV
  exact ⟨run8 _ _ rfl, run8 _ _ rfl, run8 _ _ rfl⟩
theorem a_played0 (hL : LG len b) (h : Cl I X b S K) {z a2 : Int32} (hb : bad (S 7) z) : m8_played fl len X I b z a2 = some (-1) := by
  obtain ⟨p, w, h128, hX, hN, hC, hv, hc⟩ := h.use hL
  rw [m8_played, m8_played_27]
  rcases hb with h0 | ⟨h0, h1⟩
  · rw [if_pos h0]
  · rw [if_neg h0, h128, nn_s, hc.2.2.2.2.1.1, if_pos h1]
theorem a_loud (hL : LG len b) (h : Cl I X b S K) {k : Nat} (hk : k < S 4) : m8_loud fl len X I b (nI k) = some (nI (S (320 + k))) := by
  obtain ⟨p, w, h128, hX, hN, hC, hv, hc⟩ := h.use hL
  have h4 := hv.2.1.1
  rw [m8_loud, if_neg (nI_nneg (by omega)), h128, nn_s, hc.2.1.1, if_neg (by rw [nI_leI (by omega) (by omega)]; omega), hX.1.2.2.2.2.2.2.1, nn_s, hN.1.2.2.2.2.2.2.2.2, if_pos (by rw [nI_ltI (by omega) (by omega)]; omega), ck_inb _ (by omega) (by omega), nI_clamp (by omega), hc.2.2.2.2.2.1 k hk]
theorem a_loud0 (hL : LG len b) (h : Cl I X b S K) {z : Int32} (hb : bad (S 4) z) : m8_loud fl len X I b z = some (-1) := by
  obtain ⟨p, w, h128, hX, hN, hC, hv, hc⟩ := h.use hL
  rw [m8_loud, m8_loud_27]
  rcases hb with h0 | ⟨h0, h1⟩
  · rw [if_pos h0]
  · rw [if_neg h0, h128, nn_s, hc.2.1.1, if_pos h1]
theorem a_count (hfl : 10000 ≤ fl) (hL : LG len b) (h : Cl I X b S K) :
    m8_count fl len X I b (0 : Int32) = some (nI (S 4)) ∧ m8_count fl len X I b (1 : Int32) = some (nI (S 5)) ∧ m8_count fl len X I b (2 : Int32) = some (nI (cntC S 0 (S 5))) ∧ m8_count fl len X I b (3 : Int32) = some (nI (cntC S 1 (S 5))) ∧ m8_count fl len X I b (4 : Int32) = some (nI (cntC S 2 (S 5))) ∧ m8_count fl len X I b (5 : Int32) = some (nI (cntC S 3 (S 5))) ∧ m8_count fl len X I b (6 : Int32) = some (oI (lof S 0 (S 4))) ∧ m8_count fl len X I b (7 : Int32) = some (nI (tlo S 0 (S 4))) ∧ m8_count fl len X I b (8 : Int32) = some (pbS S 4) ∧ m8_count fl len X I b (9 : Int32) = some (nI (S 0)) ∧ m8_count fl len X I b (10 : Int32) = some (nI (S 1)) ∧ m8_count fl len X I b (11 : Int32) = some (nI (S 2)) ∧ m8_count fl len X I b (12 : Int32) = some (nI (S 3)) := by
  obtain ⟨p, w, h128, hX, hN, hC, hv, hc⟩ := h.use hL
  have hB := hv.2.2.2.2.2.2.2.2
  have h4 := hv.2.1.1
  have h5 := hv.m6.1
  have e := fun v (hv4 : v < 4) => q_countOf (fl := fl) (len := len) (X := X) (I := I) hfl hX hN hC hc.2.1.2.1 hc.2.2.1 hB h5 (v := v) (by omega)
  refine ⟨?_, ?_, ?_, ?_, ?_, ?_, ?_, ?_, ?_, ?_, ?_, ?_, ?_⟩
  · rw [m8_count, if_pos (by decide), h128, nn_s, hc.2.1.1]
  · rw [m8_count, if_neg (by decide), if_pos (by decide), h128, nn_s, hX.1.2.1, nn_s, hc.2.1.2.1]
  · rw [m8_count, if_neg (by decide), if_neg (by decide), if_pos (by decide), h128, nn_s, hX.1.2.1, nn_s, show (0 : Int32) = nI 0 from rfl, e 0 (by omega), nn_s]
  · rw [m8_count, if_neg (by decide), if_neg (by decide), if_neg (by decide), if_pos (by decide), h128, nn_s, hX.1.2.1, nn_s, show (1 : Int32) = nI 1 from rfl, e 1 (by omega), nn_s]
  · rw [m8_count, if_neg (by decide), if_neg (by decide), if_neg (by decide), if_neg (by decide), if_pos (by decide), h128, nn_s, hX.1.2.1, nn_s, show (2 : Int32) = nI 2 from rfl, e 2 (by omega), nn_s]
  · rw [m8_count, if_neg (by decide), if_neg (by decide), if_neg (by decide), if_neg (by decide), if_neg (by decide), if_pos (by decide), h128, nn_s, hX.1.2.1, nn_s, show (3 : Int32) = nI 3 from rfl, e 3 (by omega), nn_s]
  · rw [m8_count, if_neg (by decide), if_neg (by decide), if_neg (by decide), if_neg (by decide), if_neg (by decide), if_neg (by decide), if_pos (by decide), h128, nn_s, q_loudest hfl hX hN hc.2.1.1 hc.2.2.2.2.2.1 hB h4, nn_s]
  · rw [m8_count, if_neg (by decide), if_neg (by decide), if_neg (by decide), if_neg (by decide), if_neg (by decide), if_neg (by decide), if_neg (by decide), if_pos (by decide), h128, nn_s, q_tooLoud hfl hX hN hc.2.1.1 hc.2.2.2.2.2.1 hc.1 hB h4, nn_s]
  · rw [m8_count, if_neg (by decide), if_neg (by decide), if_neg (by decide), if_neg (by decide), if_neg (by decide), if_neg (by decide), if_neg (by decide), if_neg (by decide), if_pos (by decide), h128, nn_s, q_playing hfl hX hN hc.2.2.2.2.2.2.1 hB, nn_s]
  · rw [m8_count, if_neg (by decide), if_neg (by decide), if_neg (by decide), if_neg (by decide), if_neg (by decide), if_neg (by decide), if_neg (by decide), if_neg (by decide), if_neg (by decide), if_pos (by decide), h128, nn_s, hX.1.1, nn_s, hN.1.1, L0, ck_inb _ (by omega) (by omega), nI_clamp (by omega), hc.1 0 (by omega)]
  · rw [m8_count, if_neg (by decide), if_neg (by decide), if_neg (by decide), if_neg (by decide), if_neg (by decide), if_neg (by decide), if_neg (by decide), if_neg (by decide), if_neg (by decide), if_neg (by decide), if_pos (by decide), h128, nn_s, hX.1.1, nn_s, hN.1.1, L1, ck_inb _ (by omega) (by omega), nI_clamp (by omega), hc.1 1 (by omega)]
  · rw [m8_count, if_neg (by decide), if_neg (by decide), if_neg (by decide), if_neg (by decide), if_neg (by decide), if_neg (by decide), if_neg (by decide), if_neg (by decide), if_neg (by decide), if_neg (by decide), if_neg (by decide), if_pos (by decide), h128, nn_s, hX.1.1, nn_s, hN.1.1, L2, ck_inb _ (by omega) (by omega), nI_clamp (by omega), hc.1 2 (by omega)]
  · rw [m8_count, if_neg (by decide), if_neg (by decide), if_neg (by decide), if_neg (by decide), if_neg (by decide), if_neg (by decide), if_neg (by decide), if_neg (by decide), if_neg (by decide), if_neg (by decide), if_neg (by decide), if_neg (by decide), if_pos (by decide), h128, nn_s, hX.1.1, nn_s, hN.1.1, L3, ck_inb _ (by omega) (by omega), nI_clamp (by omega), hc.1 3 (by omega)]
end CC
