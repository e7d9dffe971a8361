/-! ===== readyIn ===== -/
/-- how many seconds a way takes -/
def wN (d s : Nat) : Nat := (d + s - 1) / s
theorem wN_0 {s : Nat} (hs : 1 ≤ s) : wN 0 s = 0 := by
  unfold wN
  exact Nat.div_eq_of_lt (by omega)
theorem wN_s {d s : Nat} (hs : 1 ≤ s) (hd : d ≠ 0) : wN d s = wN (d - s) s + 1 := by
  unfold wN
  by_cases h : s ≤ d
  · rw [show d + s - 1 = (d - s + s - 1) + s by omega, Nat.add_div_right _ (by omega)]
  · rw [show d - s + s - 1 = s - 1 by omega, Nat.div_eq_of_lt (show s - 1 < s by omega), show d + s - 1 = (d - 1) + s by omega, Nat.add_div_right _ (by omega), Nat.div_eq_of_lt (show d - 1 < s by omega)]
theorem wN_le {d s : Nat} : wN d s ≤ d + s := by
  unfold wN
  exact Nat.le_trans (Nat.div_le_self _ _) (by omega)
theorem dst_step (a t s : Nat) : dst (nearS a t s) t = dst a t - s := by
  unfold dst nearS
  split <;> split <;> omega
section RR'
variable {fl : Nat} {len : Nat → Nat} {X X1 : Xm} {I I1 I2 I3 : Im} {p q b : Nat} {S S' T : Nat → Nat} {K : Nat} {w w' : Nat → Nat}
theorem p_readyA (hfl : 10000 ≤ fl) (hL : LG len b) (h144 : gR X 144 (b + 799) = some (b + 799 + 1)) (h148 : gR X 148 (b + 799) = some (b + 804)) {r t : Nat} (hr : r < 4) (ht : t ≤ 360) : ∀ (m v n : Nat) (S : Nat → Nat), Bn S → 1 ≤ S 0 → S (128 + 4 * r) ≤ 360 → S (128 + 4 * r + 1) = 0 → wN (dst (S (128 + 4 * r)) t) (S 0) = m → m < n → v + m < 10000 → ∃ T, Bn T ∧ m9_readyIn_25 fl len X n (mS I (b + 799 + 1) S) (b + 799) (nI r) (nI t) (nI v) = some (nI (v + m), cpR (mS I (b + 799 + 1) T) (b + 800) 0 (b + 804) 1620) := by
  have hl : len (b + 799 + 1) = 1620 := hL.2.1.1
  intro m
  induction m with
  | zero =>
    intro v n S hB h0 hp hpl hw hn hv
    obtain ⟨n, rfl⟩ : ∃ n', n = n' + 1 := ⟨n - 1, by omega⟩
    have he : S (128 + 4 * r) = t := by
      by_cases e : dst (S (128 + 4 * r)) t = 0
      · unfold dst at e; omega
      · rw [wN_s h0 e] at hw; omega
    refine ⟨S, hB, ?_⟩
    show m9_readyIn_25b fl len X (m9_readyIn_25 fl len X n) _ _ _ _ _ = _
    rw [m9_readyIn_25b, L1, L0, p_reel h144 hl hr (by omega), nn_s, hpl, if_neg (by decide), p_reel h144 hl hr (by omega), nn_s, Nat.add_zero, he, if_pos rfl, p_back hfl h144 h148 hl hL.2.1.2.2.2.2.1, nn_s]
    rfl
  | succ m ih =>
    intro v n S hB h0 hp hpl hw hn hv
    obtain ⟨n, rfl⟩ : ∃ n', n = n' + 1 := ⟨n - 1, by omega⟩
    have he : dst (S (128 + 4 * r)) t ≠ 0 := fun e => by rw [e, wN_0 h0] at hw; omega
    have hne : S (128 + 4 * r) ≠ t := fun e => he (by unfold dst; omega)
    have hG : goS S r = S := by unfold goS; rw [if_pos hpl]
    have hW : windS S r t = upN S (128 + 4 * r) (nearS (S (128 + 4 * r)) t (S 0)) := by unfold windS; rw [if_pos hpl]
    have hnl := nearS_le (s := S 0) hp ht
    obtain ⟨T, hT, e⟩ := ih (v + 1) n (windS S r t) (by rw [hW]; exact hB.up (by omega)) (by rw [hW, upN_ne (by omega)]; exact h0) (by rw [hW, upN_eq]; exact hnl) (by rw [hW, upN_ne (by omega)]; exact hpl) (by
      rw [hW, upN_eq, upN_ne (by omega), dst_step]
      rw [wN_s h0 he] at hw
      omega) (by omega) (by omega)
    refine ⟨T, hT, ?_⟩
    rw [show v + (m + 1) = v + 1 + m by omega, ← e]
    show m9_readyIn_25b fl len X (m9_readyIn_25 fl len X n) _ _ _ _ _ = _
    rw [m9_readyIn_25b, L1, L0, p_reel h144 hl hr (by omega), nn_s, hpl, if_neg (by decide), p_reel h144 hl hr (by omega), nn_s, Nat.add_zero, if_neg (by rw [nI_eq (by omega) (by omega)]; exact hne), m9_readyIn_44, p_goesOn h144 hl hr hB (fun q => absurd hpl q), nn_s, hG, p_winds h144 hl hr hB (by omega), nn_s, L1, nI_add, lt_e]
theorem p_readyB (hfl : 10000 ≤ fl) (hL : LG len b) (h144 : gR X 144 (b + 799) = some (b + 799 + 1)) (h148 : gR X 148 (b + 799) = some (b + 804)) {r t : Nat} (hr : r < 4) (ht : t ≤ 360) : ∀ (l v n : Nat) (S : Nat → Nat), Bn S → 1 ≤ S 0 → S 0 ≤ 20 → S (128 + 4 * r) + S (128 + 4 * r + 2) ≤ 360 → S (128 + 4 * r + 1) ≠ 0 → S (128 + 4 * r + 2) = l + 1 → l + 500 < n → v + l < 9000 → ∃ T, Bn T ∧ m9_readyIn_25 fl len X n (mS I (b + 799 + 1) S) (b + 799) (nI r) (nI t) (nI v) = some (nI (v + (l + 1) + (wN (dst (S (128 + 4 * r) + (l + 1)) t) (S 0) - 1)), cpR (mS I (b + 799 + 1) T) (b + 800) 0 (b + 804) 1620) := by
  have hl : len (b + 799 + 1) = 1620 := hL.2.1.1
  intro l
  induction l with
  | zero =>
    intro v n S hB h0 h20 hp hpl hw hn hv
    obtain ⟨n, rfl⟩ : ∃ n', n = n' + 1 := ⟨n - 1, by omega⟩
    have hG : goS S r = upN (upN (upN S (128 + 4 * r) (S (128 + 4 * r) + 1)) (128 + 4 * r + 2) 0) (128 + 4 * r + 1) 0 := by
      unfold goS
      rw [if_neg hpl, hw, if_pos (by omega)]
    have g0 : goS S r (128 + 4 * r) = S (128 + 4 * r) + 1 := by rw [hG, upN_ne (by omega), upN_ne (by omega), upN_eq]
    have g1 : goS S r (128 + 4 * r + 1) = 0 := by rw [hG, upN_eq]
    have gs : goS S r 0 = S 0 := by rw [hG, upN_ne (by omega), upN_ne (by omega), upN_ne (by omega)]
    have hGB : Bn (goS S r) := by rw [hG]; exact ((hB.up (by omega)).up (by omega)).up (by omega)
    have hW : windS (goS S r) r t = upN (goS S r) (128 + 4 * r) (nearS (S (128 + 4 * r) + 1) t (S 0)) := by unfold windS; rw [if_pos g1, g0, gs]
    have hnl := nearS_le (s := S 0) (show S (128 + 4 * r) + 1 ≤ 360 by omega) ht
    have hdl : dst (S (128 + 4 * r) + 1) t ≤ 800 := by unfold dst; omega
    have em : wN (dst (nearS (S (128 + 4 * r) + 1) t (S 0)) t) (S 0) = wN (dst (S (128 + 4 * r) + 1) t) (S 0) - 1 := by
      rw [dst_step]
      by_cases e : dst (S (128 + 4 * r) + 1) t = 0
      · rw [e, Nat.zero_sub, wN_0 h0]
      · rw [wN_s h0 e]; omega
    have hwl : wN (dst (S (128 + 4 * r) + 1) t) (S 0) ≤ 400 := by
      have h1 := wN_le (d := dst (S (128 + 4 * r) + 1) t) (s := S 0)
      have h2 : dst (S (128 + 4 * r) + 1) t ≤ 360 := by unfold dst; omega
      omega
    obtain ⟨T, hT, e⟩ := p_readyA (I := I) hfl hL h144 h148 hr ht (wN (dst (S (128 + 4 * r) + 1) t) (S 0) - 1) (v + 1) n (windS (goS S r) r t) (by rw [hW]; exact hGB.up (by omega)) (by rw [hW, upN_ne (by omega), gs]; exact h0) (by rw [hW, upN_eq]; exact hnl) (by rw [hW, upN_ne (by omega)]; exact g1) (by rw [hW, upN_eq, upN_ne (by omega), gs]; exact em) (by omega) (by omega)
    refine ⟨T, hT, ?_⟩
    rw [show v + (0 + 1) + (wN (dst (S (128 + 4 * r) + (0 + 1)) t) (S 0) - 1) = v + 1 + (wN (dst (S (128 + 4 * r) + 1) t) (S 0) - 1) from rfl, ← e]
    have hb1 := hB (128 + 4 * r + 1)
    show m9_readyIn_25b fl len X (m9_readyIn_25 fl len X n) _ _ _ _ _ = _
    rw [m9_readyIn_25b, L1, L0, p_reel h144 hl hr (by omega), nn_s, if_pos (by rw [nI_ltI (by omega) (by omega)]; omega), m9_readyIn_44, p_goesOn h144 hl hr hB (fun _ => by omega), nn_s, p_winds h144 hl hr hGB (by omega), nn_s, L1, nI_add, lt_e]
  | succ l ih =>
    intro v n S hB h0 h20 hp hpl hw hn hv
    obtain ⟨n, rfl⟩ : ∃ n', n = n' + 1 := ⟨n - 1, by omega⟩
    have hG : goS S r = upN (upN (upN S (128 + 4 * r) (S (128 + 4 * r) + 1)) (128 + 4 * r + 2) (l + 1)) (128 + 4 * r + 1) (S (128 + 4 * r + 1)) := by
      unfold goS
      rw [if_neg hpl, hw, if_neg (by omega), Nat.add_sub_cancel]
    have g0 : goS S r (128 + 4 * r) = S (128 + 4 * r) + 1 := by rw [hG, upN_ne (by omega), upN_ne (by omega), upN_eq]
    have g1 : goS S r (128 + 4 * r + 1) = S (128 + 4 * r + 1) := by rw [hG, upN_eq]
    have g2 : goS S r (128 + 4 * r + 2) = l + 1 := by rw [hG, upN_ne (by omega), upN_eq]
    have gs : goS S r 0 = S 0 := by rw [hG, upN_ne (by omega), upN_ne (by omega), upN_ne (by omega)]
    have hGB : Bn (goS S r) := by rw [hG]; exact ((hB.up (by omega)).up (by omega)).up (hB _)
    have hW : windS (goS S r) r t = goS S r := by unfold windS; rw [if_neg (by rw [g1]; exact hpl)]
    obtain ⟨T, hT, e⟩ := ih (v + 1) n (goS S r) hGB (by rw [gs]; exact h0) (by rw [gs]; exact h20) (by rw [g0, g2]; omega) (by rw [g1]; exact hpl) g2 (by omega) (by omega)
    refine ⟨T, hT, ?_⟩
    rw [g0, gs] at e
    rw [show v + (l + 1 + 1) = v + 1 + (l + 1) by omega, show S (128 + 4 * r) + (l + 1 + 1) = S (128 + 4 * r) + 1 + (l + 1) by omega, ← e]
    have hb1 := hB (128 + 4 * r + 1)
    show m9_readyIn_25b fl len X (m9_readyIn_25 fl len X n) _ _ _ _ _ = _
    rw [m9_readyIn_25b, L1, L0, p_reel h144 hl hr (by omega), nn_s, if_pos (by rw [nI_ltI (by omega) (by omega)]; omega), m9_readyIn_44, p_goesOn h144 hl hr hB (fun _ => by omega), nn_s, p_winds h144 hl hr hGB (by omega), nn_s, hW, L1, nI_add, lt_e]
theorem nI_abs {a c : Nat} (ha : a < 10000) (hc : c < 10000) : (if (0 : Int32) ≤ nI a - nI c then nI a - nI c else 0 - (nI a - nI c)) = nI (dst a c) := by
  have hi : (nI a - nI c).toInt = (a : Int) - c := by
    rw [Int32.toInt_sub, nI_toInt (by omega), nI_toInt (by omega), Int.bmod_def]; omega
  by_cases h : c ≤ a
  · rw [if_pos (by rw [Int32.le_iff_toInt_le, hi, Int32.toInt_zero]; omega), nI_sub h]
    unfold dst
    congr 1
    omega
  · rw [if_neg (by rw [Int32.le_iff_toInt_le, hi, Int32.toInt_zero]; omega)]
    refine Int32.toInt_inj.mp ?_
    rw [Int32.toInt_sub, hi, Int32.toInt_zero, Int.bmod_def, nI_toInt (by unfold dst; omega)]
    unfold dst
    omega
theorem st_readyIn (hfl : 10000 ≤ fl) (hL : LG len b) : St_readyIn fl len b (b + 799) (Rel b) := by
  intro I X a1 a2 ⟨sg, W, S, K, n, Hs, Hk, sv, Ss, Sk, t, tx, h⟩
  have p0 := h.1.2.2.2.1 0 (by omega)
  obtain ⟨hX, hC⟩ := h.1.2.2.2.2.2.1 _ p0.p
  have hN := hL.2.2 _ p0.p
  have hv := h.2.1.1
  have hc := h.2.1.2.1
  have hM := h.2.1.2.2
  have m := h.1.2.2.2.2.2.2
  have hl : len (b + 799 + 1) = 1620 := hL.2.1.1
  have pt : isP b (b + 73) := Or.inr (Or.inl rfl)
  rcases zc a1 4 (by omega) with ⟨r, hr, rfl⟩ | hb
  · have hRR := hc.2.2.2.2.2.2.1 r hr
    have hm6 := hv.m6.2 r hr
    rcases zc a2 (S (128 + 4 * r + 3)) (by omega) with ⟨k, hk, rfl⟩ | hb
    · obtain ⟨⟨e1, e2, e3, e4⟩, e5⟩ := hRR
      obtain ⟨-, -, c114, -⟩ := e5 k hk
      have iR := hv.2.2.2.1 r hr
      have hbeg := begS_le60 hv.2.2.2.2.1 hr k (by omega)
      have hA := hv.1
      have hS0 := hA.1
      have hB := hv.2.2.2.2.2.2.2.2
      have hdl : dst (S (128 + 4 * r) + S (128 + 4 * r + 2)) (begS S r k) ≤ 360 := by unfold dst; omega
      have hwl := wN_le (d := dst (S (128 + 4 * r) + S (128 + 4 * r + 2)) (begS S r k)) (s := S 0)
      have hrow := aside_row (I := I) hM
      -- the reference
      obtain ⟨T, hT, e9⟩ : ∃ T, Bn T ∧ m9_readyIn_25 fl len X fl (mS (cpR I (b + 804) 0 (b + 800) 1620) (b + 799 + 1) S) (b + 799) (nI r) (nI (begS S r k)) (nI 0) = some (nI (S (128 + 4 * r + 2) + (if S (128 + 4 * r + 2) = 0 then wN (dst (S (128 + 4 * r) + S (128 + 4 * r + 2)) (begS S r k)) (S 0) else wN (dst (S (128 + 4 * r) + S (128 + 4 * r + 2)) (begS S r k)) (S 0) - 1)), cpR (mS (cpR I (b + 804) 0 (b + 800) 1620) (b + 799 + 1) T) (b + 800) 0 (b + 804) 1620) := by
        by_cases hp : S (128 + 4 * r + 1) = 0
        · have hz := iR.2.2.1.mp hp
          rw [hz, Nat.add_zero] at hwl hdl
          obtain ⟨T, hT, e⟩ := p_readyA (I := cpR I (b + 804) 0 (b + 800) 1620) (r := r) (t := begS S r k) hfl hL m.1 m.2.2.2.2.1 hr (by omega) _ 0 fl S hB hS0.1 (by omega) hp rfl (by omega) (by omega)
          refine ⟨T, hT, ?_⟩
          rw [e, hz, if_pos rfl]
          rfl
        · have hz : S (128 + 4 * r + 2) ≠ 0 := fun q => hp (iR.2.2.1.mpr q)
          obtain ⟨l, hl'⟩ : ∃ l, S (128 + 4 * r + 2) = l + 1 := ⟨S (128 + 4 * r + 2) - 1, by omega⟩
          obtain ⟨T, hT, e⟩ := p_readyB (I := cpR I (b + 804) 0 (b + 800) 1620) (r := r) (t := begS S r k) hfl hL m.1 m.2.2.2.2.1 hr (by omega) l 0 fl S hB hS0.1 hS0.2 (by omega) hp hl' (by omega) (by omega)
          refine ⟨T, hT, ?_⟩
          rw [e, if_neg hz, hl', Nat.zero_add]
      refine ⟨nI (S (128 + 4 * r + 2) + (if S (128 + 4 * r + 2) = 0 then wN (dst (S (128 + 4 * r) + S (128 + 4 * r + 2)) (begS S r k)) (S 0) else wN (dst (S (128 + 4 * r) + S (128 + 4 * r + 2)) (begS S r k)) (S 0) - 1)), _, ?_, ?_, h.asked Fr.rfl hT (fun _ _ => rfl) (fun _ _ _ => rfl) (h.1.2.2.2.2.2.1 _ pt).2⟩
      · have es : (if (1 : Int32) < nI (S 0) then nI (S 0) else (1 : Int32)) = nI (S 0) := by
          by_cases q : 1 < S 0
          · rw [if_pos (by rw [L1, nI_ltI (by omega) (by omega)]; exact q)]
          · rw [if_neg (by rw [L1, nI_ltI (by omega) (by omega)]; exact q), show S 0 = 1 by omega]; rfl
        rw [m8_readyIn, h.1.1.1, nn_s, q_reel hX hN hr, nn_s, q_sAt hX hN hr (hc.2.2.2.2.2.2.1 r hr) hm6 hk, nn_s, if_neg (by simp), if_neg (by simp), hX.1.1, nn_s, hN.1.1, show (0 : Int32) = nI 0 from rfl, ck_inb _ (by omega) (by omega), nI_clamp (by omega), hc.1 0 (by omega), es, lt_e, nn_s, nn_s, e2, e4, c114, nI_add, show nI 0 = (0 : Int32) from rfl, nI_abs (by omega) (by omega), lt_e, ck_t _ (show ¬ nI (S 0) = (0 : Int32) by rw [L0, nI_eq (by omega) (by omega)]; omega), nI_add, L1, nI_sub (by omega), nI_div (by omega) (by omega), lt_e]

        rw [show (dst (S (128 + 4 * r) + S (128 + 4 * r + 2)) (begS S r k) + S 0 - 1) / S 0 = wN (dst (S (128 + 4 * r) + S (128 + 4 * r + 2)) (begS S r k)) (S 0) from rfl]
        by_cases hz : S (128 + 4 * r + 2) = 0
        · rw [if_pos (by rw [hz]; decide), m8_readyIn_102, m8_readyIn_109, e4, nI_add, if_pos hz]
        · rw [if_neg (by rw [L0, nI_leI (by omega) (by omega)]; omega), if_neg hz]
          by_cases hw : wN (dst (S (128 + 4 * r) + S (128 + 4 * r + 2)) (begS S r k)) (S 0) = 0
          · rw [hw, if_pos (by decide), m8_readyIn_102, m8_readyIn_109, e4, nI_add]
          · rw [if_neg (by rw [L0, nI_leI (by omega) (by omega)]; omega), m8_readyIn_109, nI_add, nI_sub (by omega)]
            congr 2
            omega
      · rw [m9_readyIn, show m9_isSound fl len X I (b + 799) (nI r) (nI k) = some (1 : Int32) by rw [← mS_self hM]; exact p_isSound1 m.1 hl hr hk hm6, nn_s, if_neg (by decide), p_aside hfl m.1 m.2.2.2.2.1 hl hL.2.1.2.2.2.2.1, nn_s, show m9_beginning fl len X (cpR I (b + 804) 0 (b + 800) 1620) (b + 799) (nI r) (nI k) = some (nI (begS S r k)) by rw [hrow]; exact p_beginning hfl m.1 hl hr (by omega), nn_s]
        rw [← hrow] at e9
        exact e9
    · refine ⟨-1, I, ?_, ?_, Rel.of h⟩
      · rw [m8_readyIn, h.1.1.1, nn_s, q_reel hX hN hr, nn_s, q_sAt0 hX hN hr hRR hm6 hb, nn_s, if_neg (by simp), if_pos rfl]
        rfl
      · rw [m9_readyIn, show m9_isSound fl len X I (b + 799) (nI r) a2 = some (0 : Int32) by rw [← mS_self hM]; exact p_isSound0 m.1 hl hr hb hm6, nn_s, if_pos (by decide)]
  · refine ⟨-1, I, ?_, ?_, Rel.of h⟩
    · rw [m8_readyIn, h.1.1.1, nn_s, q_reel0 hX hN hb, nn_s, q_sAt00 hX hN hb, nn_s, if_pos rfl]
      rfl
    · rw [m9_readyIn, p_isSound00 hb, nn_s, if_pos (by decide)]
end RR'
