/-! ===== counting, on both sides ===== -/
def bad (n : Nat) (z : Int32) : Prop := z < 0 ∨ (¬ z < 0 ∧ nI n ≤ z)
def cntC (S : Nat → Nat) (v : Nat) : Nat → Nat
  | 0 => 0
  | c + 1 => cntC S v c + (if S (8 + 5 * c + 4) = v then 1 else 0)
def cntD (S : Nat → Nat) (v : Nat) : Nat → Nat
  | 0 => 0
  | d + 1 => cntD S v d + (if S (224 + 3 * d) = v then 1 else 0)
def lof (S : Nat → Nat) (f : Nat) : Nat → Option Nat
  | 0 => none
  | k + 1 => match lof S f k with
    | none => some (f + k)
    | some b => if S (320 + (f + k)) ≤ S (320 + b) then some b else some (f + k)
def tlo (S : Nat → Nat) (f : Nat) : Nat → Nat
  | 0 => 0
  | k + 1 => tlo S f k + (if S (320 + (f + k)) ≤ S 3 then 0 else 1)
def pbS (S : Nat → Nat) : Nat → Int32
  | 0 => 0
  | r + 1 => if S (128 + 4 * r + 1) = 0 then pbS S r else pbS S r ||| ((1 : Int32) <<< (nI r &&& 31))
theorem lof_lt {S : Nat → Nat} {f : Nat} : ∀ {k b : Nat}, lof S f k = some b → f ≤ b ∧ b < f + k
  | 0, b, h => by simp [lof] at h
  | k + 1, b, h => by
    unfold lof at h
    cases hx : lof S f k with
    | none =>
      rw [hx] at h
      simp only at h
      cases h
      omega
    | some c =>
      rw [hx] at h
      simp only at h
      have := lof_lt hx
      split at h <;> cases h <;> omega
theorem cntC_le (S : Nat → Nat) (v : Nat) : ∀ n, cntC S v n ≤ n
  | 0 => Nat.le_refl _
  | n + 1 => by
    have := cntC_le S v n
    show cntC S v n + _ ≤ _
    split <;> omega
section RB
variable {fl : Nat} {len : Nat → Nat} {X : Xm} {I : Im} {p q : Nat} {S : Nat → Nat} {K : Nat} {w : Nat → Nat}
theorem sub1_toInt {n : Nat} (hn : n ≤ 10000) : (nI n - nI 1).toInt = (n : Int) - 1 := by
  rw [Int32.toInt_sub, nI_toInt (by omega), nI_toInt (by omega), Int.bmod_def]; omega
/-! how many cues have a state -/
theorem q_countOf (hfl : 10000 ≤ fl) (hX : XS X p) (hL : LN len p) (hC : XC X p w) (h2 : gF I 97 (p + 2) = nI (S 5)) (h5 : D5 I S w) (hB : Bn S) (h5l : S 5 ≤ 24) {v : Nat} (hv : v < 100) : m6_countOf fl len X I (p + 2) (nI v) = some (nI (cntC S v (S 5))) := by
  have key : ∀ (j c n : Nat), c + j = S 5 → j < n → m6_countOf_4 fl len X I n (p + 2) (nI v) (nI (cntC S v c)) (nI c) = some (nI (cntC S v (S 5))) := by
    intro j
    induction j with
    | zero =>
      intro c n hj hn
      obtain ⟨n, rfl⟩ : ∃ n', n = n' + 1 := ⟨n - 1, by omega⟩
      show m6_countOf_4b fl len X I (m6_countOf_4 fl len X I n) _ _ _ _ = _
      rw [m6_countOf_4b, m6_countOf_43, h2, if_pos (by rw [nI_leI (by omega) (by omega)]; omega), show c = S 5 by omega]
    | succ j ih =>
      intro c n hj hn
      obtain ⟨n, rfl⟩ : ∃ n', n = n' + 1 := ⟨n - 1, by omega⟩
      have ih := ih (c + 1) n (by omega) (by omega)
      have n4 := hB (8 + 5 * c + 4)
      have e : cntC S v (c + 1) = cntC S v c + (if S (8 + 5 * c + 4) = v then 1 else 0) := rfl
      rw [e] at ih
      show m6_countOf_4b fl len X I (m6_countOf_4 fl len X I n) _ _ _ _ = _
      rw [m6_countOf_4b, h2, if_neg (by rw [nI_leI (by omega) (by omega)]; omega), hX.1.2.2.2.2.2.2.2.1, nn_s, hL.1.2.1, if_neg (by rw [nI_leI (by omega) (by omega)]; omega), ck_inb _ (by omega) (by omega), nI_clamp (by omega), (hC c (by omega)).1, nn_s, (h5 c (by omega)).2.2.2.2, lt_e, m6_countOf_37, m6_countOf_37, lt_e, lt_e, L1, nI_add, nI_add]
      by_cases hs : S (8 + 5 * c + 4) = v
      · rw [if_pos (by rw [hs])]; rw [if_pos hs] at ih; exact ih
      · rw [if_neg (by rw [nI_eq (by omega) (by omega)]; exact hs)]; rw [if_neg hs] at ih; exact ih
  have e := key (S 5) 0 fl (by omega) (by omega)
  exact e
/-! doors on a channel -/
theorem q_countOn (hfl : 10000 ≤ fl) (hX : XS X p) (hL : LN len p) (h6 : D6 I p S) (hB : Bn S) (h6l : S 6 ≤ 24) {v : Nat} (hv : v < 100) : m2_countOn fl len X I (p + 30) (nI v) = some (nI (cntD S v (S 6))) := by
  have key : ∀ (j d n : Nat), d + j = S 6 → j < n → m2_countOn_4 fl len X I n (p + 30) (nI v) (nI (cntD S v d)) (nI d) = some (nI (cntD S v (S 6))) := by
    intro j
    induction j with
    | zero =>
      intro d n hj hn
      obtain ⟨n, rfl⟩ : ∃ n', n = n' + 1 := ⟨n - 1, by omega⟩
      show m2_countOn_4b fl len X I (m2_countOn_4 fl len X I n) _ _ _ _ = _
      rw [m2_countOn_4b, m2_countOn_37, h6.1, if_pos (by rw [nI_leI (by omega) (by omega)]; omega), show d = S 6 by omega]
    | succ j ih =>
      intro d n hj hn
      obtain ⟨n, rfl⟩ : ∃ n', n = n' + 1 := ⟨n - 1, by omega⟩
      have ih := ih (d + 1) n (by omega) (by omega)
      have n4 := hB (224 + 3 * d)
      have e : cntD S v (d + 1) = cntD S v d + (if S (224 + 3 * d) = v then 1 else 0) := rfl
      rw [e] at ih
      show m2_countOn_4b fl len X I (m2_countOn_4 fl len X I n) _ _ _ _ = _
      rw [m2_countOn_4b, h6.1, if_neg (by rw [nI_leI (by omega) (by omega)]; omega), L24, if_neg (by rw [nI_leI (by omega) (by omega)]; omega), hX.1.2.2.2.2.2.2.2.2.1, nn_s, hL.1.2.2.2.2.1, ck_inb _ (by omega) (by omega), nI_clamp (by omega), (h6.2 d (by omega)).1, lt_e, m2_countOn_31, m2_countOn_31, lt_e, lt_e, L1, nI_add, nI_add]
      by_cases hs : S (224 + 3 * d) = v
      · rw [if_pos (by rw [hs])]; rw [if_pos hs] at ih; exact ih
      · rw [if_neg (by rw [nI_eq (by omega) (by omega)]; exact hs)]; rw [if_neg hs] at ih; exact ih
  have e := key (S 6) 0 fl (by omega) (by omega)
  exact e
/-! the loudest second, and the too loud ones -/
theorem q_loudest (hfl : 10000 ≤ fl) (hX : XS X p) (hL : LN len p) (h72 : gF I 72 p = nI (S 4)) (h8 : D8 I p S) (hB : Bn S) (h4 : S 4 ≤ 1200) : m4_loudestSecond fl len X I p = some (oI (lof S 0 (S 4))) := by
  have key : ∀ (j k n : Nat) (z : Int32), k + j = S 4 → j < n → (∀ b, lof S 0 k = some b → z = nI (S (320 + b))) → m4_loudestSecond_7 fl len X I n p (oI (lof S 0 k)) z (nI k) = some (oI (lof S 0 (S 4))) := by
    intro j
    induction j with
    | zero =>
      intro k n z hj hn hz
      obtain ⟨n, rfl⟩ : ∃ n', n = n' + 1 := ⟨n - 1, by omega⟩
      show m4_loudestSecond_7b fl len X I (m4_loudestSecond_7 fl len X I n) _ _ _ _ = _
      rw [m4_loudestSecond_7b, m4_loudestSecond_55, h72, if_pos (by rw [nI_leI (by omega) (by omega)]; omega), show k = S 4 by omega]
    | succ j ih =>
      intro k n z hj hn hz
      obtain ⟨n, rfl⟩ : ∃ n', n = n' + 1 := ⟨n - 1, by omega⟩
      have e8 := h8 k (by omega)
      show m4_loudestSecond_7b fl len X I (m4_loudestSecond_7 fl len X I n) _ _ _ _ = _
      rw [m4_loudestSecond_7b, h72, if_neg (by rw [nI_leI (by omega) (by omega)]; omega), hX.1.2.2.2.2.2.2.1, nn_s, hL.1.2.2.2.2.2.2.2.2, if_neg (by rw [nI_leI (by omega) (by omega)]; omega), m4_loudestSecond_40, hL.1.2.2.2.2.2.2.2.2, ck_inb _ (by omega) (by omega), nI_clamp (by omega), e8, lt_e, m4_loudestSecond_49, m4_loudestSecond_49, lt_e, lt_e, L1, nI_add]
      cases hx : lof S 0 k with
      | none =>
        have e : lof S 0 (k + 1) = some k := by unfold lof; rw [hx]; simp
        have ih := ih (k + 1) n (nI (S (320 + k))) (by omega) (by omega) (fun b hb => by rw [e] at hb; cases hb; rfl)
        rw [e] at ih
        rw [if_pos (show oI none = (-6 : Int32) from rfl)]
        exact ih
      | some b =>
        have hb := lof_lt hx
        have n1 := hB (320 + k)
        have n2 := hB (320 + b)
        have e : lof S 0 (k + 1) = if S (320 + k) ≤ S (320 + b) then some b else some k := by
          conv => lhs; unfold lof
          rw [hx]; simp
        have ez := hz b hx
        rw [show oI (some b) = nI b from rfl, if_neg (nI_m6 (by omega)), ck_inb _ (by omega) (by omega), ez]
        by_cases hle : S (320 + k) ≤ S (320 + b)
        · have ih := ih (k + 1) n (nI (S (320 + b))) (by omega) (by omega) (fun c hc => by rw [e, if_pos hle] at hc; cases hc; rfl)
          rw [e, if_pos hle] at ih
          rw [if_pos (by rw [nI_leI (by omega) (by omega)]; exact hle)]
          exact ih
        · have ih := ih (k + 1) n (nI (S (320 + k))) (by omega) (by omega) (fun c hc => by rw [e, if_neg hle] at hc; cases hc; rfl)
          rw [e, if_neg hle] at ih
          rw [if_neg (by rw [nI_leI (by omega) (by omega)]; exact hle)]
          exact ih
  have e := key (S 4) 0 fl (0 : Int32) (by omega) (by omega) (fun b hb => by simp [lof] at hb)
  exact e
theorem q_tooLoud (hfl : 10000 ≤ fl) (hX : XS X p) (hL : LN len p) (h72 : gF I 72 p = nI (S 4)) (h8 : D8 I p S) (h1 : D1 I p S) (hB : Bn S) (h4 : S 4 ≤ 1200) : m4_tooLoudSeconds fl len X I p = some (nI (tlo S 0 (S 4))) := by
  have key : ∀ (j k n : Nat), k + j = S 4 → j < n → m4_tooLoudSeconds_4 fl len X I n p (nI (tlo S 0 k)) (nI k) = some (nI (tlo S 0 (S 4))) := by
    intro j
    induction j with
    | zero =>
      intro k n hj hn
      obtain ⟨n, rfl⟩ : ∃ n', n = n' + 1 := ⟨n - 1, by omega⟩
      show m4_tooLoudSeconds_4b fl len X I (m4_tooLoudSeconds_4 fl len X I n) _ _ _ = _
      rw [m4_tooLoudSeconds_4b, m4_tooLoudSeconds_45, h72, if_pos (by rw [nI_leI (by omega) (by omega)]; omega), show k = S 4 by omega]
    | succ j ih =>
      intro k n hj hn
      obtain ⟨n, rfl⟩ : ∃ n', n = n' + 1 := ⟨n - 1, by omega⟩
      have ih := ih (k + 1) n (by omega) (by omega)
      have n1 := hB (320 + k)
      have n2 := hB 3
      have e : tlo S 0 (k + 1) = tlo S 0 k + (if S (320 + k) ≤ S 3 then 0 else 1) := by
        show tlo S 0 k + (if S (320 + (0 + k)) ≤ S 3 then 0 else 1) = _
        rw [Nat.zero_add]
      rw [e] at ih
      show m4_tooLoudSeconds_4b fl len X I (m4_tooLoudSeconds_4 fl len X I n) _ _ _ = _
      rw [m4_tooLoudSeconds_4b, h72, if_neg (by rw [nI_leI (by omega) (by omega)]; omega), hX.1.2.2.2.2.2.2.1, nn_s, hL.1.2.2.2.2.2.2.2.2, if_neg (by rw [nI_leI (by omega) (by omega)]; omega), ck_inb _ (by omega) (by omega), hX.1.1, nn_s, hL.1.1, L3, ck_inb _ (by omega) (by omega), nI_clamp (by omega), nI_clamp (by omega), h8 k (by omega), h1 3 (by omega), lt_e, m4_tooLoudSeconds_39, m4_tooLoudSeconds_39, lt_e, lt_e, L1, nI_add, nI_add]
      by_cases hs : S (320 + k) ≤ S 3
      · rw [if_pos (by rw [nI_leI (by omega) (by omega)]; exact hs)]; rw [if_pos hs] at ih; exact ih
      · rw [if_neg (by rw [nI_leI (by omega) (by omega)]; exact hs)]; rw [if_neg hs] at ih; exact ih
  have e := key (S 4) 0 fl (by omega) (by omega)
  exact e
/-! which reels play -/
theorem q_playing (hfl : 10000 ≤ fl) (hX : XS X p) (hL : LN len p) (h9 : D9 I p S) (hB : Bn S) : m4_playingReels fl len X I p = some (pbS S 4) := by
  have key : ∀ (j r n : Nat), r + j = 4 → j < n → m4_playingReels_4 fl len X I n p (pbS S r) (nI r) = some (pbS S 4) := by
    intro j
    induction j with
    | zero =>
      intro r n hj hn
      obtain ⟨n, rfl⟩ : ∃ n', n = n' + 1 := ⟨n - 1, by omega⟩
      show m4_playingReels_4b fl len X I (m4_playingReels_4 fl len X I n) _ _ _ = _
      rw [m4_playingReels_4b, hX.1.2.2.1, nn_s, hL.1.2.2.1, if_pos (by rw [nI_leI (by omega) (by omega)]; omega), show r = 4 by omega]
    | succ j ih =>
      intro r n hj hn
      obtain ⟨n, rfl⟩ : ∃ n', n = n' + 1 := ⟨n - 1, by omega⟩
      have ih := ih (r + 1) n (by omega) (by omega)
      have n1 := hB (128 + 4 * r + 1)
      have e : pbS S (r + 1) = if S (128 + 4 * r + 1) = 0 then pbS S r else pbS S r ||| ((1 : Int32) <<< (nI r &&& 31)) := rfl
      rw [e] at ih
      show m4_playingReels_4b fl len X I (m4_playingReels_4 fl len X I n) _ _ _ = _
      rw [m4_playingReels_4b, hX.1.2.2.1, nn_s, hL.1.2.2.1, if_neg (by rw [nI_leI (by omega) (by omega)]; omega), ck_inb _ (by omega) (by omega), nI_clamp (by omega), (hX.2.1 r (by omega)).1, nn_s, (h9 r (by omega)).1.2.2.1, lt_e, m4_playingReels_33, m4_playingReels_33, lt_e, lt_e, nI_k1]
      by_cases hs : S (128 + 4 * r + 1) = 0
      · rw [if_pos ((plI_eq (by omega)).mpr hs)]; rw [if_pos hs] at ih; exact ih
      · rw [if_neg (fun q => hs ((plI_eq (by omega)).mp q))]; rw [if_neg hs] at ih; exact ih
  have e := key 4 0 fl (by omega) (by omega)
  exact e
end RB
