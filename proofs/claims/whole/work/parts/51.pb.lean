/-! ===== one second of the reference ===== -/
def Bn (S : Nat → Nat) : Prop := ∀ j, S j < 1000000
theorem Bn.lt {S : Nat → Nat} (h : Bn S) (j : Nat) : S j < 2 ^ 31 := Nat.lt_trans (h j) (by decide)
theorem Bn.up {S : Nat → Nat} {k v : Nat} (h : Bn S) (hv : v < 1000000) : Bn (upN S k v) := by
  intro j
  unfold upN
  split
  · exact hv
  · exact h j
theorem begS_lt {S : Nat → Nat} (h : Bn S) (r : Nat) : ∀ k, begS S r k ≤ k * 1000000
  | 0 => Nat.le_refl _
  | k + 1 => by
    have := begS_lt h r k
    have := h (144 + 3 * (6 * r + k))
    show begS S r k + _ ≤ _
    omega
theorem begS_31 {S : Nat → Nat} (h : Bn S) {r k : Nat} (hk : k ≤ 6) : begS S r k < 2 ^ 31 := by
  have := begS_lt h r k
  have : k * 1000000 ≤ 6 * 1000000 := Nat.mul_le_mul_right _ hk
  omega
theorem begS_congr {S S' : Nat → Nat} {r : Nat} : ∀ {k : Nat}, (∀ j, j < k → S' (144 + 3 * (6 * r + j)) = S (144 + 3 * (6 * r + j))) → begS S' r k = begS S r k
  | 0, _ => rfl
  | k + 1, h => by
    show begS S' r k + _ = begS S r k + _
    rw [begS_congr (fun j hj => h j (by omega)), h k (by omega)]
def nearS (a b s : Nat) : Nat := if a < b then (if b - a ≤ s then b else a + s) else (if a - b ≤ s then b else a - s)
theorem nearS_le {a b s m : Nat} (ha : a ≤ m) (hb : b ≤ m) : nearS a b s ≤ m := by
  unfold nearS
  split <;> split <;> omega
/-- a cue comes: its answer, and the state -/
def comeA (S : Nat → Nat) (c : Nat) : Nat :=
  if S (8 + 5 * c + 1) = 2 then 1 else if S (8 + 5 * c + 1) = 1 then 1 else if S (128 + 4 * S (8 + 5 * c + 2) + 1) = 0 then (if S (128 + 4 * S (8 + 5 * c + 2)) = begS S (S (8 + 5 * c + 2)) (S (8 + 5 * c + 3)) then 1 else 3) else 2
def comeS (S : Nat → Nat) (c : Nat) : Nat → Nat :=
  if S (8 + 5 * c + 1) = 2 then upN S (216 + 2 * S (8 + 5 * c + 2) + 1) (S (8 + 5 * c + 3)) else if S (8 + 5 * c + 1) = 1 then upN (upN (upN (upN S (224 + 3 * S 6) (S (8 + 5 * c + 2))) (224 + 3 * S 6 + 1) (S (8 + 5 * c + 3))) (224 + 3 * S 6 + 2) (S 1)) 6 (S 6 + 1) else if S (128 + 4 * S (8 + 5 * c + 2) + 1) = 0 then (if S (128 + 4 * S (8 + 5 * c + 2)) = begS S (S (8 + 5 * c + 2)) (S (8 + 5 * c + 3)) then startS S (S (8 + 5 * c + 2)) (S (8 + 5 * c + 3)) else S) else S
/-- what a cue must be -/
def okC (S : Nat → Nat) (c : Nat) : Prop := S (8 + 5 * c + 1) ≤ 2 ∧ S (8 + 5 * c + 2) ≤ 3 ∧ (S (8 + 5 * c + 1) = 0 → S (8 + 5 * c + 3) < S (128 + 4 * S (8 + 5 * c + 2) + 3))
section PB
variable {fl : Nat} {len : Nat → Nat} {X : Xm} {I : Im} {q : Nat} {S : Nat → Nat}
theorem p_comes (hfl : 10000 ≤ fl) (h144 : gR X 144 q = some (q + 1)) (hl : len (q + 1) = 1620) (hB : Bn S) {c : Nat} (hc : c < 24) (h1 : okC S c) (hm : ∀ r, r < 4 → S (128 + 4 * r + 3) ≤ 6) (h6 : S 6 < 24) (h7 : S 7 ≤ 24) (ht : ∀ j, j < 24 → S (144 + 3 * j + 2) < 1000) : m9_comes fl len X (mS I (q + 1) S) q (nI c) = some (nI (comeA S c), mS I (q + 1) (comeS S c)) := by
  obtain ⟨hk, hw, hv⟩ := h1
  have hw4 : S (8 + 5 * c + 2) < 4 := by omega
  unfold m9_comes comeA comeS
  simp (disch := first | omega | exact hB.lt _) only [L1, L2, L3, p_of h144 hl, nn_s, nI_eq]
  by_cases hk2 : S (8 + 5 * c + 1) = 2
  · simp (disch := omega) only [if_pos hk2, h144, nn_s, hl, L216, nI_mul, nI_add, ck_inb, nI_clamp, lt_e, pA_mS]
  · simp (disch := omega) only [if_neg hk2]
    by_cases hk1 : S (8 + 5 * c + 1) = 1
    · simp (disch := omega) only [if_pos hk1, h144, nn_s, hl, L6, L224, nI_mul, nI_add, ck_inb, nI_clamp, lt_e, pA_mS, gA_mS, upN_ne]
    · have hk0 : S (8 + 5 * c + 1) = 0 := by omega
      have hv := hv hk0
      have hm := hm _ hw4
      have ht := ht (6 * S (8 + 5 * c + 2) + S (8 + 5 * c + 3)) (by omega)
      simp (disch := first | omega | exact hB.lt _ | exact begS_31 hB (by omega)) only [if_neg hk1, L0, p_reel h144 hl, nn_s, nI_leI, p_beginning hfl h144 hl, nI_eq, p_starts h144 hl, Nat.le_zero, Nat.add_zero]
      split <;> rename_i hp
      · split <;> rename_i hq
        · rfl
        · rfl
      · rfl
theorem p_nearer {a b s : Nat} (ha : a < 2 ^ 30) (hb : b < 2 ^ 30) (hs : s < 2 ^ 30) : m9_nearer fl len X I (nI a) (nI b) (nI s) = some (nI (nearS a b s)) := by
  unfold m9_nearer m9_nearer_34 m9_nearer_19 nearS
  by_cases h : a < b
  · rw [if_neg (by rw [nI_leI (by omega) (by omega)]; omega), if_pos h]
    simp (disch := omega) only [nI_sub, nI_leI, nI_add]
    split <;> rfl
  · rw [if_pos (by rw [nI_leI (by omega) (by omega)]; omega), if_neg h]
    simp (disch := omega) only [nI_sub, nI_leI]
    split <;> rename_i hq
    · rfl
    · simp (disch := omega) only [nI_sub]
/-- what sounds and doors give -/
def giveS (S : Nat → Nat) (ch l : Nat) : Nat := l * S (216 + 2 * ch) / 50
def hreS (S : Nat → Nat) : Nat → Nat
  | 0 => 0
  | r + 1 => hreS S r + (if S (128 + 4 * r + 1) = 0 then 0 else giveS S r (S (144 + 3 * (6 * r + (S (128 + 4 * r + 1) - 1)) + 1)))
def hdoS (S : Nat → Nat) : Nat → Nat
  | 0 => 0
  | d + 1 => hdoS S d + giveS S (S (224 + 3 * d)) (S (224 + 3 * d + 1))
def hearS (S : Nat → Nat) : Nat := hreS S 4 + hdoS S (S 6)
theorem p_gives (h144 : gR X 144 q = some (q + 1)) (hl : len (q + 1) = 1620) {ch l : Nat} (hc : ch < 4) (hb : l * S (216 + 2 * ch) < 2 ^ 31) : m9_gives fl len X (mS I (q + 1) S) q (nI ch) (nI l) = some (nI (giveS S ch l)) := by
  unfold m9_gives giveS
  simp (disch := omega) only [h144, nn_s, L216, L2, L50, nI_mul, nI_add, hl, ck_inb, nI_clamp, gA_mS, nI_div]
/-- levels and loudnesses as they may be -/
def okH (S : Nat → Nat) : Prop := (∀ ch, ch < 4 → S (216 + 2 * ch) ≤ 100) ∧ (∀ r, r < 4 → S (128 + 4 * r + 1) ≤ 6 ∧ (S (128 + 4 * r + 1) ≠ 0 → S (144 + 3 * (6 * r + (S (128 + 4 * r + 1) - 1)) + 1) ≤ 99)) ∧ S 6 ≤ 24 ∧ ∀ d, d < S 6 → S (224 + 3 * d) ≤ 3 ∧ S (224 + 3 * d + 1) ≤ 99
theorem p_heard_57 (h144 : gR X 144 q = some (q + 1)) (hl : len (q + 1) = 1620) (hH : okH S) (z : Nat) : ∀ (j d n : Nat), d + j = S 6 → j < n → m9_heard_57 fl len X (mS I (q + 1) S) n q (nI (z + hdoS S d)) (nI d) = some (nI (z + hdoS S (S 6))) := by
  obtain ⟨hc, hr, h6, hd⟩ := hH
  intro j
  induction j with
  | zero =>
    intro d n hj hn
    obtain ⟨n, rfl⟩ : ∃ n', n = n' + 1 := ⟨n - 1, by omega⟩
    show m9_heard_57b fl len X _ _ q _ _ = _
    unfold m9_heard_57b
    simp (disch := omega) only [h144, nn_s, L6, hl, ck_inb, nI_clamp, gA_mS]
    rw [if_pos (by rw [nI_leI (by omega) (by omega)]; omega), show d = S 6 by omega]
  | succ j ih =>
    intro d n hj hn
    obtain ⟨n, rfl⟩ : ∃ n', n = n' + 1 := ⟨n - 1, by omega⟩
    have hd1 := hd d (by omega)
    have hc1 := hc (S (224 + 3 * d)) (by omega)
    have hm : S (224 + 3 * d + 1) * S (216 + 2 * S (224 + 3 * d)) ≤ 99 * 100 := Nat.mul_le_mul hd1.2 hc1
    show m9_heard_57b fl len X _ _ q _ _ = _
    unfold m9_heard_57b
    simp (disch := omega) only [h144, nn_s, L6, hl, ck_inb, nI_clamp, gA_mS]
    rw [if_neg (by rw [nI_leI (by omega) (by omega)]; omega)]
    simp (disch := omega) only [L224, L3, L1, nI_mul, nI_add, ck_inb, nI_clamp, gA_mS, p_gives h144 hl, nn_s, lt_e]
    rw [Nat.add_assoc z]
    exact ih (d + 1) n (by omega) (by omega)
theorem hreS_0 {r : Nat} (h : S (128 + 4 * r + 1) = 0) : hreS S (r + 1) = hreS S r := by
  show hreS S r + _ = _
  rw [if_pos h, Nat.add_zero]
theorem hreS_1 {r : Nat} (h : ¬ S (128 + 4 * r + 1) = 0) : hreS S (r + 1) = hreS S r + giveS S r (S (144 + 3 * (6 * r + (S (128 + 4 * r + 1) - 1)) + 1)) := by
  show hreS S r + _ = _
  rw [if_neg h]
theorem p_heard_4 (hfl : 10000 ≤ fl) (h144 : gR X 144 q = some (q + 1)) (hl : len (q + 1) = 1620) (hH : okH S) : ∀ (j r n : Nat), r + j = 4 → j < n → m9_heard_4 fl len X (mS I (q + 1) S) n q (nI (hreS S r)) (nI r) = some (nI (hearS S)) := by
  intro j
  induction j with
  | zero =>
    intro r n hj hn
    obtain ⟨n, rfl⟩ : ∃ n', n = n' + 1 := ⟨n - 1, by omega⟩
    show m9_heard_4b fl len X _ _ q _ _ = _
    unfold m9_heard_4b
    have hr4 : r = 4 := by omega
    rw [hr4, L4, if_pos (Int32.le_refl _)]
    have e := p_heard_57 (fl := fl) (I := I) h144 hl hH (hreS S 4) (S 6) 0 fl (by omega) (by have := hH.2.2.1; omega)
    exact e
  | succ j ih =>
    intro r n hj hn
    obtain ⟨n, rfl⟩ : ∃ n', n = n' + 1 := ⟨n - 1, by omega⟩
    have ih := ih (r + 1) n (by omega) (by omega)
    obtain ⟨hc, hr, h6, hd⟩ := hH
    obtain ⟨hr1, hr2⟩ := hr r (by omega)
    have hc1 := hc r (by omega)
    clear hr hc hd
    show m9_heard_4b fl len X _ _ q _ _ = _
    unfold m9_heard_4b m9_heard_47
    rw [if_neg (by rw [L4, nI_leI (by omega) (by omega)]; omega), L1, L0, p_reel h144 hl (by omega) (by omega), nn_s]
    by_cases hp : S (128 + 4 * r + 1) = 0
    · rw [hp, if_pos (Int32.le_refl _), lt_e, lt_e, nI_add, nI_add, Nat.add_zero]
      rw [hreS_0 hp] at ih
      exact ih
    · rw [hreS_1 hp] at ih
      have hm : S (144 + 3 * (6 * r + (S (128 + 4 * r + 1) - 1)) + 1) * S (216 + 2 * r) ≤ 99 * 100 := Nat.mul_le_mul (hr2 hp) hc1
      rw [if_neg (by rw [nI_leI (by omega) (by omega)]; omega), h144, nn_s, nn_s, nI_sub (by omega), p_soundAt, nn_s, nI_add, hl, ck_inb _ (by omega) (by omega), nI_clamp (by omega), gA_mS, p_gives h144 hl (by omega) (by omega), nn_s, lt_e, lt_e, nI_add, nI_add]
      exact ih
theorem p_heard (hfl : 10000 ≤ fl) (h144 : gR X 144 q = some (q + 1)) (hl : len (q + 1) = 1620) (hH : okH S) : m9_heard fl len X (mS I (q + 1) S) q = some (nI (hearS S)) :=
  p_heard_4 hfl h144 hl hH 4 0 fl (by omega) (by omega)
/-- a reel goes on, and is wound -/
def goS (S : Nat → Nat) (r : Nat) : Nat → Nat :=
  if S (128 + 4 * r + 1) = 0 then S else upN (upN (upN S (128 + 4 * r) (S (128 + 4 * r) + 1)) (128 + 4 * r + 2) (S (128 + 4 * r + 2) - 1)) (128 + 4 * r + 1) (if S (128 + 4 * r + 2) - 1 = 0 then 0 else S (128 + 4 * r + 1))
def windS (S : Nat → Nat) (r t : Nat) : Nat → Nat := if S (128 + 4 * r + 1) = 0 then upN S (128 + 4 * r) (nearS (S (128 + 4 * r)) t (S 0)) else S
theorem p_goesOn (h144 : gR X 144 q = some (q + 1)) (hl : len (q + 1) = 1620) {r : Nat} (hr : r < 4) (hB : Bn S) (hp : S (128 + 4 * r + 1) ≠ 0 → S (128 + 4 * r + 2) ≠ 0) : m9_goesOn fl len X (mS I (q + 1) S) q (nI r) = some (mS I (q + 1) (goS S r)) := by
  unfold m9_goesOn m9_goesOn_59 m9_goesOn_62 goS
  have h2 := hB (128 + 4 * r + 2)
  simp (disch := first | omega | exact hB.lt _) only [L1, L0, L2, p_reel h144 hl, nn_s, nI_leI, Nat.le_zero, Nat.add_zero]
  by_cases h : S (128 + 4 * r + 1) = 0
  · rw [if_pos h, if_pos h]
  · have hp := hp h
    rw [if_neg h, if_neg h]
    have e : nI (S (128 + 4 * r + 2)) - nI 1 = nI (S (128 + 4 * r + 2) - 1) := nI_sub (by omega)
    simp (disch := first | omega) only [nI_add, p_turn h144 hl, p_reel h144 hl, nn_s, upN_ne, upN_eq, Nat.add_zero, e, nI_eq]
    by_cases h3 : S (128 + 4 * r + 2) - 1 = 0
    · simp only [if_pos h3]
    · simp only [if_neg h3]
theorem p_winds (h144 : gR X 144 q = some (q + 1)) (hl : len (q + 1) = 1620) {r t : Nat} (hr : r < 4) (hB : Bn S) (ht : t < 2 ^ 30) : m9_winds fl len X (mS I (q + 1) S) q (nI r) (nI t) = some (mS I (q + 1) (windS S r t)) := by
  unfold m9_winds m9_winds_31 windS
  have h1 := hB (128 + 4 * r)
  have h0 := hB 0
  simp (disch := first | omega | exact hB.lt _) only [L1, L0, p_reel h144 hl, nn_s, nI_eq, Nat.add_zero, h144, hl, ck_inb, nI_clamp, gA_mS, p_nearer, p_turn h144 hl]
  split <;> rfl
/-- the next cue that calls a sound of a reel -/
def nxF (S : Nat → Nat) (r : Nat) : Nat → Nat → Option Nat
  | 0, _ => none
  | j + 1, c => if S (8 + 5 * c + 4) = 0 ∧ S (8 + 5 * c + 1) = 0 ∧ S (8 + 5 * c + 2) = r then some c else nxF S r j (c + 1)
def oI : Option Nat → Int32
  | none => -6
  | some c => nI c
theorem p_next (hfl : 10000 ≤ fl) (h144 : gR X 144 q = some (q + 1)) (hl : len (q + 1) = 1620) {r : Nat} (hr : r < 4) (hB : Bn S) (h5 : S 5 ≤ 24) : m9_next fl len X (mS I (q + 1) S) q (nI r) = some (oI (nxF S r (S 5) 0)) := by
  have key : ∀ (j c n : Nat), c + j = S 5 → j < n → m9_next_2 fl len X (mS I (q + 1) S) n q (nI r) (nI c) = some (oI (nxF S r j c)) := by
    intro j
    induction j with
    | zero =>
      intro c n hj hn
      obtain ⟨n, rfl⟩ : ∃ n', n = n' + 1 := ⟨n - 1, by omega⟩
      show m9_next_2b fl len X _ _ q _ _ = _
      unfold m9_next_2b
      rw [h144, nn_s, L5, hl, ck_inb _ (by omega) (by omega), nI_clamp (by omega), gA_mS]
      rw [if_pos (by rw [nI_leI (by omega) (by omega)]; omega)]
      rfl
    | succ j ih =>
      intro c n hj hn
      obtain ⟨n, rfl⟩ : ∃ n', n = n' + 1 := ⟨n - 1, by omega⟩
      have ih := ih (c + 1) n (by omega) (by omega)
      show m9_next_2b fl len X _ _ q _ _ = _
      unfold m9_next_2b m9_next_42
      rw [h144, nn_s, L5, hl, ck_inb _ (by omega) (by omega), nI_clamp (by omega), gA_mS]
      simp (disch := first | omega | exact hB.lt _) only [L4, L0, L1, L2, p_of h144 hl, nn_s, nI_eq, lt_e, nI_add]
      rw [if_neg (by rw [nI_leI (by omega) (by omega)]; omega)]
      unfold nxF
      by_cases h1 : S (8 + 5 * c + 4) = 0
      · by_cases h2 : S (8 + 5 * c + 1) = 0
        · by_cases h3 : S (8 + 5 * c + 2) = r
          · rw [if_pos h1, if_pos h2, if_pos h3, if_pos ⟨h1, h2, h3⟩]; rfl
          · rw [if_pos h1, if_pos h2, if_neg h3, if_neg (fun h => h3 h.2.2)]; exact ih
        · rw [if_pos h1, if_neg h2, if_neg (fun h => h2 h.2.1)]; exact ih
      · rw [if_neg h1, if_neg (fun h => h1 h.1)]; exact ih
  exact key (S 5) 0 fl (by omega) (by omega)
theorem nxF_some {r : Nat} : ∀ {j c d : Nat}, nxF S r j c = some d → c ≤ d ∧ d < c + j ∧ S (8 + 5 * d + 4) = 0 ∧ S (8 + 5 * d + 1) = 0 ∧ S (8 + 5 * d + 2) = r
  | 0, c, d, h => by simp [nxF] at h
  | j + 1, c, d, h => by
    unfold nxF at h
    split at h
    · rename_i hq
      cases h
      exact ⟨Nat.le_refl _, by omega, hq⟩
    · obtain ⟨h1, h2, h3⟩ := nxF_some h
      exact ⟨by omega, by omega, h3⟩
end PB
