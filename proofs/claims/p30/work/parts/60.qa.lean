/-! ===== a play of the class, and the state that it stands for ===== -/
def XS (X : Xm) (p : Nat) : Prop := (gR X 64 p = some (p + 1) ∧ gR X 65 p = some (p + 2) ∧ gR X 66 p = some (p + 28) ∧ gR X 67 p = some (p + 29) ∧ gR X 68 p = some (p + 30) ∧ gR X 69 p = some (p + 34) ∧ gR X 71 p = some (p + 35) ∧ gR X 96 (p + 2) = some (p + 3) ∧ gR X 32 (p + 30) = some (p + 31) ∧ gR X 33 (p + 30) = some (p + 32) ∧ gR X 34 (p + 30) = some (p + 33)) ∧ (∀ r, r < 4 → gQ X (p + 28) r = some (p + 36 + 8 * r) ∧ gR X 80 (p + 36 + 8 * r) = some (p + 36 + 8 * r + 1) ∧ ∀ k, k < 6 → gQ X (p + 36 + 8 * r + 1) k = some (p + 36 + 8 * r + 2 + k)) ∧ ∀ ch, ch < 4 → gQ X (p + 29) ch = some (p + 68 + ch)
def LN (len : Nat → Nat) (p : Nat) : Prop := (len (p + 1) = 4 ∧ len (p + 3) = 24 ∧ len (p + 28) = 4 ∧ len (p + 29) = 4 ∧ len (p + 31) = 24 ∧ len (p + 32) = 24 ∧ len (p + 33) = 24 ∧ len (p + 34) = 24 ∧ len (p + 35) = 1200) ∧ ∀ r, r < 4 → len (p + 36 + 8 * r + 1) = 6
def XC (X : Xm) (p : Nat) (w : Nat → Nat) : Prop := ∀ c, c < 24 → gQ X (p + 3) c = some (w c) ∧ (p + 4 ≤ w c ∧ w c < p + 28) ∧ ∀ d, d < 24 → w c = w d → c = d
def plI (n : Nat) : Int32 := if n = 0 then -6 else nI (n - 1)
def D1 (I : Im) (p : Nat) (S : Nat → Nat) : Prop := ∀ j, j < 4 → gA I (p + 1) j = nI (S j)
def D2 (I : Im) (p : Nat) (S : Nat → Nat) (K : Nat) : Prop := gF I 72 p = nI (S 4) ∧ gF I 97 (p + 2) = nI (S 5) ∧ gF I 98 (p + 2) = nI K
def D5 (I : Im) (S : Nat → Nat) (w : Nat → Nat) : Prop := ∀ c, c < S 5 → gF I 16 (w c) = nI (S (8 + 5 * c)) ∧ gF I 17 (w c) = nI (S (8 + 5 * c + 1)) ∧ gF I 18 (w c) = nI (S (8 + 5 * c + 2)) ∧ gF I 19 (w c) = nI (S (8 + 5 * c + 3)) ∧ gF I 20 (w c) = nI (S (8 + 5 * c + 4))
def D6 (I : Im) (p : Nat) (S : Nat → Nat) : Prop := gF I 35 (p + 30) = nI (S 6) ∧ ∀ d, d < S 6 → gA I (p + 31) d = nI (S (224 + 3 * d)) ∧ gA I (p + 32) d = nI (S (224 + 3 * d + 1)) ∧ gA I (p + 33) d = nI (S (224 + 3 * d + 2))
def D7 (I : Im) (p : Nat) (S : Nat → Nat) : Prop := gF I 70 p = nI (S 7) ∧ ∀ j, j < S 7 → gA I (p + 34) j = nI (S (296 + j))
def D8 (I : Im) (p : Nat) (S : Nat → Nat) : Prop := ∀ j, j < S 4 → gA I (p + 35) j = nI (S (320 + j))
def RR (I : Im) (p : Nat) (S : Nat → Nat) (r : Nat) : Prop := (gF I 81 (p + 36 + 8 * r) = nI (S (128 + 4 * r + 3)) ∧ gF I 82 (p + 36 + 8 * r) = nI (S (128 + 4 * r)) ∧ gF I 83 (p + 36 + 8 * r) = plI (S (128 + 4 * r + 1)) ∧ gF I 84 (p + 36 + 8 * r) = nI (S (128 + 4 * r + 2))) ∧ ∀ k, k < S (128 + 4 * r + 3) → gF I 112 (p + 36 + 8 * r + 2 + k) = nI (S (144 + 3 * (6 * r + k))) ∧ gF I 113 (p + 36 + 8 * r + 2 + k) = nI (S (144 + 3 * (6 * r + k) + 1)) ∧ gF I 114 (p + 36 + 8 * r + 2 + k) = nI (begS S r k) ∧ gF I 115 (p + 36 + 8 * r + 2 + k) = nI (S (144 + 3 * (6 * r + k) + 2))
def D9 (I : Im) (p : Nat) (S : Nat → Nat) : Prop := ∀ r, r < 4 → RR I p S r
def D10 (I : Im) (p : Nat) (S : Nat → Nat) : Prop := ∀ ch, ch < 4 → gF I 0 (p + 68 + ch) = nI (S (216 + 2 * ch)) ∧ gF I 1 (p + 68 + ch) = nI (S (216 + 2 * ch + 1))
def Cs (I : Im) (p : Nat) (S : Nat → Nat) (K : Nat) (w : Nat → Nat) : Prop := D1 I p S ∧ D2 I p S K ∧ D5 I S w ∧ D6 I p S ∧ D7 I p S ∧ D8 I p S ∧ D9 I p S ∧ D10 I p S
/-- nothing outside the play's cells changes -/
def Fr (p : Nat) (I I1 : Im) : Prop := ∀ a, (a < p ∨ p + 72 ≤ a) → (∀ f, gF I1 f a = gF I f a) ∧ ∀ j, gA I1 a j = gA I a j
theorem Fr.rfl {p : Nat} {I : Im} : Fr p I I := fun _ _ => ⟨fun _ => Eq.refl _, fun _ => Eq.refl _⟩
theorem Fr.trans {p : Nat} {I I1 I2 : Im} (h : Fr p I I1) (h2 : Fr p I1 I2) : Fr p I I2 := fun a ha => ⟨fun f => ((h2 a ha).1 f).trans ((h a ha).1 f), fun j => ((h2 a ha).2 j).trans ((h a ha).2 j)⟩
theorem Fr.pF {p : Nat} {I I1 : Im} {f b : Nat} {v : Int32} (h : Fr p I I1) (h1 : p ≤ b) (h2 : b < p + 72) : Fr p I (pF I1 f b v) := by
  intro a ha
  refine ⟨fun f' => ?_, fun j => (h a ha).2 j⟩
  rw [gF_pF, if_neg (by omega)]
  exact (h a ha).1 f'
theorem Fr.pA {p : Nat} {I I1 : Im} {b j : Nat} {v : Int32} (h : Fr p I I1) (h1 : p ≤ b) (h2 : b < p + 72) : Fr p I (pA I1 b j v) := by
  intro a ha
  refine ⟨fun f' => (h a ha).1 f', fun j' => ?_⟩
  rw [gA_pA, if_neg (by omega)]
  exact (h a ha).2 j'
theorem gF_f {I : Im} {f g a b : Nat} {v : Int32} (h : g ≠ f) : gF (pF I f a v) g b = gF I g b := by rw [gF_pF, if_neg (fun q => h q.1)]
theorem gF_a {I : Im} {f g a b : Nat} {v : Int32} (h : b ≠ a) : gF (pF I f a v) g b = gF I g b := by rw [gF_pF, if_neg (fun q => h q.2)]
theorem gF_s {I : Im} {f a : Nat} {v : Int32} : gF (pF I f a v) f a = v := by rw [gF_pF, if_pos ⟨rfl, rfl⟩]
theorem gA_a {I : Im} {a b j j' : Nat} {v : Int32} (h : b ≠ a) : gA (pA I a j v) b j' = gA I b j' := by rw [gA_pA, if_neg (fun q => h q.1)]
theorem gA_j {I : Im} {a b j j' : Nat} {v : Int32} (h : j' ≠ j) : gA (pA I a j v) b j' = gA I b j' := by rw [gA_pA, if_neg (fun q => h q.2)]
theorem gA_s {I : Im} {a j : Nat} {v : Int32} : gA (pA I a j v) a j = v := by rw [gA_pA, if_pos ⟨rfl, rfl⟩]
/-- an int is a small natural number, or it is none -/
theorem zc (z : Int32) (n : Nat) (hn : n < 2 ^ 31) : (∃ k, k < n ∧ z = nI k) ∨ (z < 0 ∨ (¬ z < 0 ∧ nI n ≤ z)) := by
  by_cases h0 : z < 0
  · exact Or.inr (Or.inl h0)
  · by_cases h1 : nI n ≤ z
    · exact Or.inr (Or.inr ⟨h0, h1⟩)
    · rw [Int32.lt_iff_toInt_lt, Int32.toInt_zero] at h0
      rw [Int32.le_iff_toInt_le, nI_toInt hn] at h1
      refine Or.inl ⟨z.toInt.toNat, by omega, Int32.toInt_inj.mp ?_⟩
      rw [nI_toInt (by omega)]
      omega
theorem plI_0 : plI 0 = -6 := rfl
theorem plI_n {n : Nat} (h : n ≠ 0) : plI n = nI (n - 1) := if_neg h
theorem nI_m6 {n : Nat} (h : n < 2 ^ 31) : ¬ nI n = (-6 : Int32) := by
  intro q
  have := congrArg Int32.toInt q
  rw [nI_toInt h] at this
  rw [show (-6 : Int32).toInt = -6 by decide] at this
  omega
theorem plI_eq {n : Nat} (h : n < 2 ^ 31) : plI n = (-6 : Int32) ↔ n = 0 := by
  unfold plI
  split
  · rename_i h0
    exact ⟨fun _ => h0, fun _ => rfl⟩
  · rename_i h0
    exact ⟨fun q => absurd q (nI_m6 (by omega)), fun q => absurd q h0⟩
theorem nI_nneg {n : Nat} (h : n < 2 ^ 31) : ¬ nI n < 0 := nI_pos h
section QA
variable {fl : Nat} {len : Nat → Nat} {X : Xm} {I : Im} {p : Nat} {S : Nat → Nat} {K : Nat} {w : Nat → Nat}
theorem q_near {a b s : Nat} (ha : a < 2 ^ 30) (hb : b < 2 ^ 30) (hs : s < 2 ^ 30) : m8_nearer fl len X I (nI a) (nI b) (nI s) = some (nI (nearS a b s)) := by
  unfold m8_nearer m8_nearer_22 nearS
  by_cases h : a < b
  · rw [if_neg (by rw [nI_leI (by omega) (by omega)]; omega), if_pos h, nI_add]
    by_cases h2 : b - a ≤ s
    · rw [if_pos h2]
      split <;> rename_i h3
      · rw [nI_ltI (by omega) (by omega)] at h3; omega
      · rfl
    · rw [if_neg h2]
      split <;> rename_i h3
      · rfl
      · rw [nI_ltI (by omega) (by omega)] at h3; omega
  · rw [if_pos (by rw [nI_leI (by omega) (by omega)]; omega), if_neg h]
    have hi : (nI a - nI s).toInt = (a : Int) - s := by
      rw [Int32.toInt_sub, nI_toInt (by omega), nI_toInt (by omega), Int.bmod_def]; omega
    by_cases h2 : a - b ≤ s
    · rw [if_pos h2]
      split <;> rename_i h3
      · rw [Int32.lt_iff_toInt_lt, hi, nI_toInt (by omega)] at h3; omega
      · rfl
    · rw [if_neg h2]
      split <;> rename_i h3
      · rw [nI_sub (by omega)]
      · rw [Int32.lt_iff_toInt_lt, hi, nI_toInt (by omega)] at h3; omega
theorem q_chan (hX : XS X p) (hL : LN len p) {k : Nat} (hk : k < 4) : m4_channelAt fl len X I p (nI k) = some (some (p + 68 + k)) := by
  unfold m4_channelAt m4_channelAt_23
  rw [if_neg (nI_nneg (by omega)), hX.1.2.2.2.1, nn_s, hL.1.2.2.2.1, if_pos (by rw [nI_ltI (by omega) (by omega)]; exact hk), ck_inb _ hk (by omega), nI_clamp (by omega), hX.2.2 k hk, nn_s]
theorem q_chan0 (hX : XS X p) (hL : LN len p) {z : Int32} (hz : z < 0 ∨ (¬ z < 0 ∧ nI 4 ≤ z)) : m4_channelAt fl len X I p z = some none := by
  unfold m4_channelAt m4_channelAt_13 m4_channelAt_23
  rcases hz with h | ⟨h, h2⟩
  · rw [if_pos h]
  · rw [if_neg h, hX.1.2.2.2.1, nn_s, hL.1.2.2.2.1, if_neg (Int32.not_lt.mpr h2)]
theorem q_reel (hX : XS X p) (hL : LN len p) {k : Nat} (hk : k < 4) : m4_reelAt fl len X I p (nI k) = some (some (p + 36 + 8 * k)) := by
  unfold m4_reelAt m4_reelAt_23
  rw [if_neg (nI_nneg (by omega)), hX.1.2.2.1, nn_s, hL.1.2.2.1, if_pos (by rw [nI_ltI (by omega) (by omega)]; exact hk), ck_inb _ hk (by omega), nI_clamp (by omega), (hX.2.1 k hk).1, nn_s]
theorem q_reel0 (hX : XS X p) (hL : LN len p) {z : Int32} (hz : z < 0 ∨ (¬ z < 0 ∧ nI 4 ≤ z)) : m4_reelAt fl len X I p z = some none := by
  unfold m4_reelAt m4_reelAt_13 m4_reelAt_23
  rcases hz with h | ⟨h, h2⟩
  · rw [if_pos h]
  · rw [if_neg h, hX.1.2.2.1, nn_s, hL.1.2.2.1, if_neg (Int32.not_lt.mpr h2)]
theorem q_snd (hX : XS X p) (hL : LN len p) {r k n : Nat} (hr : r < 4) (hn : n ≤ 6) (hc : gF I 81 (p + 36 + 8 * r) = nI n) (hk : k < n) : m5_soundNumbered fl len X I (p + 36 + 8 * r) (nI k) = some (some (p + 36 + 8 * r + 2 + k)) := by
  unfold m5_soundNumbered m5_soundNumbered_31
  obtain ⟨h1, h2, h3⟩ := hX.2.1 r hr
  rw [if_neg (nI_nneg (by omega)), hc, if_neg (by rw [nI_leI (by omega) (by omega)]; omega), h2, nn_s, hL.2 r hr, if_pos (by rw [nI_ltI (by omega) (by omega)]; omega), ck_inb _ (by omega) (by omega), nI_clamp (by omega), h3 k (by omega), nn_s]
theorem q_snd0 (hX : XS X p) (hL : LN len p) {r n : Nat} {z : Int32} (hr : r < 4) (hn : n ≤ 6) (hc : gF I 81 (p + 36 + 8 * r) = nI n) (hz : z < 0 ∨ (¬ z < 0 ∧ nI n ≤ z)) : m5_soundNumbered fl len X I (p + 36 + 8 * r) z = some none := by
  unfold m5_soundNumbered m5_soundNumbered_21 m5_soundNumbered_31
  rcases hz with h | ⟨h, h2⟩
  · rw [if_pos h]
  · rw [if_neg h, hc, if_pos h2]
theorem q_cue (hX : XS X p) (hL : LN len p) (hC : XC X p w) {c n : Nat} (hn : n ≤ 24) (hc : gF I 97 (p + 2) = nI n) (hk : c < n) : m6_cueAt fl len X I (p + 2) (nI c) = some (some (w c)) := by
  unfold m6_cueAt m6_cueAt_31
  rw [if_neg (nI_nneg (by omega)), hc, if_neg (by rw [nI_leI (by omega) (by omega)]; omega), hX.1.2.2.2.2.2.2.2.1, nn_s, hL.1.2.1, if_pos (by rw [nI_ltI (by omega) (by omega)]; omega), ck_inb _ (by omega) (by omega), nI_clamp (by omega), (hC c (by omega)).1, nn_s]
theorem q_cue0 {n : Nat} {z : Int32} (hc : gF I 97 (p + 2) = nI n) (hz : z < 0 ∨ (¬ z < 0 ∧ nI n ≤ z)) : m6_cueAt fl len X I (p + 2) z = some none := by
  unfold m6_cueAt m6_cueAt_21 m6_cueAt_31
  rcases hz with h | ⟨h, h2⟩
  · rw [if_pos h]
  · rw [if_neg h, hc, if_pos h2]
theorem q_within {a b c : Int32} : m8_within fl len X I a b c = some (if b ≤ a ∧ a ≤ c then (1 : Int32) else 0) := by
  unfold m8_within m8_within_14 m8_within_15
  by_cases h1 : a < b
  · rw [if_pos h1, ck_isbl0, if_neg (fun h => absurd h1 (Int32.not_lt.mpr h.1))]
  · rw [if_neg h1]
    by_cases h2 : c < a
    · rw [if_pos h2, ck_isbl0, if_neg (fun h => absurd h2 (Int32.not_lt.mpr h.2))]
    · rw [if_neg h2, ck_isbl1, if_pos ⟨Int32.not_lt.mp h1, Int32.not_lt.mp h2⟩]
theorem q_within1 {a b c : Int32} (h : b ≤ a ∧ a ≤ c) : m8_within fl len X I a b c = some (1 : Int32) := by rw [q_within, if_pos h]
theorem q_within0 {a b c : Int32} (h : ¬ (b ≤ a ∧ a ≤ c)) : m8_within fl len X I a b c = some (0 : Int32) := by rw [q_within, if_neg h]
theorem q_heardOn (hX : XS X p) (hL : LN len p) (hc : D10 I p S) {ch l : Nat} (hch : ch < 4) (hb : l * S (216 + 2 * ch) < 2 ^ 31) : m4_heardOn fl len X I p (nI ch) (nI l) = some (nI (giveS S ch l)) := by
  unfold m4_heardOn m4_heardOn_23 giveS
  rw [q_chan hX hL hch, nn_s, if_neg (by simp), nn_s, (hc ch hch).1, nI_mul, L50, nI_div hb (by omega)]
theorem q_doors (hfl : 10000 ≤ fl) (hX : XS X p) (hL : LN len p) (h10 : D10 I p S) (h6 : D6 I p S) (hH : okH S) : m4_loudnessOfDoors fl len X I p = some (nI (hdoS S (S 6))) := by
  obtain ⟨hc, hr, hs6, hd⟩ := hH
  have key : ∀ (j d n : Nat), d + j = S 6 → j < n → m4_loudnessOfDoors_4 fl len X I n p (nI (hdoS S d)) (nI d) = some (nI (hdoS S (S 6))) := by
    intro j
    induction j with
    | zero =>
      intro d n hj hn
      obtain ⟨n, rfl⟩ : ∃ n', n = n' + 1 := ⟨n - 1, by omega⟩
      show m4_loudnessOfDoors_4b fl len X I (m4_loudnessOfDoors_4 fl len X I n) p _ _ = _
      unfold m4_loudnessOfDoors_4b m4_loudnessOfDoors_52
      rw [hX.1.2.2.2.2.1, nn_s, h6.1, if_pos (by rw [nI_leI (by omega) (by omega)]; omega), show d = S 6 by omega]
    | succ j ih =>
      intro d n hj hn
      obtain ⟨n, rfl⟩ : ∃ n', n = n' + 1 := ⟨n - 1, by omega⟩
      have ih := ih (d + 1) n (by omega) (by omega)
      obtain ⟨e1, e2, e3⟩ := h6.2 d (by omega)
      have hd1 := hd d (by omega)
      have hc1 := hc (S (224 + 3 * d)) (by omega)
      have hm : S (224 + 3 * d + 1) * S (216 + 2 * S (224 + 3 * d)) ≤ 99 * 100 := Nat.mul_le_mul hd1.2 hc1
      show m4_loudnessOfDoors_4b fl len X I (m4_loudnessOfDoors_4 fl len X I n) p _ _ = _
      unfold m4_loudnessOfDoors_4b
      rw [hX.1.2.2.2.2.1, nn_s, h6.1, if_neg (by rw [nI_leI (by omega) (by omega)]; omega), L24, if_neg (by rw [nI_leI (by omega) (by omega)]; omega), hX.1.2.2.2.2.2.2.2.2.1, nn_s, hL.1.2.2.2.2.1, ck_inb _ (by omega) (by omega), hX.1.2.2.2.2.2.2.2.2.2.1, nn_s, hL.1.2.2.2.2.2.1, ck_inb _ (by omega) (by omega), nI_clamp (by omega), e1, e2, q_heardOn hX hL h10 (by omega) (by omega), nn_s, lt_e, lt_e, nI_add, L1, nI_add]
      exact ih
  have e := key (S 6) 0 fl (by omega) (by omega)
  exact e
theorem q_lreels (hfl : 10000 ≤ fl) (hX : XS X p) (hL : LN len p) (h10 : D10 I p S) (h9 : D9 I p S) (hH : okH S) (hR : IvR S) : m4_loudnessOfReels fl len X I p = some (nI (hreS S 4)) := by
  obtain ⟨hc, hr, hs6, hd⟩ := hH
  have key : ∀ (j r n : Nat), r + j = 4 → j < n → m4_loudnessOfReels_4 fl len X I n p (nI (hreS S r)) (nI r) = some (nI (hreS S 4)) := by
    intro j
    induction j with
    | zero =>
      intro r n hj hn
      obtain ⟨n, rfl⟩ : ∃ n', n = n' + 1 := ⟨n - 1, by omega⟩
      show m4_loudnessOfReels_4b fl len X I (m4_loudnessOfReels_4 fl len X I n) p _ _ = _
      unfold m4_loudnessOfReels_4b
      rw [hX.1.2.2.1, nn_s, hL.1.2.2.1, if_pos (by rw [nI_leI (by omega) (by omega)]; omega), show r = 4 by omega]
    | succ j ih =>
      intro r n hj hn
      obtain ⟨n, rfl⟩ : ∃ n', n = n' + 1 := ⟨n - 1, by omega⟩
      have hr4 : r < 4 := by omega
      have ih := ih (r + 1) n (by omega) (by omega)
      obtain ⟨⟨f1, f2, f3, f4⟩, fs⟩ := h9 r hr4
      obtain ⟨hr1, hr2⟩ := hr r hr4
      have hR1 := hR r hr4
      have hc1 := hc r hr4
      show m4_loudnessOfReels_4b fl len X I (m4_loudnessOfReels_4 fl len X I n) p _ _ = _
      unfold m4_loudnessOfReels_4b m4_loudnessOfReels_48
      rw [hX.1.2.2.1, nn_s, hL.1.2.2.1, if_neg (by rw [nI_leI (by omega) (by omega)]; omega), ck_inb _ (by omega) (by omega), nI_clamp (by omega), (hX.2.1 r hr4).1, nn_s, nn_s, f3]
      by_cases hp : S (128 + 4 * r + 1) = 0
      · rw [hreS_0 hp] at ih
        rw [hp, plI_0, q_snd0 hX hL hr4 hR1.1 f1 (Or.inl (by decide)), nn_s, if_pos rfl, lt_e, L1, nI_add]
        exact ih
      · rw [hreS_1 hp] at ih
        have hm : S (144 + 3 * (6 * r + (S (128 + 4 * r + 1) - 1)) + 1) * S (216 + 2 * r) ≤ 99 * 100 := Nat.mul_le_mul (hr2 hp) hc1
        rw [plI_n hp, q_snd hX hL hr4 hR1.1 f1 (by omega), nn_s, if_neg (by simp), nn_s, (fs _ (by omega)).2.1, q_heardOn hX hL h10 hr4 (by omega), nn_s, lt_e, lt_e, nI_add, L1, nI_add]
        exact ih
  have e := key 4 0 fl (by omega) (by omega)
  exact e
end QA
