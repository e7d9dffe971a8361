/-! ===== the law's nine rows, as rows of natural numbers ===== -/
theorem L16 : (16 : Int32) = nI 16 := rfl
theorem L25 : (25 : Int32) = nI 25 := rfl
theorem L29 : (29 : Int32) = nI 29 := rfl
theorem L30 : (30 : Int32) = nI 30 := rfl
theorem L64 : (64 : Int32) = nI 64 := rfl
theorem L101 : (101 : Int32) = nI 101 := rfl
theorem L391 : (391 : Int32) = nI 391 := rfl
theorem L512 : (512 : Int32) = nI 512 := rfl
theorem L2048 : (2048 : Int32) = nI 2048 := rfl
theorem L8192 : (8192 : Int32) = nI 8192 := rfl
theorem L12 : (12 : Int32) = nI 12 := rfl
theorem L14 : (14 : Int32) = nI 14 := rfl
theorem nI_mod {a b : Nat} (ha : a < 2 ^ 31) (hb : b < 2 ^ 31) : nI a - nI a / nI b * nI b = nI (a % b) := by
  rw [nI_div ha hb, nI_mul, nI_sub (Nat.div_mul_le_self a b)]
  congr 1
  have h1 := Nat.div_add_mod a b
  have h2 := Nat.mul_comm b (a / b)
  omega
def up2 (T : Nat → Nat → Nat) (i j v : Nat) : Nat → Nat → Nat := fun i' j' => if i' = i ∧ j' = j then v else T i' j'
theorem up2_s {T : Nat → Nat → Nat} {i j v : Nat} : up2 T i j v i j = v := if_pos ⟨rfl, rfl⟩
theorem up2_i {T : Nat → Nat → Nat} {i j v i' j' : Nat} (h : i' ≠ i) : up2 T i j v i' j' = T i' j' := if_neg fun q => h q.1
theorem up2_j {T : Nat → Nat → Nat} {i j v i' j' : Nat} (h : j' ≠ j) : up2 T i j v i' j' = T i' j' := if_neg fun q => h q.2
theorem up2_if {T : Nat → Nat → Nat} {i j v i' j' : Nat} : up2 T i j v i' j' = if i' = i ∧ j' = j then v else T i' j' := rfl
def mL (I : Im) (a : Nat) (T : Nat → Nat → Nat) : Im := (I.1, fun c j => if a ≤ c ∧ c < a + 9 then nI (T (c - a) j) else I.2 c j)
theorem gA_mL {I : Im} {a : Nat} {T : Nat → Nat → Nat} {i j : Nat} (h : i < 9) : gA (mL I a T) (a + i) j = nI (T i j) := by
  show (if a ≤ a + i ∧ a + i < a + 9 then nI (T (a + i - a) j) else I.2 (a + i) j) = _
  rw [if_pos (by omega), Nat.add_sub_cancel_left]
theorem gA_mL0 {I : Im} {a : Nat} {T : Nat → Nat → Nat} {j : Nat} : gA (mL I a T) a j = nI (T 0 j) := gA_mL (i := 0) (by omega)
theorem gF_mL {I : Im} {a : Nat} {T : Nat → Nat → Nat} {f c : Nat} : gF (mL I a T) f c = gF I f c := rfl
theorem gA_mLo {I : Im} {a : Nat} {T : Nat → Nat → Nat} {c j : Nat} (h : c < a ∨ a + 9 ≤ c) : gA (mL I a T) c j = gA I c j := by
  show (if a ≤ c ∧ c < a + 9 then nI (T (c - a) j) else I.2 c j) = _
  rw [if_neg (by omega)]
  rfl
theorem pA_mL {I : Im} {a : Nat} {T : Nat → Nat → Nat} {i j v : Nat} (h : i < 9) : pA (mL I a T) (a + i) j (nI v) = mL I a (up2 T i j v) := by
  unfold pA mL
  refine congrArg (fun z => (I.1, z)) ?_
  funext c k
  simp only [u2, up2]
  by_cases h1 : c = a + i ∧ k = j
  · rw [if_pos h1, if_pos (by omega), if_pos (by omega)]
  · rw [if_neg h1]
    by_cases h2 : a ≤ c ∧ c < a + 9
    · rw [if_pos h2, if_pos h2, if_neg (by omega)]
    · rw [if_neg h2, if_neg h2]
theorem pA_mL0 {I : Im} {a : Nat} {T : Nat → Nat → Nat} {j v : Nat} : pA (mL I a T) a j (nI v) = mL I a (up2 T 0 j v) := pA_mL (i := 0) (by omega)
theorem mL_self {I : Im} {a : Nat} {T : Nat → Nat → Nat} (h : ∀ i, i < 9 → ∀ j, gA I (a + i) j = nI (T i j)) : mL I a T = I := by
  unfold mL
  have e : (fun c j => if a ≤ c ∧ c < a + 9 then nI (T (c - a) j) else I.2 c j) = I.2 := by
    funext c j
    by_cases h2 : a ≤ c ∧ c < a + 9
    · rw [if_pos h2]
      have := h (c - a) (by omega) j
      rw [show a + (c - a) = c by omega] at this
      exact this.symm
    · rw [if_neg h2]
  rw [e]
/-- a cue, a sound, a door in one number -/
def cv (S : Nat → Nat) (c : Nat) : Nat := S (8 + 5 * c + 1) + 4 * S (8 + 5 * c + 2) + 16 * S (8 + 5 * c + 3) + 2048 * S (8 + 5 * c + 4)
def uv (S : Nat → Nat) (j : Nat) : Nat := S (144 + 3 * j) + 64 * S (144 + 3 * j + 1) + 8192 * S (144 + 3 * j + 2)
def wv (S : Nat → Nat) (d : Nat) : Nat := S (224 + 3 * d) + 4 * S (224 + 3 * d + 1) + 512 * S (224 + 3 * d + 2)
def BT (T : Nat → Nat → Nat) : Prop := ∀ i j, T i j < 1000000
theorem BT.up {T : Nat → Nat → Nat} {i j v : Nat} (h : BT T) (hv : v < 1000000) : BT (up2 T i j v) := by
  intro i' j'
  rw [up2_if]
  split
  · exact hv
  · exact h i' j'
def T0 (T : Nat → Nat → Nat) (S : Nat → Nat) : Prop := ∀ j, j < 8 → T 0 j = S j
def T1 (T : Nat → Nat → Nat) (S : Nat → Nat) : Prop := ∀ c, c < S 5 → T 1 c = S (8 + 5 * c) ∧ T 2 c = cv S c
def T3 (T : Nat → Nat → Nat) (S : Nat → Nat) : Prop := ∀ j, j < 16 → T 3 j = S (128 + j)
def T4 (T : Nat → Nat → Nat) (S : Nat → Nat) : Prop := ∀ r, r < 4 → ∀ k, k < S (128 + 4 * r + 3) → T 4 (6 * r + k) = uv S (6 * r + k)
def T5 (T : Nat → Nat → Nat) (S : Nat → Nat) : Prop := ∀ j, j < 8 → T 5 j = S (216 + j)
def T6 (T : Nat → Nat → Nat) (S : Nat → Nat) : Prop := ∀ d, d < S 6 → T 6 d = wv S d
def T7 (T : Nat → Nat → Nat) (S : Nat → Nat) : Prop := ∀ i, i < S 7 → T 7 i = S (296 + i)
def T8 (T : Nat → Nat → Nat) (S : Nat → Nat) : Prop := ∀ k, k < S 4 → S 4 ≤ k + 64 → T 8 (k % 64) = S (320 + k)
/-- what the law's rows hold of a state -/
def LT (T : Nat → Nat → Nat) (S : Nat → Nat) : Prop := T0 T S ∧ T1 T S ∧ T3 T S ∧ T4 T S ∧ T5 T S ∧ T6 T S ∧ T7 T S ∧ T8 T S ∧ BT T
def LL (len : Nat → Nat) (a : Nat) : Prop := len a = 8 ∧ len (a + 1) = 25 ∧ len (a + 2) = 25 ∧ len (a + 3) = 16 ∧ len (a + 4) = 24 ∧ len (a + 5) = 8 ∧ len (a + 6) = 25 ∧ len (a + 7) = 25 ∧ len (a + 8) = 64
section CD
variable {fl : Nat} {len : Nat → Nat} {X : Xm} {I : Im} {a : Nat} {S : Nat → Nat} {K : Nat} {T : Nat → Nat → Nat}
theorem cv_ok (hv : Iv S K) {c : Nat} (hc : c < S 5) : (cv S c % 4 = S (8 + 5 * c + 1) ∧ cv S c / 4 % 4 = S (8 + 5 * c + 2) ∧ cv S c / 16 % 128 = S (8 + 5 * c + 3) ∧ cv S c / 2048 = S (8 + 5 * c + 4)) ∧ (S (8 + 5 * c + 1) ≤ 2 ∧ S (8 + 5 * c + 2) ≤ 3 ∧ S (8 + 5 * c + 3) ≤ 100 ∧ S (8 + 5 * c + 4) ≤ 3) ∧ cv S c < 10000 := by
  have hh := hv.2.2.1.1 c hc
  have hm := hv.m6.2 (S (8 + 5 * c + 2)) (by have := hh.2.1.2.1; omega)
  obtain ⟨-, ⟨h1, h2, h3, h4, h5⟩, h6, -⟩ := hh
  have h7 : S (8 + 5 * c + 3) ≤ 100 := by
    have : S (8 + 5 * c + 1) = 0 ∨ S (8 + 5 * c + 1) = 1 ∨ S (8 + 5 * c + 1) = 2 := by omega
    rcases this with q | q | q
    · have := h3 q; omega
    · have := h4 q; omega
    · exact h5 q
  unfold cv
  generalize S (8 + 5 * c + 1) = x1 at *
  generalize S (8 + 5 * c + 2) = x2 at *
  generalize S (8 + 5 * c + 3) = x3 at *
  generalize S (8 + 5 * c + 4) = x4 at *
  refine ⟨⟨?_, ?_, ?_, ?_⟩, ⟨?_, ?_, ?_, ?_⟩, ?_⟩ <;> omega
theorem uv_ok (hv : Iv S K) {r k : Nat} (hr : r < 4) (hk : k < S (128 + 4 * r + 3)) : (uv S (6 * r + k) % 64 = S (144 + 3 * (6 * r + k)) ∧ uv S (6 * r + k) / 64 % 128 = S (144 + 3 * (6 * r + k) + 1) ∧ uv S (6 * r + k) / 8192 = S (144 + 3 * (6 * r + k) + 2)) ∧ (S (144 + 3 * (6 * r + k)) ≤ 60 ∧ S (144 + 3 * (6 * r + k) + 1) ≤ 99 ∧ S (144 + 3 * (6 * r + k) + 2) ≤ 24) ∧ uv S (6 * r + k) < 900000 := by
  have h1 := hv.2.2.2.2.1.1 r hr k hk
  have hm := hv.m6.2 r hr
  have h2 := hv.2.2.2.2.1.2.1 (6 * r + k) (by omega)
  have hB := hv.2.1
  have h3 := hB.2.1
  have h4 := hB.2.2
  unfold uv
  generalize S (144 + 3 * (6 * r + k)) = x1 at *
  generalize S (144 + 3 * (6 * r + k) + 1) = x2 at *
  generalize S (144 + 3 * (6 * r + k) + 2) = x3 at *
  refine ⟨⟨?_, ?_, ?_⟩, ⟨?_, ?_, ?_⟩, ?_⟩ <;> omega
theorem wv_ok (hv : Iv S K) {d : Nat} (hd : d < S 6) : (wv S d % 4 = S (224 + 3 * d) ∧ wv S d / 4 % 128 = S (224 + 3 * d + 1) ∧ wv S d / 512 = S (224 + 3 * d + 2)) ∧ (S (224 + 3 * d) ≤ 3 ∧ S (224 + 3 * d + 1) ≤ 99 ∧ 1 ≤ S (224 + 3 * d + 2) ∧ S (224 + 3 * d + 2) ≤ 9) ∧ wv S d < 10000 := by
  have hh := hv.2.2.2.2.2.2.1.2 d hd
  unfold wv
  generalize S (224 + 3 * d) = x1 at *
  generalize S (224 + 3 * d + 1) = x2 at *
  generalize S (224 + 3 * d + 2) = x3 at *
  refine ⟨⟨?_, ?_, ?_⟩, ⟨?_, ?_, ?_, ?_⟩, ?_⟩ <;> omega
theorem g_begins (hfl : 10000 ≤ fl) (hl : len (a + 4) = 24) {r kk : Nat} (hr : r < 4) (hk : kk ≤ 6) (hT : ∀ j, j < kk → T 4 (6 * r + j) % 64 = S (144 + 3 * (6 * r + j)) ∧ T 4 (6 * r + j) < 1000000) : m9_begins fl len X (mL I a T) (a + 4) (nI r) (nI kk) = some (nI (begS S r kk)) := by
  have key : ∀ (j k n : Nat), k + j = kk → j < n → m9_begins_8 fl len X (mL I a T) n (a + 4) (nI r) (nI kk) (nI (begS S r k)) (nI (6 * r + k)) = some (nI (begS S r kk)) := by
    intro j
    induction j with
    | zero =>
      intro k n hj hn
      obtain ⟨n, rfl⟩ : ∃ n', n = n' + 1 := ⟨n - 1, by omega⟩
      show m9_begins_8b fl len X (mL I a T) (m9_begins_8 fl len X (mL I a T) n) _ _ _ _ _ = _
      rw [m9_begins_8b, L6, nI_mul, nI_add, if_pos (by rw [nI_leI (by omega) (by omega)]; omega), show k = kk by omega]
    | succ j ih =>
      intro k n hj hn
      obtain ⟨n, rfl⟩ : ∃ n', n = n' + 1 := ⟨n - 1, by omega⟩
      obtain ⟨e, eb⟩ := hT k (by omega)
      have ih := ih (k + 1) n (by omega) (by omega)
      show m9_begins_8b fl len X (mL I a T) (m9_begins_8 fl len X (mL I a T) n) _ _ _ _ _ = _
      rw [m9_begins_8b, L6, nI_mul, nI_add, if_neg (by rw [nI_leI (by omega) (by omega)]; omega), hl, ck_inb _ (by omega) (by omega), nI_clamp (by omega), gA_mL (by omega), L64, nI_mod (by omega) (by omega), e, nI_add, lt_e, L1, nI_add, lt_e]
      exact ih
  rw [m9_begins, L6, nI_mul, lt_e, L0]
  exact key kk 0 fl (by omega) (by omega)
theorem T4.begins (h : T4 T S) (hv : Iv S K) {r kk : Nat} (hr : r < 4) (hk : kk ≤ S (128 + 4 * r + 3)) : ∀ j, j < kk → T 4 (6 * r + j) % 64 = S (144 + 3 * (6 * r + j)) ∧ T 4 (6 * r + j) < 1000000 := fun j hj => by
  have hu := uv_ok hv hr (k := j) (by omega)
  rw [h r hr j (by omega)]
  exact ⟨hu.1.1, by omega⟩
theorem g_toward {x y s : Nat} (hx : x < 2 ^ 30) (hy : y < 2 ^ 30) (hs : s < 2 ^ 30) : m9_toward fl len X I (nI x) (nI y) (nI s) = some (nI (nearS x y s)) := by
  have h1 : (nI y - nI x).toInt = (y : Int) - x := by
    rw [Int32.toInt_sub, nI_toInt (by omega), nI_toInt (by omega), Int.bmod_def]; omega
  have h2 : (-nI s).toInt = -(s : Int) := by
    rw [Int32.toInt_neg, nI_toInt (by omega), Int.bmod_def]; omega
  unfold m9_toward m9_toward_28 nearS
  rw [lt_e]
  by_cases c1 : nI y - nI x ≤ nI s
  · rw [if_pos c1]
    rw [Int32.le_iff_toInt_le, h1, nI_toInt (by omega)] at c1
    by_cases c2 : -nI s ≤ nI y - nI x
    · rw [if_pos c2]
      rw [Int32.le_iff_toInt_le, h1, h2] at c2
      by_cases h : x < y
      · rw [if_pos h, if_pos (by omega)]
      · rw [if_neg h, if_pos (by omega)]
    · rw [if_neg c2]
      rw [Int32.le_iff_toInt_le, h1, h2] at c2
      rw [if_neg (by omega), if_neg (by omega), nI_sub (by omega)]
  · rw [if_neg c1]
    rw [Int32.le_iff_toInt_le, h1, nI_toInt (by omega)] at c1
    rw [if_pos (by omega), if_neg (by omega), nI_add]
theorem g_next (hfl : 10000 ≤ fl) (hL : LL len a) (e5 : T 0 5 = S 5) (h1 : T1 T S) (hv : Iv S K) {r : Nat} (hr : r < 4) : m9_nextOf fl len X (mL I a T) a (a + 2) (nI r) = some (oI (nxF S r (S 5) 0)) := by
  have h5 := hv.m6.1
  have key : ∀ (j c n : Nat), c + j = S 5 → j < n → m9_nextOf_2 fl len X (mL I a T) n a (a + 2) (nI r) (nI c) = some (oI (nxF S r j c)) := by
    intro j
    induction j with
    | zero =>
      intro c n hj hn
      obtain ⟨n, rfl⟩ : ∃ n', n = n' + 1 := ⟨n - 1, by omega⟩
      show m9_nextOf_2b fl len X (mL I a T) (m9_nextOf_2 fl len X (mL I a T) n) _ _ _ _ = _
      rw [m9_nextOf_2b, hL.1, L5, ck_inb _ (by omega) (by omega), nI_clamp (by omega), gA_mL0, e5, if_pos (by rw [nI_leI (by omega) (by omega)]; omega)]
      rfl
    | succ j ih =>
      intro c n hj hn
      obtain ⟨n, rfl⟩ : ∃ n', n = n' + 1 := ⟨n - 1, by omega⟩
      have ih := ih (c + 1) n (by omega) (by omega)
      have hcl : c < S 5 := by omega
      obtain ⟨⟨v1, v2, v3, v4⟩, ⟨b1, b2, b3, b4⟩, b5⟩ := cv_ok hv hcl
      have e2 := (h1 c hcl).2
      show m9_nextOf_2b fl len X (mL I a T) (m9_nextOf_2 fl len X (mL I a T) n) _ _ _ _ = _
      rw [m9_nextOf_2b, hL.1, L5, ck_inb _ (by omega) (by omega), nI_clamp (by omega), gA_mL0, e5, if_neg (by rw [nI_leI (by omega) (by omega)]; omega), hL.2.2.1, ck_inb _ (by omega) (by omega), nI_clamp (by omega), gA_mL (by omega), e2, L2048, m9_nextOf_32, L1, nI_add, lt_e, L16, nI_mod (by omega) (by omega), L4, nI_mul]
      unfold nxF
      by_cases c1 : 2048 ≤ cv S c
      · rw [if_pos (by rw [nI_leI (by omega) (by omega)]; exact c1), if_neg (fun q => by omega)]
        exact ih
      · rw [if_neg (by rw [nI_leI (by omega) (by omega)]; exact c1)]
        by_cases c2 : cv S c % 16 = 4 * r
        · rw [if_pos (by rw [c2]), if_pos (by omega)]
          rfl
        · rw [if_neg (by rw [nI_eq (by omega) (by omega)]; exact c2), if_neg (by omega)]
          exact ih
  rw [m9_nextOf, L0]
  exact key (S 5) 0 fl (by omega) (by omega)
end CD
