/-! ===== one second of the reference ===== -/
def Bn (S : Nat → Nat) : Prop := ∀ j, S j < 1000000
theorem Bn.lt {S : Nat → Nat} (h : Bn S) (j : Nat) : S j < 2 ^ 31 := Nat.lt_trans (h j) (by decide)
theorem Bn.up {S : Nat → Nat} {k v : Nat} (h : Bn S) (hv : v < 1000000) : Bn (upN S k v) := by
  intro j
  unfold upN
  split
  · exact hv
  · exact h j
theorem begS_lt {S : Nat → Nat} (h : Bn S) (r : Nat) : ∀ k, begS S r k ≤ k * 1000000
  | 0 => Nat.le_refl _
  | k + 1 => by
    have := begS_lt h r k
    have := h (144 + 3 * (6 * r + k))
    show begS S r k + _ ≤ _
    omega
theorem begS_31 {S : Nat → Nat} (h : Bn S) {r k : Nat} (hk : k ≤ 6) : begS S r k < 2 ^ 31 := by
  have := begS_lt h r k
  have : k * 1000000 ≤ 6 * 1000000 := Nat.mul_le_mul_right _ hk
  omega
theorem begS_congr {S S' : Nat → Nat} {r : Nat} : ∀ {k : Nat}, (∀ j, j < k → S' (144 + 3 * (6 * r + j)) = S (144 + 3 * (6 * r + j))) → begS S' r k = begS S r k
  | 0, _ => rfl
  | k + 1, h => by
    show begS S' r k + _ = begS S r k + _
    rw [begS_congr (fun j hj => h j (by omega)), h k (by omega)]
def nearS (a b s : Nat) : Nat := if a < b then (if b - a ≤ s then b else a + s) else (if a - b ≤ s then b else a - s)
theorem nearS_le {a b s m : Nat} (ha : a ≤ m) (hb : b ≤ m) : nearS a b s ≤ m := by
  unfold nearS
  split <;> split <;> omega
/-- a cue comes: its answer, and the state -/
def comeA (S : Nat → Nat) (c : Nat) : Nat :=
  if S (8 + 5 * c + 1) = 2 then 1 else if S (8 + 5 * c + 1) = 1 then 1 else if S (128 + 4 * S (8 + 5 * c + 2) + 1) = 0 then (if S (128 + 4 * S (8 + 5 * c + 2)) = begS S (S (8 + 5 * c + 2)) (S (8 + 5 * c + 3)) then 1 else 3) else 2
def comeS (S : Nat → Nat) (c : Nat) : Nat → Nat :=
  if S (8 + 5 * c + 1) = 2 then upN S (216 + 2 * S (8 + 5 * c + 2) + 1) (S (8 + 5 * c + 3)) else if S (8 + 5 * c + 1) = 1 then upN (upN (upN (upN S (224 + 3 * S 6) (S (8 + 5 * c + 2))) (224 + 3 * S 6 + 1) (S (8 + 5 * c + 3))) (224 + 3 * S 6 + 2) (S 1)) 6 (S 6 + 1) else if S (128 + 4 * S (8 + 5 * c + 2) + 1) = 0 then (if S (128 + 4 * S (8 + 5 * c + 2)) = begS S (S (8 + 5 * c + 2)) (S (8 + 5 * c + 3)) then startS S (S (8 + 5 * c + 2)) (S (8 + 5 * c + 3)) else S) else S
/-- what a cue must be -/
def okC (S : Nat → Nat) (c : Nat) : Prop := S (8 + 5 * c + 1) ≤ 2 ∧ S (8 + 5 * c + 2) ≤ 3 ∧ (S (8 + 5 * c + 1) = 0 → S (8 + 5 * c + 3) < S (128 + 4 * S (8 + 5 * c + 2) + 3))
section PB
variable {fl : Nat} {len : Nat → Nat} {X : Xm} {I : Im} {q : Nat} {S : Nat → Nat}
/-- what sounds and doors give -/
def giveS (S : Nat → Nat) (ch l : Nat) : Nat := l * S (216 + 2 * ch) / 50
def hreS (S : Nat → Nat) : Nat → Nat
  | 0 => 0
  | r + 1 => hreS S r + (if S (128 + 4 * r + 1) = 0 then 0 else giveS S r (S (144 + 3 * (6 * r + (S (128 + 4 * r + 1) - 1)) + 1)))
def hdoS (S : Nat → Nat) : Nat → Nat
  | 0 => 0
  | d + 1 => hdoS S d + giveS S (S (224 + 3 * d)) (S (224 + 3 * d + 1))
def hearS (S : Nat → Nat) : Nat := hreS S 4 + hdoS S (S 6)
/-- levels and loudnesses as they may be -/
def okH (S : Nat → Nat) : Prop := (∀ ch, ch < 4 → S (216 + 2 * ch) ≤ 100) ∧ (∀ r, r < 4 → S (128 + 4 * r + 1) ≤ 6 ∧ (S (128 + 4 * r + 1) ≠ 0 → S (144 + 3 * (6 * r + (S (128 + 4 * r + 1) - 1)) + 1) ≤ 99)) ∧ S 6 ≤ 24 ∧ ∀ d, d < S 6 → S (224 + 3 * d) ≤ 3 ∧ S (224 + 3 * d + 1) ≤ 99
theorem hreS_0 {r : Nat} (h : S (128 + 4 * r + 1) = 0) : hreS S (r + 1) = hreS S r := by
  show hreS S r + _ = _
  rw [if_pos h, Nat.add_zero]
theorem hreS_1 {r : Nat} (h : ¬ S (128 + 4 * r + 1) = 0) : hreS S (r + 1) = hreS S r + giveS S r (S (144 + 3 * (6 * r + (S (128 + 4 * r + 1) - 1)) + 1)) := by
  show hreS S r + _ = _
  rw [if_neg h]
/-- a reel goes on, and is wound -/
def goS (S : Nat → Nat) (r : Nat) : Nat → Nat :=
  if S (128 + 4 * r + 1) = 0 then S else upN (upN (upN S (128 + 4 * r) (S (128 + 4 * r) + 1)) (128 + 4 * r + 2) (S (128 + 4 * r + 2) - 1)) (128 + 4 * r + 1) (if S (128 + 4 * r + 2) - 1 = 0 then 0 else S (128 + 4 * r + 1))
def windS (S : Nat → Nat) (r t : Nat) : Nat → Nat := if S (128 + 4 * r + 1) = 0 then upN S (128 + 4 * r) (nearS (S (128 + 4 * r)) t (S 0)) else S
/-- the next cue that calls a sound of a reel -/
def nxF (S : Nat → Nat) (r : Nat) : Nat → Nat → Option Nat
  | 0, _ => none
  | j + 1, c => if S (8 + 5 * c + 4) = 0 ∧ S (8 + 5 * c + 1) = 0 ∧ S (8 + 5 * c + 2) = r then some c else nxF S r j (c + 1)
def oI : Option Nat → Int32
  | none => -6
  | some c => nI c
theorem nxF_some {r : Nat} : ∀ {j c d : Nat}, nxF S r j c = some d → c ≤ d ∧ d < c + j ∧ S (8 + 5 * d + 4) = 0 ∧ S (8 + 5 * d + 1) = 0 ∧ S (8 + 5 * d + 2) = r
  | 0, c, d, h => by simp [nxF] at h
  | j + 1, c, d, h => by
    unfold nxF at h
    split at h
    · rename_i hq
      cases h
      exact ⟨Nat.le_refl _, by omega, hq⟩
    · obtain ⟨h1, h2, h3⟩ := nxF_some h
      exact ⟨by omega, by omega, h3⟩
end PB
