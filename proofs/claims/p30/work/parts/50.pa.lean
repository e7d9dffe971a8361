/-! ===== pure runs: rules of computing ===== -/
theorem nn_s {α β : Type} (a : α) (k : α → Option β) : nn (some a) k = k a := rfl
theorem lt_e {α β : Type} (x : α) (k : α → Option β) : lt x k = k x := rfl
theorem ck_t {β : Type} {c : Prop} [Decidable c] (k : Option β) (h : c) : ck c k = k := if_pos h
theorem nI_mul (a b : Nat) : nI a * nI b = nI (a * b) := (Int32.ofNat_mul a b).symm
theorem nI_sub {a b : Nat} (h : b ≤ a) : nI a - nI b = nI (a - b) := by
  have e : nI a = nI (a - b) + nI b := by rw [nI_add, Nat.sub_add_cancel h]
  rw [e, Int32.add_sub_cancel]
theorem inb_nI {k n : Nat} (hn : k < 2 ^ 31) : inb (nI k) n = decide (k < n) := by
  unfold inb
  rw [nI_toInt hn]
  congr 1
  apply propext
  constructor <;> intro h <;> omega
theorem ck_inb {β : Type} {k n : Nat} (x : Option β) (h : k < n) (hk : k < 2 ^ 31) : ck (inb (nI k) n = true) x = x := ck_t x (by rw [inb_nI hk]; exact decide_eq_true h)
theorem ck_isbl0 {β : Type} (x : Option β) : ck (isbl (0 : Int32) = true) x = x := ck_t x rfl
theorem ck_isbl1 {β : Type} (x : Option β) : ck (isbl (1 : Int32) = true) x = x := ck_t x rfl
theorem ck_isblN {β : Type} {k : Nat} (x : Option β) (h : k < 2) : ck (isbl (nI k) = true) x = x := ck_t x (by
  have : k = 0 ∨ k = 1 := by omega
  rcases this with rfl | rfl <;> decide)
theorem L0 : (0 : Int32) = nI 0 := rfl
theorem L1 : (1 : Int32) = nI 1 := rfl
theorem L2 : (2 : Int32) = nI 2 := rfl
theorem L3 : (3 : Int32) = nI 3 := rfl
theorem L4 : (4 : Int32) = nI 4 := rfl
theorem L5 : (5 : Int32) = nI 5 := rfl
theorem L6 : (6 : Int32) = nI 6 := rfl
theorem L7 : (7 : Int32) = nI 7 := rfl
theorem L8 : (8 : Int32) = nI 8 := rfl
theorem L9 : (9 : Int32) = nI 9 := rfl
theorem L10 : (10 : Int32) = nI 10 := rfl
theorem L20 : (20 : Int32) = nI 20 := rfl
theorem L24 : (24 : Int32) = nI 24 := rfl
theorem L50 : (50 : Int32) = nI 50 := rfl
theorem L80 : (80 : Int32) = nI 80 := rfl
theorem L60 : (60 : Int32) = nI 60 := rfl
theorem L99 : (99 : Int32) = nI 99 := rfl
theorem L100 : (100 : Int32) = nI 100 := rfl
theorem L120 : (120 : Int32) = nI 120 := rfl
theorem L128 : (128 : Int32) = nI 128 := rfl
theorem L144 : (144 : Int32) = nI 144 := rfl
theorem L150 : (150 : Int32) = nI 150 := rfl
theorem L200 : (200 : Int32) = nI 200 := rfl
theorem L216 : (216 : Int32) = nI 216 := rfl
theorem L224 : (224 : Int32) = nI 224 := rfl
theorem L296 : (296 : Int32) = nI 296 := rfl
theorem L320 : (320 : Int32) = nI 320 := rfl
theorem L400 : (400 : Int32) = nI 400 := rfl
theorem L999 : (999 : Int32) = nI 999 := rfl
theorem L1200 : (1200 : Int32) = nI 1200 := rfl
theorem L1620 : (1620 : Int32) = nI 1620 := rfl
theorem L8100 : (8100 : Int32) = nI 8100 := rfl
theorem nI_div {a b : Nat} (ha : a < 2 ^ 31) (hb : b < 2 ^ 31) : nI a / nI b = nI (a / b) := by
  refine Int32.toInt_inj.mp ?_
  rw [Int32.toInt_div_of_ne_left (nI a) (nI b) (by
    intro h
    have := congrArg Int32.toInt h
    rw [nI_toInt ha] at this
    have e : (Int32.minValue).toInt = -2147483648 := by decide
    rw [e] at this
    omega), nI_toInt ha, nI_toInt hb, nI_toInt (Nat.lt_of_le_of_lt (Nat.div_le_self a b) ha)]
  exact (Int.ofNat_tdiv a b).symm
/-- the reference's flat row -/
def mS (I : Im) (a : Nat) (S : Nat → Nat) : Im := pAr I a (fun j => nI (S j))
def upN (S : Nat → Nat) (k v : Nat) : Nat → Nat := fun j => if j = k then v else S j
theorem upN_eq (S : Nat → Nat) (k v : Nat) : upN S k v k = v := if_pos rfl
theorem upN_ne {S : Nat → Nat} {k v j : Nat} (h : j ≠ k) : upN S k v j = S j := if_neg h
theorem gA_mS (I : Im) (a : Nat) (S : Nat → Nat) (j : Nat) : gA (mS I a S) a j = nI (S j) := by unfold mS; rw [gA_pAr, if_pos rfl]
theorem gA_mS_ne {I : Im} {a b : Nat} {S : Nat → Nat} {j : Nat} (h : b ≠ a) : gA (mS I a S) b j = gA I b j := by unfold mS; rw [gA_pAr, if_neg h]
theorem gF_mS (I : Im) (a : Nat) (S : Nat → Nat) (f b : Nat) : gF (mS I a S) f b = gF I f b := rfl
theorem pA_mS (I : Im) (a : Nat) (S : Nat → Nat) (k v : Nat) : pA (mS I a S) a k (nI v) = mS I a (upN S k v) := by
  unfold mS pA pAr
  refine congrArg (fun z => (I.1, z)) ?_
  funext b j
  by_cases h : b = a
  · subst h
    by_cases h2 : j = k
    · subst h2; simp [u2, upN]
    · simp [u2, upN, h2]
  · simp [u2, h]
section PA
variable {fl : Nat} {len : Nat → Nat} {X : Xm} {I : Im} {q : Nat} {S : Nat → Nat}
/-- where a sound begins -/
def begS (S : Nat → Nat) (r : Nat) : Nat → Nat
  | 0 => 0
  | k + 1 => begS S r k + S (144 + 3 * (6 * r + k))
/-- a sound starts -/
def startS (S : Nat → Nat) (r k : Nat) : Nat → Nat :=
  let S1 := upN (upN S (128 + 4 * r + 1) (k + 1)) (128 + 4 * r + 2) (S (144 + 3 * (6 * r + k)))
  let S2 := if S (144 + 3 * (6 * r + k) + 2) = 0 then upN (upN S1 (296 + S 7) (6 * r + k)) 7 (S 7 + 1) else S1
  upN S2 (144 + 3 * (6 * r + k) + 2) (S (144 + 3 * (6 * r + k) + 2) + 1)
end PA
