/-! ===== states are held and recorded ===== -/
section RE
variable {fl : Nat} {len : Nat → Nat} {X : Xm} {I I1 : Im} {b : Nat} {S S' : Nat → Nat} {K n t : Nat} {sg : Nat → Nat} {W : Nat → Nat → Nat} {Hs Ss : Nat → Nat → Nat} {Hk Sk sv tx : Nat → Nat}
/-- the reference records the state -/
def cpR (I : Im) (a o s k : Nat) : Im := pAr I a (fun j => if o ≤ j ∧ j < o + k then gA I s (j - o) else gA I a j)
theorem cpR_0 (I : Im) (a o s : Nat) : cpR I a o s 0 = I := by
  unfold cpR
  have : (fun j => if o ≤ j ∧ j < o + 0 then gA I s (j - o) else gA I a j) = gA I a := by
    funext j; rw [if_neg (by omega)]
  rw [this]
  unfold pAr
  have : (fun i j => if i = a then gA I a j else I.2 i j) = I.2 := by
    funext i j
    by_cases h : i = a
    · rw [if_pos h, h]; rfl
    · rw [if_neg h]
  rw [this]
theorem cpR_up {a o s k : Nat} {v : Int32} (hv : v = gA I s k) : pA (cpR I a o s k) a (o + k) v = cpR I a o s (k + 1) := by
  unfold cpR pA pAr
  refine congrArg (fun z => (I.1, z)) ?_
  funext i j
  by_cases h : i = a
  · subst h
    by_cases hj : j = o + k
    · subst hj
      simp [u2, hv]
    · simp only [u2, hj, and_false, if_false, if_true]
      by_cases h1 : o ≤ j ∧ j < o + k
      · rw [if_pos h1, if_pos (show o ≤ j ∧ j < o + (k + 1) by omega)]
      · rw [if_neg h1, if_neg (show ¬ (o ≤ j ∧ j < o + (k + 1)) by omega)]
  · simp [u2, h]
theorem gA_cpR_ne {a o s k c j : Nat} (h : c ≠ a) : gA (cpR I a o s k) c j = gA I c j := by unfold cpR; rw [gA_pAr, if_neg h]
theorem gA_cpR {a o s k j : Nat} : gA (cpR I a o s k) a j = if o ≤ j ∧ j < o + k then gA I s (j - o) else gA I a j := by unfold cpR; rw [gA_pAr, if_pos rfl]
theorem gF_cpR {a o s k f c : Nat} : gF (cpR I a o s k) f c = gF I f c := rfl
/-- the past moves down by a row -/
def shR (I : Im) (a k : Nat) : Im := pAr I a (fun j => if j < k then gA I a (j + 1620) else gA I a j)
theorem shR_0 (I : Im) (a : Nat) : shR I a 0 = I := by
  have e : shR I a 0 = cpR I a 0 0 0 := by
    unfold shR cpR
    congr 1
  rw [e, cpR_0]
theorem gA_shR {a k j : Nat} : gA (shR I a k) a j = if j < k then gA I a (j + 1620) else gA I a j := by unfold shR; rw [gA_pAr, if_pos rfl]
theorem gA_shR_ne {a k c j : Nat} (h : c ≠ a) : gA (shR I a k) c j = gA I c j := by unfold shR; rw [gA_pAr, if_neg h]
theorem shR_up {a k : Nat} {v : Int32} (hv : v = gA I a (k + 1620)) : pA (shR I a k) a k v = shR I a (k + 1) := by
  unfold shR pA pAr
  refine congrArg (fun z => (I.1, z)) ?_
  funext i j
  by_cases h : i = a
  · subst h
    by_cases hj : j = k
    · subst hj
      simp [u2, hv]
    · simp only [u2, hj, and_false, if_false, if_true]
      by_cases h1 : j < k
      · rw [if_pos h1, if_pos (show j < k + 1 by omega)]
      · rw [if_neg h1, if_neg (show ¬ j < k + 1 by omega)]
  · simp [u2, h]
/-- the row of the past behind a change -/
def nxN (n : Nat) : Nat := if n = 6 then 6 else n + 1
/-- the history behind a change: where it is full, the oldest state's place comes last -/
def sgN (sg : Nat → Nat) (n : Nat) : Nat → Nat := fun i => if n = 6 then (if i = 0 then sg 0 else if i = 7 then sg 1 else sg (i + 1)) else sg i
theorem q_drop (hfl : 10000 ≤ fl) (hL : LG len b) (h130 : gR X 130 b = some (b + 145)) (hQ : ∀ i, i < 7 → gQ X (b + 145) i = some (sg (i + 1))) : ∃ X1, m8_dropOldestState fl len X I b = some (pF I 131 b (nI 6), X1) ∧ (∀ f a, gR X1 f a = gR X f a) ∧ (∀ a j, a ≠ b + 145 → gQ X1 a j = gQ X a j) ∧ ∀ i, i < 7 → gQ X1 (b + 145) i = some (sgN sg 6 (i + 1)) := by
  have key : ∀ (j k n : Nat) (Y : Xm), k + j = 7 → 1 ≤ k → j < n → (∀ f a, gR Y f a = gR X f a) → (∀ a j, a ≠ b + 145 → gQ Y a j = gQ X a j) → (∀ i, i < 7 → gQ Y (b + 145) i = some (if i + 1 < k then sg (i + 2) else sg (i + 1))) → ∃ X1, m8_dropOldestState_9 fl len n I Y b (sg 1) (nI k) = some (pF I 131 b (nI 6), X1) ∧ (∀ f a, gR X1 f a = gR X f a) ∧ (∀ a j, a ≠ b + 145 → gQ X1 a j = gQ X a j) ∧ ∀ i, i < 7 → gQ X1 (b + 145) i = some (sgN sg 6 (i + 1)) := by
    intro j
    induction j with
    | zero =>
      intro k n Y hj h1 hn f1 f2 f3
      obtain ⟨n, rfl⟩ : ∃ n', n = n' + 1 := ⟨n - 1, by omega⟩
      refine ⟨pQ Y (b + 145) 6 (some (sg 1)), ?_, fun f a => by rw [gR_pQ, f1], fun a j ha => by rw [gQ_pQ, if_neg (fun q => ha q.1), f2 a j ha], fun i hi => ?_⟩
      · show m8_dropOldestState_9b fl len (m8_dropOldestState_9 fl len n) _ _ _ _ _ = _
        rw [m8_dropOldestState_9b, f1, h130, nn_s, hL.1.1, if_pos (by rw [nI_leI (by omega) (by omega)]; omega), L1, nI_sub (by omega), ck_inb _ (by omega) (by omega), nI_clamp (by omega), lt_e]
        rfl
      · rw [gQ_pQ]
        unfold sgN
        by_cases e : i = 6
        · rw [if_pos ⟨rfl, e⟩, e]; rfl
        · rw [if_neg (fun q => e q.2), f3 i hi, if_pos (by omega), if_pos rfl, if_neg (by omega), if_neg (by omega)]
    | succ j ih =>
      intro k n Y hj h1 hn f1 f2 f3
      obtain ⟨n, rfl⟩ : ∃ n', n = n' + 1 := ⟨n - 1, by omega⟩
      obtain ⟨X1, r, g1, g2, g3⟩ := ih (k + 1) n (pQ Y (b + 145) (k - 1) (some (sg (k + 1)))) (by omega) (by omega) (by omega) (fun f a => by rw [gR_pQ, f1]) (fun a j ha => by rw [gQ_pQ, if_neg (fun q => ha q.1), f2 a j ha]) (fun i hi => by
        rw [gQ_pQ]
        by_cases e : i = k - 1
        · rw [if_pos ⟨rfl, e⟩, if_pos (by omega), show i + 2 = k + 1 by omega]
        · rw [if_neg (fun q => e q.2), f3 i hi]
          by_cases h2 : i + 1 < k
          · rw [if_pos h2, if_pos (by omega)]
          · rw [if_neg h2, if_neg (by omega)])
      refine ⟨X1, ?_, g1, g2, g3⟩
      rw [← r]
      show m8_dropOldestState_9b fl len (m8_dropOldestState_9 fl len n) _ _ _ _ _ = _
      rw [m8_dropOldestState_9b, f1, h130, nn_s, hL.1.1, if_neg (by rw [nI_leI (by omega) (by omega)]; omega), ck_inb _ (by omega) (by omega), nI_clamp (by omega), f3 k (by omega), if_neg (by omega), nn_s, L1, nI_sub (by omega), ck_inb _ (by omega) (by omega), nI_clamp (by omega), lt_e, lt_e, nI_add]
  obtain ⟨X1, r, g1, g2, g3⟩ := key 6 1 fl X (by omega) (by omega) (by omega) (fun _ _ => rfl) (fun _ _ _ => rfl) (fun i hi => by rw [hQ i hi, if_neg (by omega)])
  refine ⟨X1, ?_, g1, g2, g3⟩
  rw [m8_dropOldestState, h130, nn_s, hL.1.1, L0, ck_inb _ (by omega) (by omega), nI_clamp (by omega), hQ 0 (by omega), nn_s]
  exact r
theorem q_record (hfl : 10000 ≤ fl) (hL : LG len b) (h130 : gR X 130 b = some (b + 145)) (hQ : ∀ i, i < 7 → gQ X (b + 145) i = some (sg (i + 1))) (hn : n ≤ 6) (h131 : gF I 131 b = nI n) {v : Nat} (hv : v < 2 ^ 31) : ∃ I1 X1, m8_recorded fl len X I b (nI v) = some (nI v, I1, X1) ∧ gF I1 131 b = nI (nxN n) ∧ (∀ f a, f ≠ 131 ∨ a ≠ b → gF I1 f a = gF I f a) ∧ (∀ a j, gA I1 a j = gA I a j) ∧ (∀ f a, gR X1 f a = gR X f a) ∧ (∀ a j, a ≠ b + 145 → gQ X1 a j = gQ X a j) ∧ ∀ i, i < 7 → gQ X1 (b + 145) i = some (sgN sg n (i + 1)) := by
  unfold nxN
  by_cases h6 : n = 6
  · subst h6
    obtain ⟨X1, r, g1, g2, g3⟩ := q_drop (fl := fl) (len := len) (I := pF I 131 b (nI 7)) hfl hL h130 hQ
    refine ⟨pF (pF I 131 b (nI 7)) 131 b (nI 6), X1, ?_, by rw [gF_s]; rfl, fun f a hf => by rw [gF_pF, if_neg (by omega), gF_pF, if_neg (by omega)], fun _ _ => rfl, g1, g2, g3⟩
    rw [m8_recorded, if_pos (by rw [L0, nI_leI (by omega) (by omega)]; omega), h131, L1, nI_add, lt_e, gF_s, L6, if_neg (by rw [nI_leI (by omega) (by omega)]; omega), r, nn_s]
    rfl
  · rw [if_neg h6]
    refine ⟨pF I 131 b (nI (n + 1)), X, ?_, gF_s, fun f a hf => by rw [gF_pF, if_neg (by omega)], fun _ _ => rfl, fun _ _ => rfl, fun _ _ _ => rfl, fun i hi => by unfold sgN; rw [if_neg h6]; exact hQ i hi⟩
    rw [m8_recorded, if_pos (by rw [L0, nI_leI (by omega) (by omega)]; omega), h131, L1, nI_add, lt_e, gF_s, L6, if_pos (by rw [nI_leI (by omega) (by omega)]; omega)]
    rfl
theorem q_recneg {v : Int32} (hv : ¬ (0 : Int32) ≤ v) : m8_recorded fl len X I b v = some (v, I, X) := by
  rw [m8_recorded, if_neg hv]
end RE
