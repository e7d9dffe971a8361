/-! ===== what both sides hold between two calls ===== -/
/-- the addresses of the plays that undo and the present exchange, and of all plays -/
def PA (b a : Nat) : Prop := a = b + 1 ∨ (b + 151 ≤ a ∧ a < b + 655 ∧ (a - (b + 151)) % 72 = 0)
def isP (b a : Nat) : Prop := PA b a ∨ a = b + 73 ∨ a = b + 655 ∨ a = b + 727
theorem isP.in {b a : Nat} (h : isP b a) : b + 1 ≤ a ∧ a + 72 ≤ b + 799 ∧ (a + 72 ≤ b + 145 ∨ b + 151 ≤ a) := by
  unfold isP PA at h
  omega
theorem isP.apart {b a c : Nat} (h : isP b a) (h2 : isP b c) (hn : a ≠ c) : a + 72 ≤ c ∨ c + 72 ≤ a := by
  unfold isP PA at h h2
  omega
theorem PA.p {b a : Nat} (h : PA b a) : isP b a := Or.inl h
theorem PA.nt {b a : Nat} (h : PA b a) : a ≠ b + 73 ∧ a ≠ b + 655 ∧ a ≠ b + 727 := by
  unfold PA at h
  omega
def LG (len : Nat → Nat) (b : Nat) : Prop := (len (b + 145) = 7 ∧ len (b + 146) = 2 ∧ len (b + 147) = 2 ∧ len (b + 149) = 80 ∧ len (b + 150) = 3) ∧ True ∧ ∀ a, isP b a → LN len a
def XG (X : Xm) (b : Nat) (sg : Nat → Nat) (W : Nat → Nat → Nat) : Prop :=
  (gR X 128 b = some (sg 0) ∧ gR X 129 b = some (b + 73) ∧ gR X 130 b = some (b + 145) ∧ gR X 132 b = some (b + 146) ∧ gR X 133 b = some (b + 147) ∧ gR X 134 b = some (b + 148) ∧ gR X 48 (b + 148) = some (b + 149) ∧ gR X 52 (b + 148) = some (b + 150)) ∧
  (∀ i, i < 7 → gQ X (b + 145) i = some (sg (i + 1))) ∧ (∀ i, i < 2 → gQ X (b + 146) i = some (b + 655 + 72 * i)) ∧
  (∀ i, i < 8 → PA b (sg i)) ∧ (∀ i, i < 8 → ∀ j, j < 8 → sg i = sg j → i = j) ∧ (∀ a, isP b a → XS X a ∧ XC X a (W a)) ∧ True
theorem mS_self {I : Im} {a : Nat} {S : Nat → Nat} (h : ∀ j, gA I a j = nI (S j)) : mS I a S = I := by
  unfold mS pAr
  have : (fun i j => if i = a then nI (S j) else I.2 i j) = I.2 := by
    funext i j
    by_cases hi : i = a
    · rw [if_pos hi, hi]; exact (h j).symm
    · rw [if_neg hi]
  rw [this]
section RA
variable {I I1 : Im} {X : Xm} {p b : Nat} {S S' : Nat → Nat} {K n t : Nat} {w : Nat → Nat} {sg : Nat → Nat} {W : Nat → Nat → Nat} {Hs Ss : Nat → Nat → Nat} {Hk Sk sv tx : Nat → Nat}
/-- a play whose cells are as they were stands for what it stood for -/
theorem Cs.same (h : Cs I p S K w) (hC : XC X p w) (h5 : S 5 ≤ 24) (hm : ∀ r, r < 4 → S (128 + 4 * r + 3) ≤ 6) (hI : ∀ a, p ≤ a → a < p + 72 → (∀ f, gF I1 f a = gF I f a) ∧ ∀ j, gA I1 a j = gA I a j) : Cs I1 p S K w := by
  obtain ⟨d1, d2, d5, d6, d7, d8, d9, d10⟩ := h
  refine ⟨fun j hj => ?_, ?_, fun c hc => ?_, ⟨?_, fun d hd => ?_⟩, ⟨?_, fun j hj => ?_⟩, fun j hj => ?_, fun r hr => ⟨⟨?_, ?_, ?_, ?_⟩, fun k hk => ?_⟩, fun ch hch => ?_⟩
  · rw [(hI _ (by omega) (by omega)).2]; exact d1 j hj
  · unfold D2
    rw [(hI p (by omega) (by omega)).1, (hI (p + 2) (by omega) (by omega)).1, (hI (p + 2) (by omega) (by omega)).1]; exact d2
  · obtain ⟨-, h2, -⟩ := hC c (by omega)
    rw [(hI (w c) (by omega) (by omega)).1, (hI (w c) (by omega) (by omega)).1, (hI (w c) (by omega) (by omega)).1, (hI (w c) (by omega) (by omega)).1, (hI (w c) (by omega) (by omega)).1]; exact d5 c hc
  · rw [(hI (p + 30) (by omega) (by omega)).1]; exact d6.1
  · rw [(hI (p + 31) (by omega) (by omega)).2, (hI (p + 32) (by omega) (by omega)).2, (hI (p + 33) (by omega) (by omega)).2]; exact d6.2 d hd
  · rw [(hI p (by omega) (by omega)).1]; exact d7.1
  · rw [(hI (p + 34) (by omega) (by omega)).2]; exact d7.2 j hj
  · rw [(hI (p + 35) (by omega) (by omega)).2]; exact d8 j hj
  · rw [(hI (p + 36 + 8 * r) (by omega) (by omega)).1]; exact (d9 r hr).1.1
  · rw [(hI (p + 36 + 8 * r) (by omega) (by omega)).1]; exact (d9 r hr).1.2.1
  · rw [(hI (p + 36 + 8 * r) (by omega) (by omega)).1]; exact (d9 r hr).1.2.2.1
  · rw [(hI (p + 36 + 8 * r) (by omega) (by omega)).1]; exact (d9 r hr).1.2.2.2
  · have hm6 := hm r hr
    rw [(hI (p + 36 + 8 * r + 2 + k) (by omega) (by omega)).1, (hI (p + 36 + 8 * r + 2 + k) (by omega) (by omega)).1, (hI (p + 36 + 8 * r + 2 + k) (by omega) (by omega)).1, (hI (p + 36 + 8 * r + 2 + k) (by omega) (by omega)).1]
    exact (d9 r hr).2 k hk
  · rw [(hI (p + 68 + ch) (by omega) (by omega)).1, (hI (p + 68 + ch) (by omega) (by omega)).1]; exact d10 ch hch
theorem Iv.m6 (h : Iv S K) : S 5 ≤ 24 ∧ ∀ r, r < 4 → S (128 + 4 * r + 3) ≤ 6 := ⟨h.2.1.2.2, fun r hr => (h.2.2.2.1 r hr).1⟩
theorem Iv.congr (h : Iv S K) (he : ∀ j, j < 1620 → S' j = S j) (hB : Bn S') : Iv S' K := by
  obtain ⟨iA, iB, iC, iR, iS, iH, iD, iP, iN⟩ := h
  exact ⟨iA.to fun j hj => he j (by omega), ⟨by rw [he 4 (by omega)]; exact iB.1, by rw [he 5 (by omega)]; exact iB.2.1, by rw [he 5 (by omega)]; exact iB.2.2⟩, iC.to (fun j _ _ => he j (by omega)) (he 4 (by omega)) (he 5 (by omega)) iB.2.2 (fun r hr => he _ (by omega)), iR.to (fun j _ _ => he j (by omega)) (he 4 (by omega)), iS.to (fun j _ _ => he j (by omega)) (fun r hr => he _ (by omega)) (fun r hr => (iR r hr).1) (Nat.le_refl K), iH.to (fun j _ _ => he j (by omega)), iD.to (fun j _ _ => he j (by omega)) (he 4 (by omega)) (he 6 (by omega)) (by have := iD.1; have := iB.2; omega) (Nat.le_refl K), iP.to (fun j _ => he _ (by omega)) (fun j _ _ => he j (by omega)) (he 7 (by omega)) (fun r hr => he _ (by omega)), hB⟩
theorem Cs.congr (h : Cs I p S K w) (hv : Iv S K) (he : ∀ j, j < 1620 → S' j = S j) : Cs I p S' K w := by
  obtain ⟨d1, d2, d5, d6, d7, d8, d9, d10⟩ := h
  have h67 := h67_le hv
  have h4 := hv.2.1.1
  refine ⟨d1.to (fun _ => rfl) (fun j hj => he j (by omega)), d2.to rfl rfl rfl (he _ (by omega)) (he _ (by omega)), d5.to (fun _ _ _ _ => rfl) (he _ (by omega)) hv.2.1.2.2 (fun j _ _ => he j (by omega)), d6.to rfl (fun _ _ _ _ => rfl) (he _ (by omega)) h67.1 (fun j _ _ => he j (by omega)), d7.to rfl (fun _ => rfl) (he _ (by omega)) h67.2 (fun j _ _ => he j (by omega)), fun j hj => ?_, d9.to (fun r hr => (hv.2.2.2.1 r hr).1) (fun _ _ _ => rfl) (fun j _ _ => he j (by omega)), d10.to (fun _ _ _ => rfl) (fun j _ _ => he j (by omega))⟩
  rw [he 4 (by omega)] at hj
  rw [he _ (by omega)]
  exact d8 j hj
/-- what may change without a trace: the trial, the reference's spare row, what reads a text -/
def sp (b a : Nat) : Prop := (b + 73 ≤ a ∧ a < b + 145) ∨ a = b + 804 ∨ a = b + 806 ∨ a = b + 150
end RA
