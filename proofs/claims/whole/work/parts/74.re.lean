/-! ===== states are held and recorded ===== -/
section RE
variable {fl : Nat} {len : Nat → Nat} {X : Xm} {I I1 : Im} {b : Nat} {S S' : Nat → Nat} {K n t : Nat} {sg : Nat → Nat} {W : Nat → Nat → Nat} {Hs Ss : Nat → Nat → Nat} {Hk Sk sv tx : Nat → Nat}
/-- the reference records the state -/
def cpR (I : Im) (a o s k : Nat) : Im := pAr I a (fun j => if o ≤ j ∧ j < o + k then gA I s (j - o) else gA I a j)
theorem cpR_0 (I : Im) (a o s : Nat) : cpR I a o s 0 = I := by
  unfold cpR
  have : (fun j => if o ≤ j ∧ j < o + 0 then gA I s (j - o) else gA I a j) = gA I a := by
    funext j; rw [if_neg (by omega)]
  rw [this]
  unfold pAr
  have : (fun i j => if i = a then gA I a j else I.2 i j) = I.2 := by
    funext i j
    by_cases h : i = a
    · rw [if_pos h, h]; rfl
    · rw [if_neg h]
  rw [this]
theorem cpR_up {a o s k : Nat} {v : Int32} (hv : v = gA I s k) : pA (cpR I a o s k) a (o + k) v = cpR I a o s (k + 1) := by
  unfold cpR pA pAr
  refine congrArg (fun z => (I.1, z)) ?_
  funext i j
  by_cases h : i = a
  · subst h
    by_cases hj : j = o + k
    · subst hj
      simp [u2, hv]
    · simp only [u2, hj, and_false, if_false, if_true]
      by_cases h1 : o ≤ j ∧ j < o + k
      · rw [if_pos h1, if_pos (show o ≤ j ∧ j < o + (k + 1) by omega)]
      · rw [if_neg h1, if_neg (show ¬ (o ≤ j ∧ j < o + (k + 1)) by omega)]
  · simp [u2, h]
theorem gA_cpR_ne {a o s k c j : Nat} (h : c ≠ a) : gA (cpR I a o s k) c j = gA I c j := by unfold cpR; rw [gA_pAr, if_neg h]
theorem gA_cpR {a o s k j : Nat} : gA (cpR I a o s k) a j = if o ≤ j ∧ j < o + k then gA I s (j - o) else gA I a j := by unfold cpR; rw [gA_pAr, if_pos rfl]
theorem gF_cpR {a o s k f c : Nat} : gF (cpR I a o s k) f c = gF I f c := rfl
theorem p_ch60 (h144 : gR X 144 (b + 799) = some (b + 800)) (h145 : gR X 145 (b + 799) = some (b + 801)) (hl : len (b + 800) = 1620) (hl1 : len (b + 801) = 9720) {m : Nat} (hm : m ≤ 5) (h149 : gF I 149 (b + 799) = nI m) : ∀ (j k n : Nat), k + j = 1620 → j < n → m9_changes_60 fl len X n (cpR I (b + 801) (1620 * m) (b + 800) k) (b + 799) (nI k) = some (pF (cpR I (b + 801) (1620 * m) (b + 800) 1620) 149 (b + 799) (nI (m + 1))) := by
  intro j
  induction j with
  | zero =>
    intro k n hj hn
    obtain ⟨n, rfl⟩ : ∃ n', n = n' + 1 := ⟨n - 1, by omega⟩
    show m9_changes_60b fl len X (m9_changes_60 fl len X n) _ _ _ = _
    rw [m9_changes_60b, L1620, if_pos (by rw [nI_leI (by omega) (by omega)]; omega), gF_cpR, h149, L1, nI_add, lt_e, show k = 1620 by omega]
  | succ j ih =>
    intro k n hj hn
    obtain ⟨n, rfl⟩ : ∃ n', n = n' + 1 := ⟨n - 1, by omega⟩
    have ih := ih (k + 1) n (by omega) (by omega)
    show m9_changes_60b fl len X (m9_changes_60 fl len X n) _ _ _ = _
    rw [m9_changes_60b, L1620, if_neg (by rw [nI_leI (by omega) (by omega)]; omega), h145, nn_s, h144, nn_s, hl, ck_inb _ (by omega) (by omega), gF_cpR, h149, nI_mul, nI_add, hl1, ck_inb _ (by omega) (by omega), nI_clamp (by omega), nI_clamp (by omega), gA_cpR_ne (by omega), cpR_up rfl, lt_e, lt_e, L1, nI_add]
    exact ih
/-- the past moves down by a row -/
def shR (I : Im) (a k : Nat) : Im := pAr I a (fun j => if j < k then gA I a (j + 1620) else gA I a j)
theorem shR_0 (I : Im) (a : Nat) : shR I a 0 = I := by
  have e : shR I a 0 = cpR I a 0 0 0 := by
    unfold shR cpR
    congr 1
  rw [e, cpR_0]
theorem gA_shR {a k j : Nat} : gA (shR I a k) a j = if j < k then gA I a (j + 1620) else gA I a j := by unfold shR; rw [gA_pAr, if_pos rfl]
theorem gA_shR_ne {a k c j : Nat} (h : c ≠ a) : gA (shR I a k) c j = gA I c j := by unfold shR; rw [gA_pAr, if_neg h]
theorem shR_up {a k : Nat} {v : Int32} (hv : v = gA I a (k + 1620)) : pA (shR I a k) a k v = shR I a (k + 1) := by
  unfold shR pA pAr
  refine congrArg (fun z => (I.1, z)) ?_
  funext i j
  by_cases h : i = a
  · subst h
    by_cases hj : j = k
    · subst hj
      simp [u2, hv]
    · simp only [u2, hj, and_false, if_false, if_true]
      by_cases h1 : j < k
      · rw [if_pos h1, if_pos (show j < k + 1 by omega)]
      · rw [if_neg h1, if_neg (show ¬ j < k + 1 by omega)]
  · simp [u2, h]
theorem p_ch19 (hfl : 10000 ≤ fl) (h144 : gR X 144 (b + 799) = some (b + 800)) (h145 : gR X 145 (b + 799) = some (b + 801)) (hl : len (b + 800) = 1620) (hl1 : len (b + 801) = 9720) (h149 : gF I 149 (b + 799) = nI 6) : ∀ (j k n : Nat), k + j = 8100 → j < n → m9_changes_19 fl len X n (shR I (b + 801) k) (b + 799) (nI k) = some (pF (cpR (pF (shR I (b + 801) 8100) 149 (b + 799) (nI 5)) (b + 801) 8100 (b + 800) 1620) 149 (b + 799) (nI 6)) := by
  intro j
  induction j with
  | zero =>
    intro k n hj hn
    obtain ⟨n, rfl⟩ : ∃ n', n = n' + 1 := ⟨n - 1, by omega⟩
    have e := p_ch60 (fl := fl) (len := len) (X := X) (I := pF (shR I (b + 801) 8100) 149 (b + 799) (nI 5)) (m := 5) h144 h145 hl hl1 (by omega) gF_s 1620 0 fl (by omega) (by omega)
    rw [cpR_0] at e
    show m9_changes_19b fl len X (m9_changes_19 fl len X n) _ _ _ = _
    rw [m9_changes_19b, L8100, if_pos (by rw [nI_leI (by omega) (by omega)]; omega), show gF (shR I (b + 801) k) 149 (b + 799) = nI 6 from h149, L1, nI_sub (by omega), lt_e, m9_changes_58, show k = 8100 by omega]
    exact e
  | succ j ih =>
    intro k n hj hn
    obtain ⟨n, rfl⟩ : ∃ n', n = n' + 1 := ⟨n - 1, by omega⟩
    have ih := ih (k + 1) n (by omega) (by omega)
    show m9_changes_19b fl len X (m9_changes_19 fl len X n) _ _ _ = _
    rw [m9_changes_19b, L8100, if_neg (by rw [nI_leI (by omega) (by omega)]; omega), h145, nn_s, L1620, nI_add, hl1, ck_inb _ (by omega) (by omega), ck_inb _ (by omega) (by omega), nI_clamp (by omega), nI_clamp (by omega), gA_shR, if_neg (by omega), shR_up rfl, lt_e, lt_e, L1, nI_add]
    exact ih
/-- the row of the past behind a change -/
def nxN (n : Nat) : Nat := if n = 6 then 6 else n + 1
theorem p_changes (hfl : 10000 ≤ fl) (h144 : gR X 144 (b + 799) = some (b + 800)) (h145 : gR X 145 (b + 799) = some (b + 801)) (hl : len (b + 800) = 1620) (hl1 : len (b + 801) = 9720) (hn : n ≤ 6) (h149 : gF I 149 (b + 799) = nI n) (h150 : gF I 150 (b + 799) = nI 0) : ∃ I1, m9_changes fl len X I (b + 799) = some I1 ∧ (∀ f a, f ≠ 149 → gF I1 f a = gF I f a) ∧ (∀ a j, a ≠ b + 801 → gA I1 a j = gA I a j) ∧ gF I1 149 (b + 799) = nI (nxN n) ∧ (∀ a, a ≠ b + 799 → gF I1 149 a = gF I 149 a) ∧ (∀ j, j < 1620 → gA I1 (b + 801) (1620 * (nxN n - 1) + j) = gA I (b + 800) j) ∧ ∀ i, i < nxN n - 1 → ∀ j, j < 1620 → gA I1 (b + 801) (1620 * i + j) = gA I (b + 801) (1620 * (if n = 6 then i + 1 else i) + j) := by
  unfold nxN
  by_cases h6 : n = 6
  · subst h6
    have e := p_ch19 (fl := fl) (len := len) (X := X) (I := I) hfl h144 h145 hl hl1 h149 8100 0 fl (by omega) (by omega)
    rw [shR_0] at e
    refine ⟨pF (cpR (pF (shR I (b + 801) 8100) 149 (b + 799) (nI 5)) (b + 801) 8100 (b + 800) 1620) 149 (b + 799) (nI 6), ?_, fun f a hf => by rw [gF_f hf, gF_cpR, gF_f hf]; rfl, fun a j ha => by rw [gA_pF, gA_cpR_ne ha, gA_pF, gA_shR_ne ha], by rw [gF_s]; rfl, fun a ha => by rw [gF_a ha, gF_cpR, gF_a ha]; rfl, fun j hj => ?_, fun i hi j hj => ?_⟩
    · rw [m9_changes, h150, if_pos (by decide), h149, if_pos (by decide)]
      exact e
    · simp only [if_true]
      rw [gA_pF, gA_cpR, if_pos (by omega), show 1620 * (6 - 1) + j - 8100 = j by omega, gA_pF, gA_shR_ne (by omega)]
    · simp only [if_true] at hi ⊢
      rw [gA_pF, gA_cpR, if_neg (by omega), gA_pF, gA_shR, if_pos (by omega), show 1620 * i + j + 1620 = 1620 * (i + 1) + j by omega]
  · have e := p_ch60 (fl := fl) (len := len) (X := X) (I := I) (m := n) h144 h145 hl hl1 (by omega) h149 1620 0 fl (by omega) (by omega)
    rw [cpR_0] at e
    simp only [if_neg h6]
    refine ⟨pF (cpR I (b + 801) (1620 * n) (b + 800) 1620) 149 (b + 799) (nI (n + 1)), ?_, fun f a hf => by rw [gF_f hf, gF_cpR], fun a j ha => by rw [gA_pF, gA_cpR_ne ha], gF_s, fun a ha => by rw [gF_a ha, gF_cpR], fun j hj => ?_, fun i hi j hj => ?_⟩
    · rw [m9_changes, h150, if_pos (by decide), h149, if_neg (by rw [L6, nI_eq (by omega) (by omega)]; exact h6)]
      exact e
    · rw [gA_pF, gA_cpR, if_pos (by omega), show 1620 * (n + 1 - 1) + j - 1620 * n = j by rw [Nat.add_sub_cancel]; omega]
    · rw [gA_pF, gA_cpR, if_neg (by omega)]
/-- a call that changes holds the state first -/
theorem q_hold (hfl : 10000 ≤ fl) (hL : LG len b) (h : RelW I X b sg W S K n Hs Hk sv Ss Sk t tx) : ∃ I1, m8_holdState fl len X I b = some I1 ∧ Fr (sg (n + 1)) I I1 ∧ Cs I1 (sg (n + 1)) S K (W (sg (n + 1))) := by
  obtain ⟨hX, hC, hH, hS, hT⟩ := h
  have hn := hH.1.1
  have p0 := hX.2.2.2.1 0 (by omega)
  have p1 := hX.2.2.2.1 (n + 1) (by omega)
  have hne : sg (n + 1) ≠ sg 0 := fun q => by have := hX.2.2.2.2.1 (n + 1) (by omega) 0 (by omega) q; omega
  obtain ⟨x1, x2⟩ := hX.2.2.2.2.2.1 _ p0.p
  obtain ⟨y1, y2⟩ := hX.2.2.2.2.2.1 _ p1.p
  obtain ⟨I1, r, f, c⟩ := q_copy (fl := fl) (len := len) hfl y1 (hL.2.2 _ p1.p) y2 x1 (hL.2.2 _ p0.p) x2 (p1.p.apart p0.p hne) hC.1 hC.2.1
  refine ⟨I1, ?_, f, c⟩
  rw [m8_holdState, hH.1.2.1, if_neg (nI_nneg (by omega)), hX.1.2.2.1, nn_s, hL.1.1, if_neg (by rw [nI_leI (by omega) (by omega)]; omega), ck_inb _ (by omega) (by omega), nI_clamp (by omega), hX.2.1 n (by omega), nn_s, hX.1.1, nn_s, r, nn_s]
  rfl
/-- where only the held state has changed, all stands -/
theorem RelW.hold (h : RelW I X b sg W S K n Hs Hk sv Ss Sk t tx) (hf : Fr (sg (n + 1)) I I1) : RelW I1 X b sg W S K n Hs Hk sv Ss Sk t tx := by
  obtain ⟨hX, hC, hH, hS, hT⟩ := h
  have hn := hH.1.1
  have p1 := hX.2.2.2.1 (n + 1) (by omega)
  have i1 := p1.p.in
  have nt := p1.nt
  have out : ∀ a, a ≤ b ∨ b + 799 ≤ a ∨ (b + 145 ≤ a ∧ a < b + 151) → (∀ f, gF I1 f a = gF I f a) ∧ ∀ j, gA I1 a j = gA I a j := fun a ha => hf a (by omega)
  have pl : ∀ a S K, isP b a → a ≠ sg (n + 1) → Iv S K → Cs I a S K (W a) → Cs I1 a S K (W a) := fun a S K ha hne hv hc =>
    hc.apart (hX.2.2.2.2.2.1 _ ha).2 hv (p1.p.apart ha (Ne.symm hne)) hf
  have inj : ∀ i, i < 8 → i ≠ n + 1 → sg i ≠ sg (n + 1) := fun i hi hne q => hne (hX.2.2.2.2.1 i hi (n + 1) (by omega) q)
  refine ⟨hX, ⟨hC.1, pl _ _ _ (hX.2.2.2.1 0 (by omega)).p (inj 0 (by omega) (by omega)) hC.1 hC.2.1, fun j => by rw [(out _ (by omega)).2]; exact hC.2.2 j⟩, ⟨⟨hn, by rw [(out _ (by omega)).1]; exact hH.1.2.1, by rw [(out _ (by omega)).1]; exact hH.1.2.2.1, by rw [(out _ (by omega)).1]; exact hH.1.2.2.2⟩, fun i hi => ⟨(hH.2 i hi).1, pl _ _ _ (hX.2.2.2.1 (i + 1) (by omega)).p (inj (i + 1) (by omega) (by omega)) (hH.2 i hi).1 (hH.2 i hi).2.1, fun j hj => by rw [(out _ (by omega)).2]; exact (hH.2 i hi).2.2 j hj⟩⟩, fun i hi => ⟨(hS i hi).1, by rw [(out _ (by omega)).2]; exact (hS i hi).2.1, by rw [(out _ (by omega)).2]; exact (hS i hi).2.2.1, fun hv => ⟨((hS i hi).2.2.2 hv).1, pl _ _ _ (by unfold isP; omega) (by omega) ((hS i hi).2.2.2 hv).1 ((hS i hi).2.2.2 hv).2.1, fun j hj => by rw [(out _ (by omega)).2]; exact ((hS i hi).2.2.2 hv).2.2 j hj⟩⟩, ⟨⟨hT.1.1, by rw [(out _ (by omega)).1]; exact hT.1.2.1, by rw [(out _ (by omega)).1]; exact hT.1.2.2⟩, fun j hj => ⟨(hT.2 j hj).1, by rw [(out _ (by omega)).2]; exact (hT.2 j hj).2.1, by rw [(out _ (by omega)).2]; exact (hT.2 j hj).2.2⟩⟩⟩
/-- the history behind a change: where it is full, the oldest state's place comes last -/
def sgN (sg : Nat → Nat) (n : Nat) : Nat → Nat := fun i => if n = 6 then (if i = 0 then sg 0 else if i = 7 then sg 1 else sg (i + 1)) else sg i
theorem q_drop (hfl : 10000 ≤ fl) (hL : LG len b) (h130 : gR X 130 b = some (b + 145)) (hQ : ∀ i, i < 7 → gQ X (b + 145) i = some (sg (i + 1))) : ∃ X1, m8_dropOldestState fl len X I b = some (pF I 131 b (nI 6), X1) ∧ (∀ f a, gR X1 f a = gR X f a) ∧ (∀ a j, a ≠ b + 145 → gQ X1 a j = gQ X a j) ∧ ∀ i, i < 7 → gQ X1 (b + 145) i = some (sgN sg 6 (i + 1)) := by
  have key : ∀ (j k n : Nat) (Y : Xm), k + j = 7 → 1 ≤ k → j < n → (∀ f a, gR Y f a = gR X f a) → (∀ a j, a ≠ b + 145 → gQ Y a j = gQ X a j) → (∀ i, i < 7 → gQ Y (b + 145) i = some (if i + 1 < k then sg (i + 2) else sg (i + 1))) → ∃ X1, m8_dropOldestState_9 fl len n I Y b (sg 1) (nI k) = some (pF I 131 b (nI 6), X1) ∧ (∀ f a, gR X1 f a = gR X f a) ∧ (∀ a j, a ≠ b + 145 → gQ X1 a j = gQ X a j) ∧ ∀ i, i < 7 → gQ X1 (b + 145) i = some (sgN sg 6 (i + 1)) := by
    intro j
    induction j with
    | zero =>
      intro k n Y hj h1 hn f1 f2 f3
      obtain ⟨n, rfl⟩ : ∃ n', n = n' + 1 := ⟨n - 1, by omega⟩
      refine ⟨pQ Y (b + 145) 6 (some (sg 1)), ?_, fun f a => by rw [gR_pQ, f1], fun a j ha => by rw [gQ_pQ, if_neg (fun q => ha q.1), f2 a j ha], fun i hi => ?_⟩
      · show m8_dropOldestState_9b fl len (m8_dropOldestState_9 fl len n) _ _ _ _ _ = _
        rw [m8_dropOldestState_9b, f1, h130, nn_s, hL.1.1, if_pos (by rw [nI_leI (by omega) (by omega)]; omega), L1, nI_sub (by omega), ck_inb _ (by omega) (by omega), nI_clamp (by omega), lt_e]
        rfl
      · rw [gQ_pQ]
        unfold sgN
        by_cases e : i = 6
        · rw [if_pos ⟨rfl, e⟩, e]; rfl
        · rw [if_neg (fun q => e q.2), f3 i hi, if_pos (by omega), if_pos rfl, if_neg (by omega), if_neg (by omega)]
    | succ j ih =>
      intro k n Y hj h1 hn f1 f2 f3
      obtain ⟨n, rfl⟩ : ∃ n', n = n' + 1 := ⟨n - 1, by omega⟩
      obtain ⟨X1, r, g1, g2, g3⟩ := ih (k + 1) n (pQ Y (b + 145) (k - 1) (some (sg (k + 1)))) (by omega) (by omega) (by omega) (fun f a => by rw [gR_pQ, f1]) (fun a j ha => by rw [gQ_pQ, if_neg (fun q => ha q.1), f2 a j ha]) (fun i hi => by
        rw [gQ_pQ]
        by_cases e : i = k - 1
        · rw [if_pos ⟨rfl, e⟩, if_pos (by omega), show i + 2 = k + 1 by omega]
        · rw [if_neg (fun q => e q.2), f3 i hi]
          by_cases h2 : i + 1 < k
          · rw [if_pos h2, if_pos (by omega)]
          · rw [if_neg h2, if_neg (by omega)])
      refine ⟨X1, ?_, g1, g2, g3⟩
      rw [← r]
      show m8_dropOldestState_9b fl len (m8_dropOldestState_9 fl len n) _ _ _ _ _ = _
      rw [m8_dropOldestState_9b, f1, h130, nn_s, hL.1.1, if_neg (by rw [nI_leI (by omega) (by omega)]; omega), ck_inb _ (by omega) (by omega), nI_clamp (by omega), f3 k (by omega), if_neg (by omega), nn_s, L1, nI_sub (by omega), ck_inb _ (by omega) (by omega), nI_clamp (by omega), lt_e, lt_e, nI_add]
  obtain ⟨X1, r, g1, g2, g3⟩ := key 6 1 fl X (by omega) (by omega) (by omega) (fun _ _ => rfl) (fun _ _ _ => rfl) (fun i hi => by rw [hQ i hi, if_neg (by omega)])
  refine ⟨X1, ?_, g1, g2, g3⟩
  rw [m8_dropOldestState, h130, nn_s, hL.1.1, L0, ck_inb _ (by omega) (by omega), nI_clamp (by omega), hQ 0 (by omega), nn_s]
  exact r
theorem q_record (hfl : 10000 ≤ fl) (hL : LG len b) (h130 : gR X 130 b = some (b + 145)) (hQ : ∀ i, i < 7 → gQ X (b + 145) i = some (sg (i + 1))) (hn : n ≤ 6) (h131 : gF I 131 b = nI n) {v : Nat} (hv : v < 2 ^ 31) : ∃ I1 X1, m8_recorded fl len X I b (nI v) = some (nI v, I1, X1) ∧ gF I1 131 b = nI (nxN n) ∧ (∀ f a, f ≠ 131 ∨ a ≠ b → gF I1 f a = gF I f a) ∧ (∀ a j, gA I1 a j = gA I a j) ∧ (∀ f a, gR X1 f a = gR X f a) ∧ (∀ a j, a ≠ b + 145 → gQ X1 a j = gQ X a j) ∧ ∀ i, i < 7 → gQ X1 (b + 145) i = some (sgN sg n (i + 1)) := by
  unfold nxN
  by_cases h6 : n = 6
  · subst h6
    obtain ⟨X1, r, g1, g2, g3⟩ := q_drop (fl := fl) (len := len) (I := pF I 131 b (nI 7)) hfl hL h130 hQ
    refine ⟨pF (pF I 131 b (nI 7)) 131 b (nI 6), X1, ?_, by rw [gF_s]; rfl, fun f a hf => by rw [gF_pF, if_neg (by omega), gF_pF, if_neg (by omega)], fun _ _ => rfl, g1, g2, g3⟩
    rw [m8_recorded, if_pos (by rw [L0, nI_leI (by omega) (by omega)]; omega), h131, L1, nI_add, lt_e, gF_s, L6, if_neg (by rw [nI_leI (by omega) (by omega)]; omega), r, nn_s]
    rfl
  · rw [if_neg h6]
    refine ⟨pF I 131 b (nI (n + 1)), X, ?_, gF_s, fun f a hf => by rw [gF_pF, if_neg (by omega)], fun _ _ => rfl, fun _ _ => rfl, fun _ _ _ => rfl, fun i hi => by unfold sgN; rw [if_neg h6]; exact hQ i hi⟩
    rw [m8_recorded, if_pos (by rw [L0, nI_leI (by omega) (by omega)]; omega), h131, L1, nI_add, lt_e, gF_s, L6, if_pos (by rw [nI_leI (by omega) (by omega)]; omega)]
    rfl
theorem q_recneg {v : Int32} (hv : ¬ (0 : Int32) ≤ v) : m8_recorded fl len X I b v = some (v, I, X) := by
  rw [m8_recorded, if_neg hv]
end RE
