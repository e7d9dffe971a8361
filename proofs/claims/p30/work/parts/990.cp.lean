/-! ===== the start: a new object stands for the first state (out of the work on whole, no reference) ===== -/
theorem LY.left {K len : Nat → Nat} {a : Nat} {L1 L2 : List (Nat × Nat)} (h : LY K len a (L1 ++ L2)) : LY K len a L1 := by
  intro i hi
  have := h i (by rw [List.length_append]; omega)
  rwa [List.getD_eq_getElem?_getD, List.getElem?_append_left hi, ← List.getD_eq_getElem?_getD] at this
theorem LY.right {K len : Nat → Nat} {a n : Nat} {L1 L2 : List (Nat × Nat)} (h : LY K len a (L1 ++ L2)) (hn : L1.length = n) : LY K len (a + n) L2 := by
  intro i hi
  have := h (n + i) (by rw [List.length_append]; omega)
  rwa [List.getD_eq_getElem?_getD, List.getElem?_append_right (by omega), ← List.getD_eq_getElem?_getD, hn, Nat.add_sub_cancel_left, ← Nat.add_assoc] at this
theorem layPlay_len : layPlay.length = 72 := rfl
theorem layAll_len : layAll.length = 799 := by
  unfold layAll
  simp only [List.length_append, layPlay_len]
  rfl
def im0 : Im := (fun _ _ => 0, fun _ _ => 0)
def xm0 : Xm := (fun _ _ => none, fun _ _ => none)
theorem LY_self (L : List (Nat × Nat)) (a : Nat) : LY (fun x => (L.getD (x - a) (99, 0)).1) (fun x => (L.getD (x - a) (99, 0)).2) a L := by
  intro i hi
  constructor <;> simp only [Nat.add_sub_cancel_left]
theorem ZI_rcI {b t : Nat} {I : Im} (h : ZI t I) (ht : b + 799 ≤ t) : ZI t (rcI b I) :=
  ZI_lpI (fun _ _ hc h => ZI_playI h (by omega)) (ZI_lpI (fun _ _ hc h => ZI_playI h (by omega)) (ZI_playI (ZI_playI h (by omega)) (by omega)) 7 (by omega)) 2 (by omega)
theorem ZX_rcX {b t : Nat} {X : Xm} (h : ZX t X) (ht : b + 799 ≤ t) : ZX t (rcX b X) := by
  have h0 : ZX t (rcX0 b X) := by
    have hb : b < t := by omega
    exact (ZX_padX ((((((ZX_playX ((ZX_playX h (by omega)).pR hb) (by omega)).pR hb).pR hb).pR hb).pR hb)) (by omega)).pR hb
  exact ZX_lpX (fun _ _ hc h => ZX_playX h hc) (ZX_lpX (fun _ _ hc h => ZX_playX h hc) h0 (by omega) 7 (by omega)) (by omega) 2 (by omega)
def lawI (b : Nat) : Im := rcI b im0
def lawX (b : Nat) : Xm := rcX b xm0
def S0 : Nat → Nat := fun j => if j = 0 then 4 else if j = 1 then 2 else if j = 2 then 10 else if j = 3 then 150 else if 216 ≤ j ∧ j < 224 then 50 else 0
theorem S0_z {j : Nat} (h : 4 ≤ j) (h2 : j < 216 ∨ 224 ≤ j) : S0 j = 0 := by
  unfold S0
  rw [if_neg (by omega), if_neg (by omega), if_neg (by omega), if_neg (by omega), if_neg (by omega)]
theorem S0_50 {j : Nat} (h : 216 ≤ j) (h2 : j < 224) : S0 j = 50 := by
  unfold S0
  rw [if_neg (by omega), if_neg (by omega), if_neg (by omega), if_neg (by omega), if_pos ⟨h, h2⟩]
theorem Iv_S0 : Iv S0 0 := by
  have z : ∀ j, 4 ≤ j → j < 216 → S0 j = 0 := fun j h1 h2 => S0_z h1 (Or.inl h2)
  have z4 : S0 4 = 0 := rfl
  have z5 : S0 5 = 0 := rfl
  have z6 : S0 6 = 0 := rfl
  have z7 : S0 7 = 0 := rfl
  refine ⟨?_, ⟨by omega, by omega, by omega⟩, ⟨fun c hc => by omega, fun c hc => by omega⟩, fun r hr => ?_, ⟨fun r hr k hk => ?_, fun j hj => ?_, fun r hr k _ hk => ?_⟩, fun ch hc => ?_, ⟨by omega, fun d hd => by omega⟩, ⟨?_, fun i hi => by omega⟩, fun j => ?_⟩
  · unfold IvA; decide
  · rw [z (128 + 4 * r + 3) (by omega) (by omega), z (128 + 4 * r + 1) (by omega) (by omega), z (128 + 4 * r + 2) (by omega) (by omega), z (128 + 4 * r) (by omega) (by omega), z4]
    omega
  · rw [z (128 + 4 * r + 3) (by omega) (by omega)] at hk
    omega
  · rw [z (144 + 3 * j + 2) (by omega) (by omega)]
    omega
  · exact z _ (by omega) (by omega)
  · rw [S0_50 (by omega) (by omega), S0_50 (by omega) (by omega)]
    omega
  · decide
  · unfold S0
    repeat' split
    all_goals omega
section RZ
variable {X X1 X2 : Xm} {I I1 : Im} {a b c0 cs arr f j p : Nat}
theorem reels_83 : ∀ (n r : Nat), r < n → gF (lpI reelI c0 8 I n) 83 (c0 + 8 * r) = -6
  | n + 1, r, h => by
    show gF (pF (lpI reelI c0 8 I n) 83 (c0 + 8 * n) (-6)) 83 (c0 + 8 * r) = -6
    by_cases e : r = n
    · rw [e, gF_s]
    · rw [gF_a (by omega)]; exact reels_83 n r (by omega)
theorem reels_f (h : f ≠ 83) : ∀ n, gF (lpI reelI c0 8 I n) f a = gF I f a
  | 0 => rfl
  | n + 1 => by
    show gF (pF (lpI reelI c0 8 I n) 83 (c0 + 8 * n) (-6)) f a = _
    rw [gF_f h]; exact reels_f h n
theorem reels_o : ∀ n, (a < c0 ∨ c0 + 8 * n ≤ a) → gF (lpI reelI c0 8 I n) f a = gF I f a
  | 0, _ => rfl
  | n + 1, h => by
    show gF (pF (lpI reelI c0 8 I n) 83 (c0 + 8 * n) (-6)) f a = _
    rw [gF_a (by omega)]; exact reels_o n (by omega)
theorem reels_A : ∀ n, gA (lpI reelI c0 8 I n) a j = gA I a j
  | 0 => rfl
  | n + 1 => reels_A n
theorem chans_at : ∀ (n k : Nat), k < n → gF (lpI chanI c0 1 I n) 0 (c0 + k) = nI 50 ∧ gF (lpI chanI c0 1 I n) 1 (c0 + k) = nI 50
  | n + 1, k, h => by
    show gF (pF (pF (lpI chanI c0 1 I n) 0 (c0 + 1 * n) (nI 50)) 1 (c0 + 1 * n) (nI 50)) 0 (c0 + k) = nI 50 ∧ gF (pF (pF (lpI chanI c0 1 I n) 0 (c0 + 1 * n) (nI 50)) 1 (c0 + 1 * n) (nI 50)) 1 (c0 + k) = nI 50
    by_cases e : k = n
    · rw [e, Nat.one_mul, gF_f (by omega), gF_s, gF_s]
      exact ⟨rfl, rfl⟩
    · rw [gF_a (by omega), gF_a (by omega), gF_a (by omega), gF_a (by omega)]
      exact chans_at n k (by omega)
theorem chans_f (h0 : f ≠ 0) (h1 : f ≠ 1) : ∀ n, gF (lpI chanI c0 1 I n) f a = gF I f a
  | 0 => rfl
  | n + 1 => by
    show gF (pF (pF (lpI chanI c0 1 I n) 0 (c0 + 1 * n) 50) 1 (c0 + 1 * n) 50) f a = _
    rw [gF_f h1, gF_f h0]; exact chans_f h0 h1 n
theorem chans_o : ∀ n, (a < c0 ∨ c0 + n ≤ a) → gF (lpI chanI c0 1 I n) f a = gF I f a
  | 0, _ => rfl
  | n + 1, h => by
    show gF (pF (pF (lpI chanI c0 1 I n) 0 (c0 + 1 * n) 50) 1 (c0 + 1 * n) 50) f a = _
    rw [gF_a (by omega), gF_a (by omega)]; exact chans_o n (by omega)
theorem chans_A : ∀ n, gA (lpI chanI c0 1 I n) a j = gA I a j
  | 0 => rfl
  | n + 1 => chans_A n
theorem sets_o (h : a ≠ p) : gA (setsI p I) a j = gA I a j := by
  unfold setsI
  rw [gA_a h, gA_a h, gA_a h, gA_a h]
theorem sets_4 (h : 4 ≤ j) : gA (setsI p I) a j = gA I a j := by
  unfold setsI
  rw [gA_j (by omega), gA_j (by omega), gA_j (by omega), gA_j (by omega)]
theorem sets_S0 (h : j < 4) : gA (setsI p I) p j = nI (S0 j) := by
  unfold setsI
  have : j = 0 ∨ j = 1 ∨ j = 2 ∨ j = 3 := by omega
  rcases this with rfl | rfl | rfl | rfl
  · rw [gA_j (by omega), gA_j (by omega), gA_j (by omega), gA_s]; rfl
  · rw [gA_j (by omega), gA_j (by omega), gA_s]; rfl
  · rw [gA_j (by omega), gA_s]; rfl
  · rw [gA_s]; rfl
theorem gF_sets : gF (setsI p I) f a = gF I f a := rfl
/-- a new play: what it leaves -/
theorem playI_o (h : a < p ∨ p + 72 ≤ a) : (∀ f, gF (playI p I) f a = gF I f a) ∧ ∀ j, gA (playI p I) a j = gA I a j := by
  unfold playI
  exact ⟨fun f => by rw [chans_o 4 (by omega), reels_o 4 (by omega), gF_sets], fun j => by rw [chans_A, reels_A, sets_o (by omega)]⟩
theorem playI_cs {w : Nat → Nat} (hz : ZI p I) : Cs (playI p I) p S0 0 w := by
  have z : ∀ j, 4 ≤ j → j < 216 → S0 j = 0 := fun j h1 h2 => S0_z h1 (Or.inl h2)
  have g0 : ∀ f a, f ≠ 0 → f ≠ 1 → f ≠ 83 → p ≤ a → gF (playI p I) f a = nI 0 := fun f a h1 h2 h3 h4 => by
    unfold playI
    rw [chans_f h1 h2, reels_f h3, gF_sets, (hz a h4).1]
    rfl
  have z5 : S0 5 = 0 := rfl
  have z6 : S0 6 = 0 := rfl
  have z7 : S0 7 = 0 := rfl
  have z4 : S0 4 = 0 := rfl
  refine ⟨fun j hj => ?_, ⟨g0 _ _ (by omega) (by omega) (by omega) (by omega), g0 _ _ (by omega) (by omega) (by omega) (by omega), g0 _ _ (by omega) (by omega) (by omega) (by omega)⟩, fun c hc => by omega, ⟨g0 _ _ (by omega) (by omega) (by omega) (by omega), fun d hd => by omega⟩, ⟨g0 _ _ (by omega) (by omega) (by omega) (by omega), fun d hd => by omega⟩, fun j hj => by omega, fun r hr => ⟨⟨?_, ?_, ?_, ?_⟩, fun k hk => ?_⟩, fun ch hc => ?_⟩
  · unfold playI
    rw [chans_A, reels_A, sets_S0 hj]
  · rw [g0 _ _ (by omega) (by omega) (by omega) (by omega), z _ (by omega) (by omega)]
  · rw [g0 _ _ (by omega) (by omega) (by omega) (by omega), z _ (by omega) (by omega)]
  · rw [z _ (by omega) (by omega)]
    unfold playI
    rw [chans_f (by omega) (by omega), reels_83 4 r hr]
    rfl
  · rw [g0 _ _ (by omega) (by omega) (by omega) (by omega), z _ (by omega) (by omega)]
  · rw [z _ (by omega) (by omega)] at hk
    omega
  · rw [S0_50 (by omega) (by omega), S0_50 (by omega) (by omega)]
    unfold playI
    exact chans_at 4 ch hc
theorem plays_lo : ∀ n, a < c0 → (∀ f, gF (lpI playI c0 72 I n) f a = gF I f a) ∧ ∀ j, gA (lpI playI c0 72 I n) a j = gA I a j
  | 0, _ => ⟨fun _ => rfl, fun _ => rfl⟩
  | n + 1, h => by
    obtain ⟨e1, e2⟩ := plays_lo n h
    obtain ⟨u1, u2⟩ := playI_o (a := a) (p := c0 + 72 * n) (I := lpI playI c0 72 I n) (by omega)
    exact ⟨fun f => (u1 f).trans (e1 f), fun j => (u2 j).trans (e2 j)⟩
theorem rcI_lo (h : a < b + 73 ∨ (b + 145 ≤ a ∧ a < b + 151)) : (∀ f, gF (rcI b I) f a = gF (playI (b + 1) I) f a) ∧ ∀ j, gA (rcI b I) a j = gA (playI (b + 1) I) a j := by
  unfold rcI
  obtain ⟨e1, e2⟩ := plays_lo (a := a) (c0 := b + 655) (I := lpI playI (b + 151) 72 (playI (b + 73) (playI (b + 1) I)) 7) 2 (by omega)
  obtain ⟨u1, u2⟩ := plays_lo (a := a) (c0 := b + 151) (I := playI (b + 73) (playI (b + 1) I)) 7 (by omega)
  obtain ⟨y1, y2⟩ := playI_o (a := a) (p := b + 73) (I := playI (b + 1) I) (by omega)
  exact ⟨fun f => by rw [e1, u1, y1], fun j => by rw [e2, u2, y2]⟩
/-! references -/
theorem gR_no : ∀ n, gR (lpX noX arr c0 cs X n) f a = gR X f a
  | 0 => rfl
  | n + 1 => gR_no n
theorem gQ_no (h : a ≠ arr) : ∀ n, gQ (lpX noX arr c0 cs X n) a j = gQ X a j
  | 0 => rfl
  | n + 1 => by
    show gQ (pQ (lpX noX arr c0 cs X n) arr n (some (c0 + cs * n))) a j = _
    rw [gQ_pQ, if_neg (fun q => h q.1)]; exact gQ_no h n
theorem gQ_noa : ∀ (n k : Nat), k < n → gQ (lpX noX arr c0 cs X n) arr k = some (c0 + cs * k)
  | n + 1, k, h => by
    show gQ (pQ (lpX noX arr c0 cs X n) arr n (some (c0 + cs * n))) arr k = _
    rw [gQ_pQ]
    by_cases e : k = n
    · rw [if_pos ⟨rfl, e⟩, e]
    · rw [if_neg (fun q => e q.2)]; exact gQ_noa n k (by omega)
theorem rx_R {c : Nat} : gR (reelX c X) f a = if f = 80 ∧ a = c then some (c + 1) else gR X f a := by
  unfold reelX
  rw [gR_no, gR_pR]
theorem rx_Q {c : Nat} (h : a ≠ c + 1) : gQ (reelX c X) a j = gQ X a j := by
  unfold reelX
  rw [gQ_no h, gQ_pR]
theorem rx_Qa {c k : Nat} (h : k < 6) : gQ (reelX c X) (c + 1) k = some (c + 2 + k) := by
  unfold reelX
  rw [gQ_noa 6 k h, Nat.one_mul]
theorem rl_Rf (h : f ≠ 80) : ∀ n, gR (lpX reelX arr c0 8 X n) f a = gR X f a
  | 0 => rfl
  | n + 1 => by
    show gR (reelX (c0 + 8 * n) (lpX reelX arr c0 8 X n)) f a = _
    rw [rx_R, if_neg (fun q => h q.1)]; exact rl_Rf h n
theorem rl_Ro : ∀ n, (a < c0 ∨ c0 + 8 * n ≤ a) → gR (lpX reelX arr c0 8 X n) f a = gR X f a
  | 0, _ => rfl
  | n + 1, h => by
    show gR (reelX (c0 + 8 * n) (lpX reelX arr c0 8 X n)) f a = _
    rw [rx_R, if_neg (by omega)]; exact rl_Ro n (by omega)
theorem rl_R80 : ∀ (n r : Nat), r < n → gR (lpX reelX arr c0 8 X n) 80 (c0 + 8 * r) = some (c0 + 8 * r + 1)
  | n + 1, r, h => by
    show gR (reelX (c0 + 8 * n) (lpX reelX arr c0 8 X n)) 80 (c0 + 8 * r) = _
    rw [rx_R]
    by_cases e : r = n
    · rw [e, if_pos ⟨rfl, rfl⟩]
    · rw [if_neg (by omega)]; exact rl_R80 n r (by omega)
theorem rl_Qo (h : a ≠ arr) : ∀ n, (a < c0 ∨ c0 + 8 * n ≤ a) → gQ (lpX reelX arr c0 8 X n) a j = gQ X a j
  | 0, _ => rfl
  | n + 1, h2 => by
    show gQ (pQ (reelX (c0 + 8 * n) (lpX reelX arr c0 8 X n)) arr n (some (c0 + 8 * n))) a j = _
    rw [gQ_pQ, if_neg (fun q => h q.1), rx_Q (by omega)]; exact rl_Qo h n (by omega)
theorem rl_Qa (h : arr < c0) : ∀ (n r : Nat), r < n → gQ (lpX reelX arr c0 8 X n) arr r = some (c0 + 8 * r)
  | n + 1, r, h2 => by
    show gQ (pQ (reelX (c0 + 8 * n) (lpX reelX arr c0 8 X n)) arr n (some (c0 + 8 * n))) arr r = _
    rw [gQ_pQ]
    by_cases e : r = n
    · rw [if_pos ⟨rfl, e⟩, e]
    · rw [if_neg (fun q => e q.2), rx_Q (by omega)]; exact rl_Qa h n r (by omega)
theorem rl_Qi (h : arr < c0) : ∀ (n r k : Nat), r < n → k < 6 → gQ (lpX reelX arr c0 8 X n) (c0 + 8 * r + 1) k = some (c0 + 8 * r + 2 + k)
  | n + 1, r, k, h2, hk => by
    show gQ (pQ (reelX (c0 + 8 * n) (lpX reelX arr c0 8 X n)) arr n (some (c0 + 8 * n))) (c0 + 8 * r + 1) k = _
    rw [gQ_pQ, if_neg (fun q => by have := q.1; omega)]
    by_cases e : r = n
    · rw [e, rx_Qa hk]
    · rw [rx_Q (by omega)]; exact rl_Qi h n r k (by omega) hk
theorem p0_R (h : a < p ∨ p + 72 ≤ a) : gR (playX0 p X) f a = gR X f a := by
  unfold playX0 doorsX scriptX
  simp only [gR_pR, gR_no]
  repeat rw [if_neg (by omega)]
theorem p0_Q (h : a ≠ p + 3) : gQ (playX0 p X) a j = gQ X a j := by
  show gQ (scriptX (p + 2) (pR X 64 p (some (p + 1)))) a j = _
  unfold scriptX
  rw [gQ_no (show a ≠ p + 2 + 1 by omega), gQ_pR, gQ_pR]
theorem p0_Qa {k : Nat} (h : k < 24) : gQ (playX0 p X) (p + 3) k = some (p + 4 + k) := by
  show gQ (scriptX (p + 2) (pR X 64 p (some (p + 1)))) (p + 2 + 1) k = _
  unfold scriptX
  rw [gQ_noa 24 k h, Nat.one_mul]
def SC (X : Xm) (p : Nat) : Prop := XS X p ∧ XC X p (fun c => p + 4 + c)
theorem playX_o (h : a < p ∨ p + 72 ≤ a) : (∀ f, gR (playX p X) f a = gR X f a) ∧ ∀ j, gQ (playX p X) a j = gQ X a j := by
  unfold playX
  exact ⟨fun f => by rw [gR_no, rl_Ro 4 (by omega), p0_R h], fun j => by rw [gQ_no (by omega), rl_Qo (by omega) 4 (by omega), p0_Q (by omega)]⟩
theorem playX_sc : SC (playX p X) p := by
  have gr : ∀ f a, f ≠ 80 → gR (playX p X) f a = gR (playX0 p X) f a := fun f a h => by
    unfold playX
    rw [gR_no, rl_Rf h]
  refine ⟨⟨⟨?_, ?_, ?_, ?_, ?_, ?_, ?_, ?_, ?_, ?_, ?_⟩, fun r hr => ⟨?_, ?_, fun k hk => ?_⟩, fun ch hc => ?_⟩, fun c hc => ⟨?_, ⟨show p + 4 ≤ p + 4 + c by omega, show p + 4 + c < p + 28 by omega⟩, fun d hd e => by have e : p + 4 + c = p + 4 + d := e; omega⟩⟩
  · rw [gr _ _ (by decide)]; unfold playX0 doorsX scriptX; simp [gR_pR, gR_no]
  · rw [gr _ _ (by decide)]; unfold playX0 doorsX scriptX; simp [gR_pR, gR_no]
  · rw [gr _ _ (by decide)]; unfold playX0 doorsX scriptX; simp [gR_pR, gR_no]
  · rw [gr _ _ (by decide)]; unfold playX0 doorsX scriptX; simp [gR_pR, gR_no]
  · rw [gr _ _ (by decide)]; unfold playX0 doorsX scriptX; simp [gR_pR, gR_no]
  · rw [gr _ _ (by decide)]; unfold playX0 doorsX scriptX; simp [gR_pR, gR_no]
  · rw [gr _ _ (by decide)]; unfold playX0 doorsX scriptX; simp [gR_pR, gR_no]
  · rw [gr _ _ (by decide)]; unfold playX0 doorsX scriptX; simp [gR_pR, gR_no]
  · rw [gr _ _ (by decide)]; unfold playX0 doorsX scriptX; simp [gR_pR, gR_no]
  · rw [gr _ _ (by decide)]; unfold playX0 doorsX scriptX; simp [gR_pR, gR_no]
  · rw [gr _ _ (by decide)]; unfold playX0 doorsX scriptX; simp [gR_pR, gR_no]
  · unfold playX
    rw [gQ_no (by omega), rl_Qa (by omega) 4 r hr]
  · unfold playX
    rw [gR_no, rl_R80 4 r hr]
  · unfold playX
    rw [gQ_no (by omega), rl_Qi (by omega) 4 r k hr hk]
  · unfold playX
    rw [gQ_noa 4 ch hc, Nat.one_mul]
  · unfold playX
    rw [gQ_no (by omega), rl_Qo (by omega) 4 (by omega), p0_Qa hc]
theorem SC.fr (h : SC X p) (hf : ∀ a, p ≤ a → a < p + 72 → (∀ f, gR X1 f a = gR X f a) ∧ ∀ j, gQ X1 a j = gQ X a j) : SC X1 p := by
  obtain ⟨⟨⟨a1, a2, a3, a4, a5, a6, a7, a8, a9, a10, a11⟩, h2, h3⟩, h4⟩ := h
  refine ⟨⟨⟨?_, ?_, ?_, ?_, ?_, ?_, ?_, ?_, ?_, ?_, ?_⟩, fun r hr => ⟨?_, ?_, fun k hk => ?_⟩, fun ch hc => ?_⟩, fun c hc => ⟨?_, (h4 c hc).2⟩⟩
  · rw [(hf p (by omega) (by omega)).1]; exact a1
  · rw [(hf p (by omega) (by omega)).1]; exact a2
  · rw [(hf p (by omega) (by omega)).1]; exact a3
  · rw [(hf p (by omega) (by omega)).1]; exact a4
  · rw [(hf p (by omega) (by omega)).1]; exact a5
  · rw [(hf p (by omega) (by omega)).1]; exact a6
  · rw [(hf p (by omega) (by omega)).1]; exact a7
  · rw [(hf (p + 2) (by omega) (by omega)).1]; exact a8
  · rw [(hf (p + 30) (by omega) (by omega)).1]; exact a9
  · rw [(hf (p + 30) (by omega) (by omega)).1]; exact a10
  · rw [(hf (p + 30) (by omega) (by omega)).1]; exact a11
  · rw [(hf (p + 28) (by omega) (by omega)).2]; exact (h2 r hr).1
  · rw [(hf (p + 36 + 8 * r) (by omega) (by omega)).1]; exact (h2 r hr).2.1
  · rw [(hf (p + 36 + 8 * r + 1) (by omega) (by omega)).2]; exact (h2 r hr).2.2 k hk
  · rw [(hf (p + 29) (by omega) (by omega)).2]; exact h3 ch hc
  · rw [(hf (p + 3) (by omega) (by omega)).2]; exact (h4 c hc).1
theorem px_Ro : ∀ n, (a < c0 ∨ c0 + 72 * n ≤ a) → gR (lpX playX arr c0 72 X n) f a = gR X f a
  | 0, _ => rfl
  | n + 1, h => by
    show gR (playX (c0 + 72 * n) (lpX playX arr c0 72 X n)) f a = _
    rw [(playX_o (by omega)).1]; exact px_Ro n (by omega)
theorem px_Qo (h : a ≠ arr) : ∀ n, (a < c0 ∨ c0 + 72 * n ≤ a) → gQ (lpX playX arr c0 72 X n) a j = gQ X a j
  | 0, _ => rfl
  | n + 1, h2 => by
    show gQ (pQ (playX (c0 + 72 * n) (lpX playX arr c0 72 X n)) arr n (some (c0 + 72 * n))) a j = _
    rw [gQ_pQ, if_neg (fun q => h q.1), (playX_o (by omega)).2]; exact px_Qo h n (by omega)
theorem px_Qa (h : arr < c0) : ∀ (n k : Nat), k < n → gQ (lpX playX arr c0 72 X n) arr k = some (c0 + 72 * k)
  | n + 1, k, h2 => by
    show gQ (pQ (playX (c0 + 72 * n) (lpX playX arr c0 72 X n)) arr n (some (c0 + 72 * n))) arr k = _
    rw [gQ_pQ]
    by_cases e : k = n
    · rw [if_pos ⟨rfl, e⟩, e]
    · rw [if_neg (fun q => e q.2), (playX_o (by omega)).2]; exact px_Qa h n k (by omega)
theorem px_SC (h : arr < c0) : ∀ (n k : Nat), k < n → SC (lpX playX arr c0 72 X n) (c0 + 72 * k)
  | n + 1, k, h2 => by
    by_cases e : k = n
    · rw [e]
      refine (playX_sc (p := c0 + 72 * n) (X := lpX playX arr c0 72 X n)).fr fun a h3 h4 => ⟨fun f => rfl, fun j => ?_⟩
      show gQ (pQ (playX (c0 + 72 * n) (lpX playX arr c0 72 X n)) arr n (some (c0 + 72 * n))) a j = _
      rw [gQ_pQ, if_neg (fun q => by have := q.1; omega)]
    · refine (px_SC h n k (by omega)).fr fun a h3 h4 => ⟨fun f => ?_, fun j => ?_⟩
      · show gR (playX (c0 + 72 * n) (lpX playX arr c0 72 X n)) f a = _
        rw [(playX_o (by omega)).1]
      · show gQ (pQ (playX (c0 + 72 * n) (lpX playX arr c0 72 X n)) arr n (some (c0 + 72 * n))) a j = _
        rw [gQ_pQ, if_neg (fun q => by have := q.1; omega), (playX_o (by omega)).2]
/-- what is laid down first -/
theorem rc0_o (h1 : a ≠ b) (h2 : a ≠ b + 148) (h3 : a < b + 73 ∨ b + 145 ≤ a) : (∀ f, gR (rcX0 b X) f a = gR (playX (b + 1) X) f a) ∧ ∀ j, gQ (rcX0 b X) a j = gQ (playX (b + 1) X) a j := by
  refine ⟨fun f => ?_, fun j => ?_⟩
  · unfold rcX0 padX
    rw [gR_pR, if_neg (by omega), gR_pR, if_neg (by omega), gR_pR, if_neg (by omega), gR_pR, if_neg (by omega), gR_pR, if_neg (by omega), gR_pR, if_neg (by omega), gR_pR, if_neg (by omega), (playX_o (by omega)).1, gR_pR, if_neg (by omega)]
  · show gQ (playX (b + 73) (pR (playX (b + 1) X) 128 b (some (b + 1)))) a j = _
    rw [(playX_o (by omega)).2, gQ_pR]
theorem rc0_1 : SC (rcX0 b X) (b + 1) := playX_sc.fr fun a h1 h2 => rc0_o (by omega) (by omega) (by omega)
theorem rc0_2 : SC (rcX0 b X) (b + 73) := by
  refine (playX_sc (p := b + 73) (X := pR (playX (b + 1) X) 128 b (some (b + 1)))).fr fun a h1 h2 => ⟨fun f => ?_, fun j => rfl⟩
  unfold rcX0 padX
  rw [gR_pR, if_neg (by omega), gR_pR, if_neg (by omega), gR_pR, if_neg (by omega), gR_pR, if_neg (by omega), gR_pR, if_neg (by omega), gR_pR, if_neg (by omega), gR_pR, if_neg (by omega)]
theorem rc0_b : gR (rcX0 b X) 128 b = some (b + 1) ∧ gR (rcX0 b X) 129 b = some (b + 73) ∧ gR (rcX0 b X) 130 b = some (b + 145) ∧ gR (rcX0 b X) 132 b = some (b + 146) ∧ gR (rcX0 b X) 133 b = some (b + 147) ∧ gR (rcX0 b X) 134 b = some (b + 148) ∧ gR (rcX0 b X) 48 (b + 148) = some (b + 149) ∧ gR (rcX0 b X) 52 (b + 148) = some (b + 150) := by
  unfold rcX0 padX
  refine ⟨?_, ?_, ?_, ?_, ?_, ?_, ?_, ?_⟩
  · rw [gR_pR, if_neg (by omega), gR_pR, if_neg (by omega), gR_pR, if_neg (by omega), gR_pR, if_neg (by omega), gR_pR, if_neg (by omega), gR_pR, if_neg (by omega), gR_pR, if_neg (by omega), (playX_o (by omega)).1, gR_pR, if_pos ⟨rfl, rfl⟩]
  · rw [gR_pR, if_neg (by omega), gR_pR, if_neg (by omega), gR_pR, if_neg (by omega), gR_pR, if_neg (by omega), gR_pR, if_neg (by omega), gR_pR, if_neg (by omega), gR_pR, if_pos ⟨rfl, rfl⟩]
  · rw [gR_pR, if_neg (by omega), gR_pR, if_neg (by omega), gR_pR, if_neg (by omega), gR_pR, if_neg (by omega), gR_pR, if_neg (by omega), gR_pR, if_pos ⟨rfl, rfl⟩]
  · rw [gR_pR, if_neg (by omega), gR_pR, if_neg (by omega), gR_pR, if_neg (by omega), gR_pR, if_neg (by omega), gR_pR, if_pos ⟨rfl, rfl⟩]
  · rw [gR_pR, if_neg (by omega), gR_pR, if_neg (by omega), gR_pR, if_neg (by omega), gR_pR, if_pos ⟨rfl, rfl⟩]
  · rw [gR_pR, if_pos ⟨rfl, rfl⟩]
  · rw [gR_pR, if_neg (by omega), gR_pR, if_neg (by omega), gR_pR, if_pos ⟨rfl, rfl⟩]
  · rw [gR_pR, if_neg (by omega), gR_pR, if_pos ⟨rfl, rfl⟩]
/-- the class's references at the start -/
theorem lawX_lo (h : a < b + 151) (h2 : a ≠ b + 145) (h3 : a ≠ b + 146) : (∀ f, gR (lawX b) f a = gR (rcX0 b xm0) f a) ∧ ∀ j, gQ (lawX b) a j = gQ (rcX0 b xm0) a j := by
  unfold lawX rcX
  exact ⟨fun f => by rw [px_Ro 2 (by omega), px_Ro 7 (by omega)], fun j => by rw [px_Qo h3 2 (by omega), px_Qo h2 7 (by omega)]⟩
theorem lawX_R (h : a < b + 151) : gR (lawX b) f a = gR (rcX0 b xm0) f a := by
  unfold lawX rcX
  rw [px_Ro 2 (by omega), px_Ro 7 (by omega)]
theorem lawX_SC (h : isP b a) : SC (lawX b) a := by
  have hh : a = b + 1 ∨ a = b + 73 ∨ (∃ k, k < 7 ∧ a = b + 151 + 72 * k) ∨ ∃ k, k < 2 ∧ a = b + 655 + 72 * k := by
    unfold isP PA at h
    rcases h with (h | h) | h | h | h
    · exact Or.inl h
    · exact Or.inr (Or.inr (Or.inl ⟨(a - (b + 151)) / 72, by omega, by omega⟩))
    · exact Or.inr (Or.inl h)
    · exact Or.inr (Or.inr (Or.inr ⟨0, by omega, by omega⟩))
    · exact Or.inr (Or.inr (Or.inr ⟨1, by omega, by omega⟩))
  rcases hh with rfl | rfl | ⟨k, hk, rfl⟩ | ⟨k, hk, rfl⟩
  · exact rc0_1.fr fun c h1 h2 => lawX_lo (by omega) (by omega) (by omega)
  · exact rc0_2.fr fun c h1 h2 => lawX_lo (by omega) (by omega) (by omega)
  · refine (px_SC (arr := b + 145) (c0 := b + 151) (X := rcX0 b xm0) (by omega) 7 k hk).fr fun c h1 h2 => ?_
    unfold lawX rcX
    exact ⟨fun f => by rw [px_Ro 2 (by omega)], fun j => by rw [px_Qo (by omega) 2 (by omega)]⟩
  · refine (px_SC (arr := b + 146) (c0 := b + 655) (X := lpX playX (b + 145) (b + 151) 72 (rcX0 b xm0) 7) (by omega) 2 k hk).fr fun c h1 h2 => ?_
    unfold lawX rcX
    exact ⟨fun f => rfl, fun j => rfl⟩
theorem lawX_Q145 {k : Nat} (h : k < 7) : gQ (lawX b) (b + 145) k = some (b + 151 + 72 * k) := by
  unfold lawX rcX
  rw [px_Qo (by omega) 2 (by omega), px_Qa (by omega) 7 k h]
theorem lawX_Q146 {k : Nat} (h : k < 2) : gQ (lawX b) (b + 146) k = some (b + 655 + 72 * k) := by
  unfold lawX rcX
  rw [px_Qa (by omega) 2 k h]
/-- the ints at the start -/
theorem lawI_1 (h : b + 1 ≤ a) (h2 : a < b + 73) : (∀ f, gF (lawI b) f a = gF (playI (b + 1) im0) f a) ∧ ∀ j, gA (lawI b) a j = gA (playI (b + 1) im0) a j := by
  obtain ⟨e1, e2⟩ := rcI_lo (a := a) (b := b) (I := im0) (by omega)
  unfold lawI
  exact ⟨fun f => by rw [e1], fun j => by rw [e2]⟩
theorem lawI_0 (h : a = b ∨ (b + 145 ≤ a ∧ a < b + 151)) : (∀ f, gF (lawI b) f a = 0) ∧ ∀ j, gA (lawI b) a j = 0 := by
  obtain ⟨e1, e2⟩ := rcI_lo (a := a) (b := b) (I := im0) (by omega)
  obtain ⟨y1, y2⟩ := playI_o (a := a) (p := b + 1) (I := im0) (by omega)
  unfold lawI
  exact ⟨fun f => by rw [e1, y1]; rfl, fun j => by rw [e2, y2]; rfl⟩
theorem zi_im0 (t : Nat) : ZI t im0 := fun _ _ => ⟨fun _ => rfl, fun _ => rfl⟩
def sg0 (b : Nat) : Nat → Nat
  | 0 => b + 1
  | i + 1 => b + 151 + 72 * i
def w0 (a c : Nat) : Nat := a + 4 + c
theorem cl0 : Cl (lawI b) (lawX b) b S0 0 := by
  obtain ⟨r1, r2, r3, r4, r5, r6, r7, r8⟩ := rc0_b (b := b) (X := xm0)
  have hpa : ∀ i, i < 8 → PA b (sg0 b i) := fun i hi => by
    unfold PA
    cases i with
    | zero => exact Or.inl rfl
    | succ i =>
      show b + 151 + 72 * i = b + 1 ∨ (b + 151 ≤ b + 151 + 72 * i ∧ b + 151 + 72 * i < b + 655 ∧ (b + 151 + 72 * i - (b + 151)) % 72 = 0)
      omega
  have hin : ∀ i, i < 8 → ∀ j, j < 8 → sg0 b i = sg0 b j → i = j := fun i hi j hj e => by
    cases i with
    | zero =>
      cases j with
      | zero => rfl
      | succ j =>
        have e : b + 1 = b + 151 + 72 * j := e
        omega
    | succ i =>
      cases j with
      | zero =>
        have e : b + 151 + 72 * i = b + 1 := e
        omega
      | succ j =>
        have e : b + 151 + 72 * i = b + 151 + 72 * j := e
        omega
  have hcs : Cs (lawI b) (b + 1) S0 0 (w0 (b + 1)) := (playI_cs (p := b + 1) (I := im0) (w := w0 (b + 1)) (zi_im0 _)).same (X := playX (b + 1) xm0) playX_sc.2 (Nat.zero_le _) (fun r hr => by rw [S0_z (by omega) (by omega)]; omega) fun a h1 h2 => lawI_1 h1 (by omega)
  refine ⟨sg0 b, w0, 0, ⟨⟨?_, ?_, ?_, ?_, ?_, ?_, ?_, ?_⟩, fun i hi => lawX_Q145 hi, fun i hi => lawX_Q146 hi, hpa, hin, fun a ha => lawX_SC ha, trivial⟩, Iv_S0, hcs, by omega, (lawI_0 (Or.inl rfl)).1 131⟩
  · rw [lawX_R (by omega)]; exact r1
  · rw [lawX_R (by omega)]; exact r2
  · rw [lawX_R (by omega)]; exact r3
  · rw [lawX_R (by omega)]; exact r4
  · rw [lawX_R (by omega)]; exact r5
  · rw [lawX_R (by omega)]; exact r6
  · rw [lawX_R (by omega)]; exact r7
  · rw [lawX_R (by omega)]; exact r8
end RZ
theorem LN.of {K len : Nat → Nat} {a : Nat} (h : LY K len a layPlay) : LN len a := by
  refine ⟨⟨(h 1 (by decide)).2, (h 3 (by decide)).2, (h 28 (by decide)).2, (h 29 (by decide)).2, (h 31 (by decide)).2, (h 32 (by decide)).2, (h 33 (by decide)).2, (h 34 (by decide)).2, (h 35 (by decide)).2⟩, fun r hr => ?_⟩
  have : r = 0 ∨ r = 1 ∨ r = 2 ∨ r = 3 := by omega
  rcases this with rfl | rfl | rfl | rfl
  · exact (h 37 (by decide)).2
  · exact (h 45 (by decide)).2
  · exact (h 53 (by decide)).2
  · exact (h 61 (by decide)).2
def layLaw : List (Nat × Nat) := [(11, 8), (11, 25), (11, 25), (11, 16), (11, 24), (11, 8), (11, 25), (11, 25), (11, 64)]
def layFull : List (Nat × Nat) := layAll ++ (layLaw ++ List.replicate 60 (11, 4))
set_option maxRecDepth 100000 in
theorem LG.of {K len : Nat → Nat} {b : Nat} (h : LY K len b layFull) : LG len b := by
  have ha : LY K len b layAll := LY.left h
  have hla := layAll_len
  have pl : ∀ o, o = 1 ∨ o = 73 ∨ (∃ k, k < 7 ∧ o = 151 + 72 * k) ∨ (∃ k, k < 2 ∧ o = 655 + 72 * k) → LN len (b + o) := by
    intro o ho
    rcases ho with rfl | rfl | ⟨k, hk, rfl⟩ | ⟨k, hk, rfl⟩
    · exact LN.of (LY.sub ha 1 layPlay (by show _ + 72 ≤ (799 : Nat); omega) (fun q hq => (show ∀ q < 72, layAll.getD (1 + q) (99, 0) = layPlay.getD q (99, 0) by decide +kernel) q hq))
    · exact LN.of (LY.sub ha 73 layPlay (by show _ + 72 ≤ (799 : Nat); omega) (fun q hq => (show ∀ q < 72, layAll.getD (73 + q) (99, 0) = layPlay.getD q (99, 0) by decide +kernel) q hq))
    · exact LN.of (LY.sub ha (151 + 72 * k) layPlay (by show _ + 72 ≤ (799 : Nat); omega) (fun q hq => (show ∀ i < 7, ∀ q < 72, layAll.getD (151 + 72 * i + q) (99, 0) = layPlay.getD q (99, 0) by decide +kernel) k hk q hq))
    · exact LN.of (LY.sub ha (655 + 72 * k) layPlay (by show _ + 72 ≤ (799 : Nat); omega) (fun q hq => (show ∀ i < 2, ∀ q < 72, layAll.getD (655 + 72 * i + q) (99, 0) = layPlay.getD q (99, 0) by decide +kernel) k hk q hq))
  have g : ∀ i, i < 799 → len (b + i) = (layAll.getD i (99, 0)).2 := fun i hi => (ha i (by omega)).2
  refine ⟨⟨?_, ?_, ?_, ?_, ?_⟩, trivial, fun a hp => ?_⟩
  · rw [g 145 (by omega)]; decide +kernel
  · rw [g 146 (by omega)]; decide +kernel
  · rw [g 147 (by omega)]; decide +kernel
  · rw [g 149 (by omega)]; decide +kernel
  · rw [g 150 (by omega)]; decide +kernel
  · have hin := hp.in
    have := pl (a - b) (by
      unfold isP PA at hp
      rcases hp with (hp | hp) | hp | hp | hp
      · exact Or.inl (by omega)
      · exact Or.inr (Or.inr (Or.inl ⟨(a - (b + 151)) / 72, by omega, by omega⟩))
      · exact Or.inr (Or.inl (by omega))
      · exact Or.inr (Or.inr (Or.inr ⟨0, by omega, by omega⟩))
      · exact Or.inr (Or.inr (Or.inr ⟨1, by omega, by omega⟩)))
    rwa [show b + (a - b) = a by omega] at this
theorem LL.of {K len : Nat → Nat} {b : Nat} (h : LY K len b layFull) : LL len (b + 799) := by
  have hm : LY K len (b + 799) layLaw := LY.left (LY.right h layAll_len)
  exact ⟨(hm 0 (by decide)).2, (hm 1 (by decide)).2, (hm 2 (by decide)).2, (hm 3 (by decide)).2, (hm 4 (by decide)).2, (hm 5 (by decide)).2, (hm 6 (by decide)).2, (hm 7 (by decide)).2, (hm 8 (by decide)).2⟩
theorem layMany {K len : Nat → Nat} {b : Nat} (h : LY K len b layFull) : ∀ x, b + 808 ≤ x → x < b + 808 + 60 → K x = 11 ∧ len x = 4 := by
  intro x h1 h2
  have hm : LY K len (b + 799 + 9) (List.replicate 60 (11, 4)) := LY.right (LY.right h layAll_len) rfl
  have := hm (x - (b + 808)) (by rw [List.length_replicate]; omega)
  rw [show b + 799 + 9 + (x - (b + 808)) = x by omega] at this
  rw [List.getD_eq_getElem?_getD, List.getElem?_replicate, if_pos (by omega)] at this
  exact this
theorem layLawK {K len : Nat → Nat} {b : Nat} (h : LY K len b layFull) : ∀ i, i < 9 → K (b + 799 + i) = 11 := by
  have hm : LY K len (b + 799) layLaw := LY.left (LY.right h layAll_len)
  intro i hi
  rw [(hm i hi).1]
  exact (show ∀ i, i < 9 → (layLaw.getD i (99, 0)).1 = 11 by decide) i hi
