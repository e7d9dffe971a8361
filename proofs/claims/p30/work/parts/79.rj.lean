/-! ===== cues come in, go out, and are moved: the class ===== -/
/-- which place stood where a place stands now: the last one goes to a rank, or one goes last -/
def sR (r m c : Nat) : Nat := if c = r then m else if r < c ∧ c ≤ m then c - 1 else c
def sL (a m c : Nat) : Nat := if c = m then a else if a ≤ c ∧ c < m then c + 1 else c
theorem sR_lt {r m c : Nat} (hm : m < 24) (hc : c < 24) : sR r m c < 24 := by unfold sR; split <;> (try split) <;> omega
theorem sL_lt {a m c : Nat} (hm : m < 24) (ha : a ≤ m) (hc : c < 24) : sL a m c < 24 := by unfold sL; split <;> (try split) <;> omega
theorem sR_inj {r m c d : Nat} (hr : r ≤ m) (h : sR r m c = sR r m d) : c = d := by
  unfold sR at h
  by_cases h1 : c = r
  · rw [if_pos h1] at h
    by_cases h2 : d = r
    · omega
    · rw [if_neg h2] at h; split at h <;> omega
  · rw [if_neg h1] at h
    by_cases h2 : d = r
    · rw [if_pos h2] at h; split at h <;> omega
    · rw [if_neg h2] at h; split at h <;> (split at h <;> omega)
theorem sL_inj {a m c d : Nat} (ha : a ≤ m) (h : sL a m c = sL a m d) : c = d := by
  unfold sL at h
  by_cases h1 : c = m
  · rw [if_pos h1] at h
    by_cases h2 : d = m
    · omega
    · rw [if_neg h2] at h; split at h <;> omega
  · rw [if_neg h1] at h
    by_cases h2 : d = m
    · rw [if_pos h2] at h; split at h <;> omega
    · rw [if_neg h2] at h; split at h <;> (split at h <;> omega)
section RJ
variable {fl : Nat} {len : Nat → Nat} {X X2 : Xm} {I I1 : Im} {p q : Nat} {S : Nat → Nat} {K : Nat} {w : Nat → Nat}
theorem XC.roll {s : Nat → Nat} (h : XC X p w) (hs : ∀ c, c < 24 → s c < 24) (hi : ∀ c d, s c = s d → c = d) (hQ : ∀ c, c < 24 → gQ X2 (p + 3) c = some (w (s c))) : XC X2 p (fun c => w (s c)) := fun c hc =>
  ⟨hQ c hc, (h _ (hs c hc)).2.1, fun d hd e => hi c d ((h _ (hs c hc)).2.2 _ (hs d hd) e)⟩
theorem q_makeLast (hfl : 10000 ≤ fl) (hX : XS X p) (hN : LN len p) (hC : XC X p w) {a n : Nat} (hn : n ≤ 24) (ha : a < n) (h97 : gF I 97 (p + 2) = nI n) : ∃ X1, m6_makeLast fl len X I (p + 2) (nI a) = some X1 ∧ (∀ f b, gR X1 f b = gR X f b) ∧ (∀ b j, b ≠ p + 3 → gQ X1 b j = gQ X b j) ∧ XC X1 p (fun c => w (sL a (n - 1) c)) := by
  have key : ∀ (j k m : Nat) (Y : Xm), k + j = n → a + 1 ≤ k → j < m → (∀ f b, gR Y f b = gR X f b) → (∀ b j, b ≠ p + 3 → gQ Y b j = gQ X b j) → (∀ c, c < 24 → gQ Y (p + 3) c = some (w (sL a (k - 1) c))) → ∃ X1, m6_makeLast_14 fl len I m Y (p + 2) (some (w a)) (nI k) = some X1 ∧ (∀ f b, gR X1 f b = gR X f b) ∧ (∀ b j, b ≠ p + 3 → gQ X1 b j = gQ X b j) ∧ (∀ c, c < 24 → gQ X1 (p + 3) c = some (w (sL a (n - 1) c))) := by
    intro j
    induction j with
    | zero =>
      intro k m Y hj hk hm f1 f2 f3
      obtain ⟨m, rfl⟩ : ∃ n', m = n' + 1 := ⟨m - 1, by omega⟩
      refine ⟨Y, ?_, f1, f2, fun c hc => ?_⟩
      · show m6_makeLast_14b fl len I (m6_makeLast_14 fl len I m) _ _ _ _ = _
        rw [m6_makeLast_14b, h97, if_pos (by rw [nI_leI (by omega) (by omega)]; omega)]
        rfl
      · rw [f3 c hc, show k = n by omega]
    | succ j ih =>
      intro k m Y hj hk hm f1 f2 f3
      obtain ⟨m, rfl⟩ : ∃ n', m = n' + 1 := ⟨m - 1, by omega⟩
      obtain ⟨X1, r, g1, g2, g3⟩ := ih (k + 1) m (pQ (pQ Y (p + 3) (k - 1) (some (w k))) (p + 3) k (some (w a))) (by omega) (by omega) (by omega) (fun f b => by rw [gR_pQ, gR_pQ, f1]) (fun b j hb => by rw [gQ_pQ, if_neg (fun e => hb e.1), gQ_pQ, if_neg (fun e => hb e.1), f2 b j hb]) (fun c hc => by
        rw [gQ_pQ]
        by_cases e : c = k
        · rw [if_pos ⟨rfl, e⟩, Nat.add_sub_cancel, e]
          unfold sL
          rw [if_pos rfl]
        · rw [if_neg (fun q => e q.2), gQ_pQ]
          by_cases e2 : c = k - 1
          · rw [if_pos ⟨rfl, e2⟩, e2, Nat.add_sub_cancel]
            unfold sL
            rw [if_neg (by omega), if_pos (by omega), show k - 1 + 1 = k by omega]
          · rw [if_neg (fun q => e2 q.2), f3 c hc, Nat.add_sub_cancel]
            unfold sL
            rw [if_neg e2, if_neg e]
            by_cases e3 : a ≤ c ∧ c < k - 1
            · rw [if_pos e3, if_pos (by omega)]
            · rw [if_neg e3, if_neg (by omega)])
      refine ⟨X1, ?_, g1, g2, g3⟩
      have ek : w (sL a (k - 1) k) = w k := by
        unfold sL
        rw [if_neg (by omega), if_neg (by omega)]
      rw [← r]
      show m6_makeLast_14b fl len I (m6_makeLast_14 fl len I m) _ _ _ _ = _
      rw [m6_makeLast_14b, h97, if_neg (by rw [nI_leI (by omega) (by omega)]; omega), f1, hX.1.2.2.2.2.2.2.2.1, nn_s, hN.1.2.1, if_neg (by rw [nI_leI (by omega) (by omega)]; omega), ck_inb _ (by omega) (by omega), nI_clamp (by omega), f3 k (by omega), ek, nn_s, L1, nI_sub (by omega), ck_inb _ (by omega) (by omega), nI_clamp (by omega), lt_e, gR_pQ, f1, hX.1.2.2.2.2.2.2.2.1, nn_s, nn_s, hN.1.2.1, ck_inb _ (by omega) (by omega), lt_e, lt_e, nI_add]
  have e0 : (if (0 : Int32) < nI a then nI a else (0 : Int32)) = nI a := by
    by_cases h0 : a = 0
    · rw [h0]; rfl
    · rw [if_pos (by rw [L0, nI_ltI (by omega) (by omega)]; omega)]
  obtain ⟨X1, r, g1, g2, g3⟩ := key (n - (a + 1)) (a + 1) fl X (by omega) (by omega) (by omega) (fun _ _ => rfl) (fun _ _ _ => rfl) (fun c hc => by
    rw [(hC c hc).1, Nat.add_sub_cancel]
    unfold sL
    by_cases e : c = a
    · rw [if_pos e, e]
    · rw [if_neg e, if_neg (by omega)])
  refine ⟨X1, ?_, g1, g2, hC.roll (fun c hc => sL_lt (by omega) (by omega) hc) (fun c d => sL_inj (by omega)) g3⟩
  rw [m6_makeLast, q_cue hX hN hC hn h97 ha, nn_s, e0, lt_e, L1, nI_add]
  exact r
/-- the last cue goes where its second belongs -/
theorem q_sortLast (hfl : 10000 ≤ fl) (hX : XS X p) (hN : LN len p) (hC : XC X p w) {m t : Nat} (hm : m < 24) (h97 : gF I 97 (p + 2) = nI (m + 1)) (hB : Bn S) (ht : t < 10000) (h16 : ∀ c, c < m → gF I 16 (w c) = nI (S (8 + 5 * c))) (h16t : gF I 16 (w m) = nI t) : ∃ X1, m6_sortLast fl len X I (p + 2) = some (nI (rkS S t m), X1) ∧ (∀ f b, gR X1 f b = gR X f b) ∧ (∀ b j, b ≠ p + 3 → gQ X1 b j = gQ X b j) ∧ XC X1 p (fun c => w (sR (rkS S t m) m c)) := by
  have fin : ∀ (k : Nat) (Y : Xm), k ≤ m → (∀ f b, gR Y f b = gR X f b) → (∀ b j, b ≠ p + 3 → gQ Y b j = gQ X b j) → (∀ c, c < 24 → c ≠ k → gQ Y (p + 3) c = some (w (sR k m c))) → ∃ X1, m6_sortLast_61 fl len I Y (p + 2) (nI k) (some (w m)) = some (nI k, X1) ∧ (∀ f b, gR X1 f b = gR X f b) ∧ (∀ b j, b ≠ p + 3 → gQ X1 b j = gQ X b j) ∧ (∀ c, c < 24 → gQ X1 (p + 3) c = some (w (sR k m c))) := by
    intro k Y hk f1 f2 f3
    refine ⟨pQ Y (p + 3) k (some (w m)), ?_, fun f b => by rw [gR_pQ, f1], fun b j hb => by rw [gQ_pQ, if_neg (fun e => hb e.1), f2 b j hb], fun c hc => ?_⟩
    · rw [m6_sortLast_61, f1, hX.1.2.2.2.2.2.2.2.1, nn_s, nn_s, hN.1.2.1, ck_inb _ (by omega) (by omega), nI_clamp (by omega), lt_e]
    · rw [gQ_pQ]
      by_cases e : c = k
      · rw [if_pos ⟨rfl, e⟩, e]
        unfold sR
        rw [if_pos rfl]
      · rw [if_neg (fun q => e q.2), f3 c hc e]
  have key : ∀ (k n : Nat) (Y : Xm), k ≤ m → k < n → (∀ f b, gR Y f b = gR X f b) → (∀ b j, b ≠ p + 3 → gQ Y b j = gQ X b j) → (∀ c, c < 24 → c ≠ k → gQ Y (p + 3) c = some (w (sR k m c))) → ∃ X1, m6_sortLast_19 fl len I n Y (p + 2) (nI k) (some (w m)) = some (nI (rkS S t k), X1) ∧ (∀ f b, gR X1 f b = gR X f b) ∧ (∀ b j, b ≠ p + 3 → gQ X1 b j = gQ X b j) ∧ (∀ c, c < 24 → gQ X1 (p + 3) c = some (w (sR (rkS S t k) m c))) := by
    intro k
    induction k with
    | zero =>
      intro n Y hk hn f1 f2 f3
      obtain ⟨n, rfl⟩ : ∃ n', n = n' + 1 := ⟨n - 1, by omega⟩
      obtain ⟨X1, r, g⟩ := fin 0 Y hk f1 f2 f3
      refine ⟨X1, ?_, g⟩
      show m6_sortLast_19b fl len I (m6_sortLast_19 fl len I n) _ _ _ _ = _
      rw [m6_sortLast_19b, if_pos (by decide)]
      exact r
    | succ k ih =>
      intro n Y hk hn f1 f2 f3
      obtain ⟨n, rfl⟩ : ∃ n', n = n' + 1 := ⟨n - 1, by omega⟩
      have ek : gQ Y (p + 3) k = some (w k) := by
        rw [f3 k (by omega) (by omega)]
        unfold sR
        rw [if_neg (by omega), if_neg (by omega)]
      have hb := hB (8 + 5 * k)
      have start : m6_sortLast_19 fl len I (n + 1) Y (p + 2) (nI (k + 1)) (some (w m)) = if nI (S (8 + 5 * k)) ≤ nI t then m6_sortLast_61 fl len I Y (p + 2) (nI (k + 1)) (some (w m)) else m6_sortLast_19 fl len I n (pQ Y (p + 3) (k + 1) (some (w k))) (p + 2) (nI k) (some (w m)) := by
        show m6_sortLast_19b fl len I (m6_sortLast_19 fl len I n) _ _ _ _ = _
        rw [m6_sortLast_19b, L0, if_neg (by rw [nI_leI (by omega) (by omega)]; omega), f1, hX.1.2.2.2.2.2.2.2.1, nn_s, L1, nI_sub (by omega), Nat.add_sub_cancel, hN.1.2.1, ck_inb _ (by omega) (by omega), nI_clamp (by omega), ek, nn_s, nn_s, h16 k (by omega), h16t, nn_s, ck_inb _ (by omega) (by omega), nI_clamp (by omega), lt_e, nI_m1n (by omega), lt_e, Nat.add_sub_cancel]
      rw [start]
      unfold rkS
      by_cases hs : S (8 + 5 * k) ≤ t
      · rw [if_pos (by rw [nI_leI (by omega) (by omega)]; exact hs), if_pos hs]
        exact fin (k + 1) Y hk f1 f2 f3
      · rw [if_neg (by rw [nI_leI (by omega) (by omega)]; exact hs), if_neg hs]
        exact ih n (pQ Y (p + 3) (k + 1) (some (w k))) (by omega) (by omega) (fun f b => by rw [gR_pQ, f1]) (fun b j hb => by rw [gQ_pQ, if_neg (fun e => hb e.1), f2 b j hb]) (fun c hc hne => by
          rw [gQ_pQ]
          by_cases e : c = k + 1
          · rw [if_pos ⟨rfl, e⟩, e]
            unfold sR
            rw [if_neg (by omega), if_pos (by omega), Nat.add_sub_cancel]
          · rw [if_neg (fun q => e q.2), f3 c hc e]
            unfold sR
            rw [if_neg e, if_neg hne]
            by_cases h2 : k + 1 < c ∧ c ≤ m
            · rw [if_pos h2, if_pos (by omega)]
            · rw [if_neg h2, if_neg (by omega)])
  obtain ⟨X1, r, g1, g2, g3⟩ := key m fl X (Nat.le_refl _) (by omega) (fun _ _ => rfl) (fun _ _ _ => rfl) (fun c hc hne => by
    rw [(hC c hc).1]
    unfold sR
    rw [if_neg hne, if_neg (by omega)])
  have hr := rkS_le S t m
  refine ⟨X1, ?_, g1, g2, hC.roll (fun c hc => sR_lt hm hc) (fun c d => sR_inj hr) g3⟩
  rw [m6_sortLast, h97, L1, nI_sub (by omega), Nat.add_sub_cancel, lt_e, q_cue hX hN hC (n := m + 1) (by omega) h97 (by omega), nn_s, if_neg (by simp)]
  exact r
/-- the cues of the class where one came in, and where one went out -/
theorem D5.ins (h : ∀ c, c < S 5 → gF I 16 (w c) = nI (S (8 + 5 * c)) ∧ gF I 17 (w c) = nI (S (8 + 5 * c + 1)) ∧ gF I 18 (w c) = nI (S (8 + 5 * c + 2)) ∧ gF I 19 (w c) = nI (S (8 + 5 * c + 3)) ∧ gF I 20 (w c) = nI (S (8 + 5 * c + 4))) {r t kd wh v : Nat} (hr : r ≤ S 5) (hl : gF I 16 (w (S 5)) = nI t ∧ gF I 17 (w (S 5)) = nI kd ∧ gF I 18 (w (S 5)) = nI wh ∧ gF I 19 (w (S 5)) = nI v ∧ gF I 20 (w (S 5)) = nI 0) : D5 I (insS S r t kd wh v) (fun c => w (sR r (S 5) c)) := by
  intro c hc
  rw [ins_5] at hc
  show gF I 16 (w (sR r (S 5) c)) = _ ∧ gF I 17 (w (sR r (S 5) c)) = _ ∧ gF I 18 (w (sR r (S 5) c)) = _ ∧ gF I 19 (w (sR r (S 5) c)) = _ ∧ gF I 20 (w (sR r (S 5) c)) = _
  rcases Nat.lt_trichotomy c r with hc1 | hc1 | hc1
  · have e0 := ins_lo (S := S) (r := r) (t := t) (kd := kd) (wh := wh) (v := v) (c := c) (f := 0) hc1 (by omega)
    rw [Nat.add_zero] at e0
    have e : sR r (S 5) c = c := by unfold sR; rw [if_neg (by omega), if_neg (by omega)]
    rw [e, e0, ins_lo hc1 (by omega), ins_lo hc1 (by omega), ins_lo hc1 (by omega), ins_lo hc1 (by omega)]
    exact h c (by omega)
  · obtain ⟨a0, a1, a2, a3, a4⟩ := ins_at (S := S) (r := r) (t := t) (kd := kd) (wh := wh) (v := v)
    have e : sR r (S 5) c = S 5 := by unfold sR; rw [if_pos hc1]
    rw [e, hc1, a0, a1, a2, a3, a4]
    exact hl
  · have e0 := ins_hi (S := S) (r := r) (t := t) (kd := kd) (wh := wh) (v := v) (c := c) (f := 0) hc1 (by omega) (by omega)
    rw [Nat.add_zero, Nat.add_zero] at e0
    have e : sR r (S 5) c = c - 1 := by unfold sR; rw [if_neg (by omega), if_pos (by omega)]
    rw [e, e0, ins_hi hc1 (by omega) (by omega), ins_hi hc1 (by omega) (by omega), ins_hi hc1 (by omega) (by omega), ins_hi hc1 (by omega) (by omega)]
    exact h (c - 1) (by omega)
theorem D5.cl (h : D5 I S w) {a : Nat} (ha : a < S 5) : D5 I (clS S a) (fun c => w (sL a (S 5 - 1) c)) := by
  intro c hc
  rw [cl_5] at hc
  show gF I 16 (w (sL a (S 5 - 1) c)) = _ ∧ gF I 17 (w (sL a (S 5 - 1) c)) = _ ∧ gF I 18 (w (sL a (S 5 - 1) c)) = _ ∧ gF I 19 (w (sL a (S 5 - 1) c)) = _ ∧ gF I 20 (w (sL a (S 5 - 1) c)) = _
  by_cases hc1 : c < a
  · have e0 := cl_lo (S := S) (a := a) (c := c) (f := 0) hc1 (by omega)
    rw [Nat.add_zero] at e0
    have e : sL a (S 5 - 1) c = c := by unfold sL; rw [if_neg (by omega), if_neg (by omega)]
    rw [e, e0, cl_lo hc1 (by omega), cl_lo hc1 (by omega), cl_lo hc1 (by omega), cl_lo hc1 (by omega)]
    exact h c (by omega)
  · have hc1 : a ≤ c := by omega
    have e0 := cl_hi (S := S) (a := a) (c := c) (f := 0) hc1 (by omega) (by omega)
    rw [Nat.add_zero, Nat.add_zero] at e0
    have e : sL a (S 5 - 1) c = c + 1 := by unfold sL; rw [if_neg (by omega), if_pos (by omega)]
    rw [e, e0, cl_hi hc1 (by omega) (by omega), cl_hi hc1 (by omega) (by omega), cl_hi hc1 (by omega) (by omega), cl_hi hc1 (by omega) (by omega)]
    exact h (c + 1) (by omega)
end RJ
