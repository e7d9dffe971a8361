/-! ===== the law's rows: a cue comes in, goes out; ranks; the play anew ===== -/
section CJ
variable {fl : Nat} {len : Nat → Nat} {X : Xm} {I : Im} {a : Nat}
theorem g_insert (hfl : 10000 ≤ fl) (hL : LL len a) {T : Nat → Nat → Nat} (hB : BT T) {nn' r s v : Nat} (e5 : T 0 5 = nn') (hn : nn' < 24) (hr : r ≤ nn') (hs : s < 1000000) (hv : v < 1000000) : ∃ T', (∀ i j, i ≠ 1 → i ≠ 2 → (i ≠ 0 ∨ j ≠ 5) → T' i j = T i j) ∧ T' 0 5 = nn' + 1 ∧ (∀ i j, (i = 1 ∨ i = 2) → j < r → T' i j = T i j) ∧ T' 1 r = s ∧ T' 2 r = v ∧ (∀ i j, (i = 1 ∨ i = 2) → r < j → j ≤ nn' → T' i j = T i (j - 1)) ∧ BT T' ∧ m9_insert fl len X (mL I a T) a (a + 1) (a + 2) (nI r) (nI s) (nI v) = some (mL I a T') := by
  obtain ⟨l0, l1, l2, l3, l4, l5, l6, l7, l8⟩ := id hL
  have key : ∀ (j k n : Nat) (T1 : Nat → Nat → Nat), r + j = k → k ≤ nn' → j < n → (∀ i j, i ≠ 1 → i ≠ 2 → T1 i j = T i j) → (∀ i j, (i = 1 ∨ i = 2) → j ≤ k → T1 i j = T i j) → (∀ i j, (i = 1 ∨ i = 2) → k < j → j ≤ nn' → T1 i j = T i (j - 1)) → BT T1 → ∃ T', (∀ i j, i ≠ 1 → i ≠ 2 → (i ≠ 0 ∨ j ≠ 5) → T' i j = T i j) ∧ T' 0 5 = nn' + 1 ∧ (∀ i j, (i = 1 ∨ i = 2) → j < r → T' i j = T i j) ∧ T' 1 r = s ∧ T' 2 r = v ∧ (∀ i j, (i = 1 ∨ i = 2) → r < j → j ≤ nn' → T' i j = T i (j - 1)) ∧ BT T' ∧ m9_insert_5 fl len X n (mL I a T1) a (a + 1) (a + 2) (nI r) (nI s) (nI v) (nI k) = some (mL I a T') := by
    intro j
    induction j with
    | zero =>
      intro k n T1 hj hk hn' h1 h2 h3 hb
      obtain ⟨n, rfl⟩ : ∃ n', n = n' + 1 := ⟨n - 1, by omega⟩
      refine ⟨up2 (up2 (up2 T1 1 r s) 2 r v) 0 5 (nn' + 1), fun i j q1 q2 q3 => ?_, up2_s, fun i j hi hj' => ?_, ?_, ?_, fun i j hi q1 q2 => ?_, ((hb.up hs).up hv).up (by omega), ?_⟩
      · rcases q3 with q3 | q3
        · rw [up2_i q3, up2_i q2, up2_i q1, h1 i j q1 q2]
        · rw [up2_j q3, up2_i q2, up2_i q1, h1 i j q1 q2]
      · rw [up2_i (by omega), up2_j (by omega), up2_j (by omega), h2 i j hi (by omega)]
      · rw [up2_i (by omega), up2_i (by omega), up2_s]
      · rw [up2_i (by omega), up2_s]
      · rw [up2_i (by omega), up2_j (by omega), up2_j (by omega), h3 i j hi (by omega) q2]
      · show m9_insert_5b fl len X (m9_insert_5 fl len X n) _ _ _ _ _ _ _ _ = _
        rw [m9_insert_5b, if_pos (by rw [nI_leI (by omega) (by omega)]; omega), l1, ck_inb _ (by omega) (by omega), nI_clamp (by omega), pA_mL (by omega), lt_e, l2, ck_inb _ (by omega) (by omega), pA_mL (by omega), lt_e, l0, L5, ck_inb _ (by omega) (by omega), nI_clamp (by omega), gA_mL0, up2_i (by omega), up2_i (by omega), h1 0 5 (by omega) (by omega), e5, L1, nI_add, pA_mL0, lt_e]
    | succ j ih =>
      intro k n T1 hj hk hn' h1 h2 h3 hb
      obtain ⟨n, rfl⟩ : ∃ n', n = n' + 1 := ⟨n - 1, by omega⟩
      obtain ⟨T', g1, g2, g3, g4, g5, g6, g7, g8⟩ := ih (k - 1) n (up2 (up2 T1 1 k (T 1 (k - 1))) 2 k (T 2 (k - 1))) (by omega) (by omega) (by omega) (fun i j q1 q2 => by rw [up2_i q2, up2_i q1, h1 i j q1 q2]) (fun i j hi q => by rw [up2_j (by omega), up2_j (by omega), h2 i j hi (by omega)]) (fun i j hi q1 q2 => by
        by_cases e : j = k
        · subst e
          rcases hi with hi | hi
          · rw [hi, up2_i (by omega), up2_s]
          · rw [hi, up2_s]
        · rw [up2_j e, up2_j e, h3 i j hi (by omega) q2]) ((hb.up (hB _ _)).up (hB _ _))
      refine ⟨T', g1, g2, g3, g4, g5, g6, g7, ?_⟩
      rw [← g8]
      show m9_insert_5b fl len X (m9_insert_5 fl len X n) _ _ _ _ _ _ _ _ = _
      rw [m9_insert_5b, if_neg (by rw [nI_leI (by omega) (by omega)]; omega), L1, nI_sub (by omega), l1, ck_inb _ (by omega) (by omega), ck_inb _ (by omega) (by omega), nI_clamp (by omega), nI_clamp (by omega), gA_mL (by omega), h2 1 _ (Or.inl rfl) (by omega), pA_mL (by omega), lt_e, l2, ck_inb _ (by omega) (by omega), ck_inb _ (by omega) (by omega), gA_mL (by omega), up2_i (by omega), h2 2 _ (Or.inr rfl) (by omega), pA_mL (by omega), lt_e, nI_m1n (by omega), lt_e]
  obtain ⟨T', g⟩ := key (nn' - r) nn' fl T (by omega) (Nat.le_refl _) (by omega) (fun _ _ _ _ => rfl) (fun _ _ _ _ => rfl) (fun i j _ q1 q2 => by omega) hB
  obtain ⟨g1, g2, g3, g4, g5, g6, g7, g8⟩ := g
  refine ⟨T', g1, g2, g3, g4, g5, g6, g7, ?_⟩
  rw [m9_insert, l0, L5, ck_inb _ (by omega) (by omega), nI_clamp (by omega), gA_mL0, e5, lt_e]
  exact g8
theorem g_take (hfl : 10000 ≤ fl) (hL : LL len a) {T : Nat → Nat → Nat} (hB : BT T) {nn' c : Nat} (e5 : T 0 5 = nn') (hn : nn' ≤ 24) (hc : c < nn') : ∃ T', (∀ i j, i ≠ 1 → i ≠ 2 → (i ≠ 0 ∨ j ≠ 5) → T' i j = T i j) ∧ T' 0 5 = nn' - 1 ∧ (∀ i j, (i = 1 ∨ i = 2) → j < c → T' i j = T i j) ∧ (∀ i j, (i = 1 ∨ i = 2) → c ≤ j → j + 1 < nn' → T' i j = T i (j + 1)) ∧ BT T' ∧ m9_take fl len X (mL I a T) a (a + 1) (a + 2) (nI c) = some (mL I a T') := by
  obtain ⟨l0, l1, l2, l3, l4, l5, l6, l7, l8⟩ := id hL
  have key : ∀ (j k n : Nat) (T1 : Nat → Nat → Nat), k + j = nn' - 1 → c ≤ k → j < n → (∀ i j, i ≠ 1 → i ≠ 2 → (i ≠ 0 ∨ j ≠ 5) → T1 i j = T i j) → T1 0 5 = nn' - 1 → (∀ i j, (i = 1 ∨ i = 2) → (j < c ∨ k ≤ j) → T1 i j = T i j) → (∀ i j, (i = 1 ∨ i = 2) → c ≤ j → j < k → T1 i j = T i (j + 1)) → BT T1 → ∃ T', (∀ i j, i ≠ 1 → i ≠ 2 → (i ≠ 0 ∨ j ≠ 5) → T' i j = T i j) ∧ T' 0 5 = nn' - 1 ∧ (∀ i j, (i = 1 ∨ i = 2) → j < c → T' i j = T i j) ∧ (∀ i j, (i = 1 ∨ i = 2) → c ≤ j → j + 1 < nn' → T' i j = T i (j + 1)) ∧ BT T' ∧ m9_take_10 fl len X n (mL I a T1) a (a + 1) (a + 2) (nI k) = some (mL I a T') := by
    intro j
    induction j with
    | zero =>
      intro k n T1 hj hk hn' h1 h5 h2 h3 hb
      obtain ⟨n, rfl⟩ : ∃ n', n = n' + 1 := ⟨n - 1, by omega⟩
      refine ⟨T1, h1, h5, fun i j hi q => h2 i j hi (Or.inl q), fun i j hi q1 q2 => h3 i j hi q1 (by omega), hb, ?_⟩
      show m9_take_10b fl len X (m9_take_10 fl len X n) _ _ _ _ _ = _
      rw [m9_take_10b, l0, L5, ck_inb _ (by omega) (by omega), nI_clamp (by omega), gA_mL0, h5, if_pos (by rw [nI_leI (by omega) (by omega)]; omega)]
    | succ j ih =>
      intro k n T1 hj hk hn' h1 h5 h2 h3 hb
      obtain ⟨n, rfl⟩ : ∃ n', n = n' + 1 := ⟨n - 1, by omega⟩
      obtain ⟨T', g1, g2, g3, g4, g5, g6⟩ := ih (k + 1) n (up2 (up2 T1 1 k (T 1 (k + 1))) 2 k (T 2 (k + 1))) (by omega) (by omega) (by omega) (fun i j q1 q2 q3 => by rw [up2_i q2, up2_i q1, h1 i j q1 q2 q3]) (by rw [up2_i (by omega), up2_i (by omega), h5]) (fun i j hi q => by rw [up2_j (by omega), up2_j (by omega), h2 i j hi (by omega)]) (fun i j hi q1 q2 => by
        by_cases e : j = k
        · subst e
          rcases hi with hi | hi
          · rw [hi, up2_i (by omega), up2_s]
          · rw [hi, up2_s]
        · rw [up2_j e, up2_j e, h3 i j hi q1 (by omega)]) ((hb.up (hB _ _)).up (hB _ _))
      refine ⟨T', g1, g2, g3, g4, g5, ?_⟩
      rw [← g6]
      show m9_take_10b fl len X (m9_take_10 fl len X n) _ _ _ _ _ = _
      rw [m9_take_10b, l0, L5, ck_inb _ (by omega) (by omega), nI_clamp (by omega), gA_mL0, h5, if_neg (by rw [nI_leI (by omega) (by omega)]; omega), L1, nI_add, l1, ck_inb _ (by omega) (by omega), ck_inb _ (by omega) (by omega), nI_clamp (by omega), nI_clamp (by omega), gA_mL (by omega), h2 1 _ (Or.inl rfl) (by omega), pA_mL (by omega), lt_e, l2, ck_inb _ (by omega) (by omega), ck_inb _ (by omega) (by omega), gA_mL (by omega), up2_i (by omega), h2 2 _ (Or.inr rfl) (by omega), pA_mL (by omega), lt_e, lt_e]
  obtain ⟨T', g⟩ := key (nn' - 1 - c) c fl (up2 T 0 5 (nn' - 1)) (by omega) (Nat.le_refl _) (by omega) (fun i j _ _ q => by
    rcases q with q | q
    · rw [up2_i q]
    · rw [up2_j q]) up2_s (fun i j hi _ => by rw [up2_i (by omega)]) (fun i j _ q1 q2 => by omega) (hB.up (by omega))
  obtain ⟨g1, g2, g3, g4, g5, g6⟩ := g
  refine ⟨T', g1, g2, g3, g4, g5, ?_⟩
  rw [m9_take, l0, L5, ck_inb _ (by omega) (by omega), nI_clamp (by omega), gA_mL0, e5, L1, nI_sub (by omega), pA_mL0, lt_e]
  exact g6
theorem rkS_at {S : Nat → Nat} {K t : Nat} (hC : IvC S K) {c : Nat} (hc : c < S 5) : S (8 + 5 * c) ≤ t ↔ c < rkS S t (S 5) := by
  constructor
  · intro h
    by_cases q : c < rkS S t (S 5)
    · exact q
    · have := rkS_hi (S := S) (t := t) (k := S 5) (c := c) (by omega) hc
      omega
  · intro h
    have h1 := rkS_lo (S := S) (t := t) (k := S 5) (by omega)
    have h2 := rkS_le S t (S 5)
    exact Nat.le_trans (hC.le (c := c) (d := rkS S t (S 5) - 1) (by omega) (by omega)) h1
theorem g_rank (hfl : 10000 ≤ fl) (hL : LL len a) {S : Nat → Nat} {K : Nat} {T : Nat → Nat → Nat} (e5 : T 0 5 = S 5) (h1 : ∀ c, c < S 5 → T 1 c = S (8 + 5 * c)) (hv : Iv S K) {t : Nat} (ht : t < 10000) : m9_rankFor fl len X (mL I a T) a (a + 1) (nI t) = some (nI (rkS S t (S 5))) := by
  have h5 := hv.m6.1
  have hrn := rkS_le S t (S 5)
  obtain ⟨l0, l1, l2, l3, l4, l5, l6, l7, l8⟩ := id hL
  have key : ∀ (j k n : Nat), k + j = rkS S t (S 5) → j < n → m9_rankFor_2 fl len X (mL I a T) n a (a + 1) (nI t) (nI k) = some (nI (rkS S t (S 5))) := by
    intro j
    induction j with
    | zero =>
      intro k n hj hn
      obtain ⟨n, rfl⟩ : ∃ n', n = n' + 1 := ⟨n - 1, by omega⟩
      show m9_rankFor_2b fl len X (mL I a T) (m9_rankFor_2 fl len X (mL I a T) n) _ _ _ _ = _
      rw [m9_rankFor_2b, l0, L5, ck_inb _ (by omega) (by omega), nI_clamp (by omega), gA_mL0, e5]
      by_cases q : S 5 ≤ k
      · rw [if_pos (by rw [nI_leI (by omega) (by omega)]; exact q), m9_rankFor_22, show k = rkS S t (S 5) by omega]
      · have hc := rkS_at (t := t) hv.2.2.1 (c := k) (by omega)
        have hs := (hv.2.2.1.1 k (by omega)).1
        rw [if_neg (by rw [nI_leI (by omega) (by omega)]; exact q), l1, ck_inb _ (by omega) (by omega), nI_clamp (by omega), gA_mL (by omega), h1 k (by omega), if_pos (by rw [nI_ltI (by omega) (by omega)]; omega), m9_rankFor_22, show k = rkS S t (S 5) by omega]
    | succ j ih =>
      intro k n hj hn
      obtain ⟨n, rfl⟩ : ∃ n', n = n' + 1 := ⟨n - 1, by omega⟩
      have ih := ih (k + 1) n (by omega) (by omega)
      have hc := rkS_at (t := t) hv.2.2.1 (c := k) (by omega)
      have hs := (hv.2.2.1.1 k (by omega)).1
      show m9_rankFor_2b fl len X (mL I a T) (m9_rankFor_2 fl len X (mL I a T) n) _ _ _ _ = _
      rw [m9_rankFor_2b, l0, L5, ck_inb _ (by omega) (by omega), nI_clamp (by omega), gA_mL0, e5, if_neg (by rw [nI_leI (by omega) (by omega)]; omega), l1, ck_inb _ (by omega) (by omega), nI_clamp (by omega), gA_mL (by omega), h1 k (by omega), if_neg (by rw [nI_ltI (by omega) (by omega)]; omega), L1, nI_add, lt_e]
      exact ih
  rw [m9_rankFor, L0]
  exact key (rkS S t (S 5)) 0 fl (by omega) (by omega)
/-- the law's rows where a cue came in -/
theorem LT.ins {S : Nat → Nat} {T T' : Nat → Nat → Nat} (h : LT T S) {K r t kd wh v : Nat} (hv : Iv S K) (hn : S 5 < 24) (hr : r ≤ S 5) (g1 : ∀ i j, i ≠ 1 → i ≠ 2 → (i ≠ 0 ∨ j ≠ 5) → T' i j = T i j) (g2 : T' 0 5 = S 5 + 1) (g3 : ∀ i j, (i = 1 ∨ i = 2) → j < r → T' i j = T i j) (g4 : T' 1 r = t) (g5 : T' 2 r = kd + 4 * wh + 16 * v) (g6 : ∀ i j, (i = 1 ∨ i = 2) → r < j → j ≤ S 5 → T' i j = T i (j - 1)) (g7 : BT T') : LT T' (insS S r t kd wh v) := by
  have h67 := h67_le hv
  have fr : ∀ j, j ≠ 5 → (j < 8 ∨ 128 ≤ j) → insS S r t kd wh v j = S j := fun j h1 h2 => ins_far hr hn h1 h2
  obtain ⟨t0, t1, t3, t4, t5, t6, t7, t8, tB⟩ := h
  refine ⟨fun j hj => ?_, fun c hc => ?_, t3.to (fun j => g1 3 j (by omega) (by omega) (by omega)) (fun j _ _ => fr j (by omega) (by omega)), t4.to (fun j => g1 4 j (by omega) (by omega) (by omega)) hv.m6.2 (fun r hr => fr _ (by omega) (by omega)) (fun j _ _ => fr j (by omega) (by omega)), t5.to (fun j => g1 5 j (by omega) (by omega) (by omega)) (fun j _ _ => fr j (by omega) (by omega)), t6.to (fun j => g1 6 j (by omega) (by omega) (by omega)) (fr 6 (by omega) (by omega)) h67.1 (fun j _ _ => fr j (by omega) (by omega)), t7.to (fun j => g1 7 j (by omega) (by omega) (by omega)) (fr 7 (by omega) (by omega)) h67.2 (fun j _ _ => fr j (by omega) (by omega)), t8.to (fun j => g1 8 j (by omega) (by omega) (by omega)) (fr 4 (by omega) (by omega)) (fun j _ => fr j (by omega) (by omega)), g7⟩
  · by_cases e : j = 5
    · rw [e, g2, ins_5]
    · rw [g1 0 j (by omega) (by omega) (by omega), fr j e (by omega)]
      exact t0 j hj
  · rw [ins_5] at hc
    unfold cv
    rcases Nat.lt_trichotomy c r with q | q | q
    · have e0 := ins_lo (S := S) (r := r) (t := t) (kd := kd) (wh := wh) (v := v) (c := c) (f := 0) q (by omega)
      rw [Nat.add_zero] at e0
      rw [g3 1 c (Or.inl rfl) q, g3 2 c (Or.inr rfl) q, e0, ins_lo q (by omega), ins_lo q (by omega), ins_lo q (by omega), ins_lo q (by omega)]
      exact t1 c (by omega)
    · obtain ⟨a0, a1, a2, a3, a4⟩ := ins_at (S := S) (r := r) (t := t) (kd := kd) (wh := wh) (v := v)
      rw [q, g4, g5, a0, a1, a2, a3, a4]
      exact ⟨rfl, rfl⟩
    · have e0 := ins_hi (S := S) (r := r) (t := t) (kd := kd) (wh := wh) (v := v) (c := c) (f := 0) q (by omega) (by omega)
      rw [Nat.add_zero, Nat.add_zero] at e0
      rw [g6 1 c (Or.inl rfl) q (by omega), g6 2 c (Or.inr rfl) q (by omega), e0, ins_hi q (by omega) (by omega), ins_hi q (by omega) (by omega), ins_hi q (by omega) (by omega), ins_hi q (by omega) (by omega)]
      exact t1 (c - 1) (by omega)
theorem LT.cl {S : Nat → Nat} {T T' : Nat → Nat → Nat} (h : LT T S) {K r : Nat} (hv : Iv S K) (hr : r < S 5) (g1 : ∀ i j, i ≠ 1 → i ≠ 2 → (i ≠ 0 ∨ j ≠ 5) → T' i j = T i j) (g2 : T' 0 5 = S 5 - 1) (g3 : ∀ i j, (i = 1 ∨ i = 2) → j < r → T' i j = T i j) (g4 : ∀ i j, (i = 1 ∨ i = 2) → r ≤ j → j + 1 < S 5 → T' i j = T i (j + 1)) (g7 : BT T') : LT T' (clS S r) := by
  have h67 := h67_le hv
  have h5 := hv.m6.1
  have fr : ∀ j, j ≠ 5 → (j < 8 ∨ 128 ≤ j) → clS S r j = S j := fun j h1 h2 => cl_far h5 h1 h2
  obtain ⟨t0, t1, t3, t4, t5, t6, t7, t8, tB⟩ := h
  refine ⟨fun j hj => ?_, fun c hc => ?_, t3.to (fun j => g1 3 j (by omega) (by omega) (by omega)) (fun j _ _ => fr j (by omega) (by omega)), t4.to (fun j => g1 4 j (by omega) (by omega) (by omega)) hv.m6.2 (fun r hr => fr _ (by omega) (by omega)) (fun j _ _ => fr j (by omega) (by omega)), t5.to (fun j => g1 5 j (by omega) (by omega) (by omega)) (fun j _ _ => fr j (by omega) (by omega)), t6.to (fun j => g1 6 j (by omega) (by omega) (by omega)) (fr 6 (by omega) (by omega)) h67.1 (fun j _ _ => fr j (by omega) (by omega)), t7.to (fun j => g1 7 j (by omega) (by omega) (by omega)) (fr 7 (by omega) (by omega)) h67.2 (fun j _ _ => fr j (by omega) (by omega)), t8.to (fun j => g1 8 j (by omega) (by omega) (by omega)) (fr 4 (by omega) (by omega)) (fun j _ => fr j (by omega) (by omega)), g7⟩
  · by_cases e : j = 5
    · rw [e, g2, cl_5]
    · rw [g1 0 j (by omega) (by omega) (by omega), fr j e (by omega)]
      exact t0 j hj
  · rw [cl_5] at hc
    unfold cv
    by_cases q : c < r
    · have e0 := cl_lo (S := S) (a := r) (c := c) (f := 0) q (by omega)
      rw [Nat.add_zero] at e0
      rw [g3 1 c (Or.inl rfl) q, g3 2 c (Or.inr rfl) q, e0, cl_lo q (by omega), cl_lo q (by omega), cl_lo q (by omega), cl_lo q (by omega)]
      exact t1 c (by omega)
    · have q : r ≤ c := by omega
      have e0 := cl_hi (S := S) (a := r) (c := c) (f := 0) q (by omega) (by omega)
      rw [Nat.add_zero, Nat.add_zero] at e0
      rw [g4 1 c (Or.inl rfl) q (by omega), g4 2 c (Or.inr rfl) q (by omega), e0, cl_hi q (by omega) (by omega), cl_hi q (by omega) (by omega), cl_hi q (by omega) (by omega), cl_hi q (by omega) (by omega)]
      exact t1 (c + 1) (by omega)
theorem LT.set {S : Nat → Nat} {T : Nat → Nat → Nat} (h : LT T S) {K k v : Nat} (hv : Iv S K) (hk : k < 4) (hvb : v < 1000000) : LT (up2 T 0 k v) (upN S k v) := by
  have h67 := h67_le hv
  have fr : ∀ j, 4 ≤ j → upN S k v j = S j := fun j h1 => upN_ne (by omega)
  obtain ⟨t0, t1, t3, t4, t5, t6, t7, t8, tB⟩ := h
  refine ⟨fun j hj => ?_, t1.to (fun i j hi => up2_i (by omega)) (fr 5 (by omega)) hv.m6.1 (fun j _ _ => fr j (by omega)), t3.to (fun j => up2_i (by omega)) (fun j _ _ => fr j (by omega)), t4.to (fun j => up2_i (by omega)) hv.m6.2 (fun r hr => fr _ (by omega)) (fun j _ _ => fr j (by omega)), t5.to (fun j => up2_i (by omega)) (fun j _ _ => fr j (by omega)), t6.to (fun j => up2_i (by omega)) (fr 6 (by omega)) h67.1 (fun j _ _ => fr j (by omega)), t7.to (fun j => up2_i (by omega)) (fr 7 (by omega)) h67.2 (fun j _ _ => fr j (by omega)), t8.to (fun j => up2_i (by omega)) (fr 4 (by omega)) (fun j _ => fr j (by omega)), tB.up hvb⟩
  by_cases e : j = k
  · rw [e, up2_s, upN_eq]
  · rw [up2_j e, upN_ne e]; exact t0 j hj
theorem LT.goal {S : Nat → Nat} {T : Nat → Nat → Nat} (h : LT T S) {K k v : Nat} (hv : Iv S K) (hk : k < 4) (hvb : v < 1000000) : LT (up2 T 5 (2 * k + 1) v) (upN S (216 + 2 * k + 1) v) := by
  have h67 := h67_le hv
  have fr : ∀ j, (j < 216 ∨ 224 ≤ j) → upN S (216 + 2 * k + 1) v j = S j := fun j h1 => upN_ne (by omega)
  obtain ⟨t0, t1, t3, t4, t5, t6, t7, t8, tB⟩ := h
  refine ⟨t0.to (fun j _ => up2_i (by omega)) (fun j hj => fr j (by omega)), t1.to (fun i j hi => up2_i (by omega)) (fr 5 (by omega)) hv.m6.1 (fun j _ _ => fr j (by omega)), t3.to (fun j => up2_i (by omega)) (fun j _ _ => fr j (by omega)), t4.to (fun j => up2_i (by omega)) hv.m6.2 (fun r hr => fr _ (by omega)) (fun j _ _ => fr j (by omega)), fun j hj => ?_, t6.to (fun j => up2_i (by omega)) (fr 6 (by omega)) h67.1 (fun j _ _ => fr j (by omega)), t7.to (fun j => up2_i (by omega)) (fr 7 (by omega)) h67.2 (fun j _ _ => fr j (by omega)), t8.to (fun j => up2_i (by omega)) (fr 4 (by omega)) (fun j _ => fr j (by omega)), tB.up hvb⟩
  by_cases e : j = 2 * k + 1
  · rw [e, up2_s, show 216 + (2 * k + 1) = 216 + 2 * k + 1 by omega, upN_eq]
  · rw [up2_j e, upN_ne (by omega)]; exact t5 j hj
theorem LT.snd {S : Nat → Nat} {T : Nat → Nat → Nat} (h : LT T S) {K r x y : Nat} (hv : Iv S K) (hr : r < 4) (hm : S (128 + 4 * r + 3) < 6) (hx : x ≤ 60) (hy : y ≤ 99) : LT (up2 (up2 T 4 (6 * r + S (128 + 4 * r + 3)) (x + 64 * y)) 3 (4 * r + 3) (S (128 + 4 * r + 3) + 1)) (sndS S r x y) := by
  have h67 := h67_le hv
  obtain ⟨s1, s2, s3, s4⟩ := sndS_at (S := S) (a := x) (c := y) hr hm
  have far : ∀ j, j ≠ 144 + 3 * (6 * r + S (128 + 4 * r + 3)) → j ≠ 144 + 3 * (6 * r + S (128 + 4 * r + 3)) + 1 → j ≠ 144 + 3 * (6 * r + S (128 + 4 * r + 3)) + 2 → j ≠ 128 + 4 * r + 3 → sndS S r x y j = S j := fun j q1 q2 q3 q4 => sndS_far hr hm q1 q2 q3 q4
  have fr : ∀ j, (j < 128 ∨ 216 ≤ j) → sndS S r x y j = S j := fun j h1 => far j (by omega) (by omega) (by omega) (by omega)
  obtain ⟨t0, t1, t3, t4, t5, t6, t7, t8, tB⟩ := h
  refine ⟨t0.to (fun j _ => by rw [up2_i (by omega), up2_i (by omega)]) (fun j hj => fr j (by omega)), t1.to (fun i j hi => by rw [up2_i (by omega), up2_i (by omega)]) (fr 5 (by omega)) hv.m6.1 (fun j _ _ => fr j (by omega)), fun j hj => ?_, fun r' hr' k hk => ?_, t5.to (fun j => by rw [up2_i (by omega), up2_i (by omega)]) (fun j _ _ => fr j (by omega)), t6.to (fun j => by rw [up2_i (by omega), up2_i (by omega)]) (fr 6 (by omega)) h67.1 (fun j _ _ => fr j (by omega)), t7.to (fun j => by rw [up2_i (by omega), up2_i (by omega)]) (fr 7 (by omega)) h67.2 (fun j _ _ => fr j (by omega)), t8.to (fun j => by rw [up2_i (by omega), up2_i (by omega)]) (fr 4 (by omega)) (fun j _ => fr j (by omega)), (tB.up (by omega)).up (by omega)⟩
  · by_cases e : j = 4 * r + 3
    · rw [e, up2_s, show 128 + (4 * r + 3) = 128 + 4 * r + 3 by omega, s4]
    · rw [up2_j e, up2_i (by omega), far _ (by omega) (by omega) (by omega) (by omega)]
      exact t3 j hj
  · rw [up2_i (by omega)]
    unfold uv
    have hm' := hv.m6.2 r' hr'
    by_cases e : r' = r ∧ k = S (128 + 4 * r + 3)
    · rw [e.1, e.2, up2_s, s1, s2, s3]
      omega
    · have hk' : k < S (128 + 4 * r' + 3) := by
        by_cases er : r' = r
        · rw [er, s4] at hk
          rw [er]
          by_cases ek : k = S (128 + 4 * r + 3)
          · exact absurd ⟨er, ek⟩ e
          · omega
        · rw [far _ (by omega) (by omega) (by omega) (by omega)] at hk; exact hk
      have hne : 6 * r' + k ≠ 6 * r + S (128 + 4 * r + 3) := by
        intro q
        have : r' = r ∧ k = S (128 + 4 * r + 3) := by omega
        exact e this
      rw [up2_j hne, far _ (by omega) (by omega) (by omega) (by omega), far _ (by omega) (by omega) (by omega) (by omega), far _ (by omega) (by omega) (by omega) (by omega)]
      exact t4 r' hr' k hk'
end CJ
