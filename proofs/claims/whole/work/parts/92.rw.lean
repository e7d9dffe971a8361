def Tg (b : Nat) (M0 : Im) (n l : Nat) (res : Option (Int32 × Im)) (R : Bool × Nat × Nat × (Nat → Nat)) : Prop := ∃ M1, res = some (if R.1 = true then 1 else 0, M1) ∧ Pm9 b M0 M1 R.2.1 (if R.1 = true then n + 1 else n) n l R.2.2.1 R.2.2.2
section RW'
variable {c : Nat → Nat} {t : Nat} {tx : Nat → Nat} {fl : Nat} {len : Nat → Nat} {X : Xm} {L M0 : Im} {b a l k m n : Nat} {ns : Nat → Nat}
theorem t_bad {r : Nat} (h : Pm9 b M0 L a n n l k ns) : Tg b M0 n l (m9_reads_348 fl len X L (b + 799) 0 r) (false, a, k, ns) := by
  refine ⟨pF L 154 (b + 799) (nI n), ?_, ?_⟩
  · rw [m9_reads_348, if_pos rfl, m9_reads_362, h.1.2, show (0 : Int32) = nI 0 from rfl, nI_add, lt_e, show nI 0 = (0 : Int32) from rfl, ck_isbl0]
    rfl
  · obtain ⟨⟨g1, g2⟩, g3, g4, g5⟩ := h
    exact ⟨⟨by rw [gF_f (by omega)]; exact g1, gF_s⟩, g3, g4, fun f c hf => by rw [gF_pF, if_neg (by omega)]; exact g5.1 f c hf, fun c j hc => g5.2 c j hc⟩
theorem t_ok {r : Nat} (h : Pm9 b M0 L a n n l k ns) : Tg b M0 n l (m9_reads_348 fl len X L (b + 799) 1 r) (true, a, k, ns) := by
  refine ⟨pF L 154 (b + 799) (nI (n + 1)), ?_, ?_⟩
  · rw [m9_reads_348, if_neg (by decide), m9_reads_362, h.1.2, nI_k1, lt_e, ck_isbl1]
    rfl
  · obtain ⟨⟨g1, g2⟩, g3, g4, g5⟩ := h
    exact ⟨⟨by rw [gF_f (by omega)]; exact g1, gF_s⟩, g3, g4, fun f c hf => by rw [gF_pF, if_neg (by omega)]; exact g5.1 f c hf, fun c j hc => g5.2 c j hc⟩
theorem lv_D (hL : LG len b) (h151 : gR X 151 (b + 799) = some (b + 805)) (h155 : gR X 155 (b + 799) = some (b + 806)) (hT : TM b M0 t tx) (hn : n ≤ 28) (k : Nat) (hk : k ≤ 2) (ss : List Nat) {G : Int32 × Im → Option (Int32 × Im)} (h : Pm9 b M0 L a n n l k ns) (ha : a ≤ t)
    (hb : ∀ M1, Pm9 b M0 M1 a n n l k ns → Tg b M0 n l (G (0, M1)) (false, a, k, ns)) (hg : ∀ M1 a' ns', a' ≤ t → Pm9 b M0 M1 a' n n l (k + 1) ns' → Tg b M0 n l (G (1, M1)) (run (chT t tx) ss a' (k + 1) ns')) : Tg b M0 n l (nn (m9_digit fl len X L (b + 799) (nI (k + 1))) G) (run (chT t tx) (68 :: ss) a k ns) := by
  obtain ⟨d1, d0⟩ := p_digit (fl := fl) (len := len) (X := X) hL h151 h155 hT h ha hn hk
  by_cases hd : isD (chT t tx a)
  · obtain ⟨M1, e, g⟩ := d1 hd
    have ep : prt (chT t tx) 68 a k ns = (true, a + 1, k + 1, upN ns k (chT t tx a - 48)) := by unfold prt; rw [if_pos rfl, if_pos hd]
    rw [e, nn_s, run_t (by rw [ep]), ep]
    exact hg M1 (a + 1) _ (ch_lt (tx := tx) (by omega)) g
  · have ep : prt (chT t tx) 68 a k ns = (false, a, k, ns) := by unfold prt; rw [if_pos rfl, if_neg hd]
    rw [d0 hd, nn_s, run_f (by rw [ep]; exact fun q => Bool.noConfusion q), ep]
    exact hb L h
theorem lv_N (hfl : 10000 ≤ fl) (hL : LG len b) (h151 : gR X 151 (b + 799) = some (b + 805)) (h155 : gR X 155 (b + 799) = some (b + 806)) (hT : TM b M0 t tx) (hn : n ≤ 28) (k : Nat) (hk : k ≤ 2) (ss : List Nat) {G : Int32 × Im → Option (Int32 × Im)} (h : Pm9 b M0 L a n n l k ns) (ha : a ≤ t)
    (hb : ∀ M1, Pm9 b M0 M1 a n n l k ns → Tg b M0 n l (G (0, M1)) (false, a, k, ns)) (hg : ∀ M1 a' ns', a' ≤ t → Pm9 b M0 M1 a' n n l (k + 1) ns' → Tg b M0 n l (G (1, M1)) (run (chT t tx) ss a' (k + 1) ns')) : Tg b M0 n l (nn (m9_number fl len X L (b + 799) (nI (k + 1))) G) (run (chT t tx) (78 :: ss) a k ns) := by
  obtain ⟨d1, d0⟩ := p_number (fl := fl) (len := len) (X := X) hfl hL h151 h155 hT h ha hn hk
  by_cases hd : isD (chT t tx a)
  · obtain ⟨M1, e, g⟩ := d1 hd
    have ep : prt (chT t tx) 78 a k ns = (true, (rn (chT t tx) 2 (a + 1) (chT t tx a - 48)).1, k + 1, upN ns k (rn (chT t tx) 2 (a + 1) (chT t tx a - 48)).2) := by unfold prt; rw [if_neg (by decide), if_pos rfl, if_pos hd]
    rw [e, nn_s, run_t (by rw [ep]), ep]
    exact hg M1 _ _ (rn_le 2 (a + 1) _ (ch_lt (tx := tx) (by omega))) g
  · have ep : prt (chT t tx) 78 a k ns = (false, a, k, ns) := by unfold prt; rw [if_neg (by decide), if_pos rfl, if_neg hd]
    rw [d0 hd, nn_s, run_f (by rw [ep]; exact fun q => Bool.noConfusion q), ep]
    exact hb L h
theorem lv_S (hL : LG len b) (h151 : gR X 151 (b + 799) = some (b + 805)) (hT : TM b M0 t tx) (s : Nat) (h1 : 1 ≤ s) (h2 : s < 1000) (h68 : s ≠ 68) (h78 : s ≠ 78) (ss : List Nat) {G : Int32 × Im → Option (Int32 × Im)} (h : Pm9 b M0 L a n n l k ns) (ha : a ≤ t)
    (hb : ∀ M1, Pm9 b M0 M1 a n n l k ns → Tg b M0 n l (G (0, M1)) (false, a, k, ns)) (hg : ∀ M1 a' ns', a' ≤ t → Pm9 b M0 M1 a' n n l k ns' → Tg b M0 n l (G (1, M1)) (run (chT t tx) ss a' k ns')) : Tg b M0 n l (nn (m9_sign fl len X L (b + 799) (nI s)) G) (run (chT t tx) (s :: ss) a k ns) := by
  have hTL := hT.fr h.2.2.2
  have ht := hT.1.1
  have e := p_sign (fl := fl) hL.2.1.2.2.2.2.2.1 h151 hTL h.1.1 (by omega) h1 (by omega)
  by_cases hd : chT t tx a = s
  · have ep : prt (chT t tx) s a k ns = (true, a + 1, k, ns) := by unfold prt; rw [if_neg h68, if_neg h78, if_pos hd]
    rw [if_pos hd] at e
    rw [e, nn_s, run_t (by rw [ep]), ep]
    exact hg _ (a + 1) _ (ch_lt (tx := tx) (by omega)) (h.at (a + 1))
  · have ep : prt (chT t tx) s a k ns = (false, a, k, ns) := by unfold prt; rw [if_neg h68, if_neg h78, if_neg hd]
    rw [if_neg hd] at e
    rw [e, nn_s, run_f (by rw [ep]; exact fun q => Bool.noConfusion q), ep]
    exact hb _ (h.at a)

theorem p_reads114 (hfl : 10000 ≤ fl) (hL : LG len b) (h151 : gR X 151 (b + 799) = some (b + 805)) (h155 : gR X 155 (b + 799) = some (b + 806)) (hT : TM b M0 t tx) (hn : n ≤ 28) (hn' : gF L 154 (b + 799) = nI n) (h153 : gF L 153 (b + 799) = nI a) (hLM : L = M0) (ha : a + 1 ≤ t) : Tg b M0 n 114 (m9_reads_75 fl len X L (b + 799) (nI 114) 1 (b + 799) (gF L 153 (b + 799)) 1) (run (chT t tx) [68, 43, 78, 42, 78] (a + 1) 0 (fun _ => 0)) := by
  obtain ⟨l, hl⟩ : ∃ l, l = 114 := ⟨_, rfl⟩
  have h0 : Pm9 b M0 (pA (pF L 153 (b + 799) (nI (a + 1))) (b + 806) (4 * n) (nI 114)) (a + 1) n n l 0 (fun _ => 0) := by
    rw [hl, ← hLM]
    exact ⟨⟨by rw [gF_pA, gF_s], by rw [gF_pA, gF_f (by omega)]; exact hn'⟩, ⟨by rw [gA_s], fun j hj => absurd hj (Nat.not_lt_zero _)⟩, fun j hj => by rw [gA_j (by omega), gA_pF], fun f c hf => by rw [gF_pA, gF_pF, if_neg (by omega)], fun c j hc => by rw [gA_a hc, gA_pF]⟩
  rw [← hl] at h0
  rw [m9_reads_75, h153, nI_k1, lt_e, h155, nn_s, gF_f (by omega), hn', show (4 : Int32) = nI 4 from rfl, nI_mul, hL.2.1.2.2.2.2.2.2, ck_inb _ (by omega) (by omega), nI_clamp (by omega), lt_e, if_neg (by decide), if_neg (by decide), if_neg (by decide), if_pos (by decide)]
  rw [← hl]
  exact lv_D hL h151 h155 hT hn 0 (by omega) [43, 78, 42, 78] h0 ha (fun M1 g => by show Tg b M0 n l (if (0 : Int32) = 0 then _ else _) _; rw [if_pos rfl, m9_reads_190, m9_reads_191]; exact t_bad g) (fun M1 a' ns' ha' g' => by show Tg b M0 n l (if (1 : Int32) = 0 then _ else _) _; rw [if_neg (by decide)]; exact lv_S hL h151 hT 43 (by omega) (by omega) (by omega) (by omega) [78, 42, 78] g' ha' (fun M1 g => by show Tg b M0 n l (if (0 : Int32) = 0 then _ else _) _; rw [if_pos rfl, m9_reads_190, m9_reads_191]; exact t_bad g) (fun M1 a' ns' ha' g' => by show Tg b M0 n l (if (1 : Int32) = 0 then _ else _) _; rw [if_neg (by decide)]; exact lv_N hfl hL h151 h155 hT hn 1 (by omega) [42, 78] g' ha' (fun M1 g => by show Tg b M0 n l (if (0 : Int32) = 0 then _ else _) _; rw [if_pos rfl, m9_reads_190, m9_reads_191]; exact t_bad g) (fun M1 a' ns' ha' g' => by show Tg b M0 n l (if (1 : Int32) = 0 then _ else _) _; rw [if_neg (by decide)]; exact lv_S hL h151 hT 42 (by omega) (by omega) (by omega) (by omega) [78] g' ha' (fun M1 g => by show Tg b M0 n l (if (0 : Int32) = 0 then _ else _) _; rw [if_pos rfl, m9_reads_190, m9_reads_191]; exact t_bad g) (fun M1 a' ns' ha' g' => by show Tg b M0 n l (if (1 : Int32) = 0 then _ else _) _; rw [if_neg (by decide)]; exact lv_N hfl hL h151 h155 hT hn 2 (by omega) [] g' ha' (fun M1 g => by show Tg b M0 n l (if (0 : Int32) = 0 then _ else _) _; rw [if_pos rfl, m9_reads_190, m9_reads_191]; exact t_bad g) (fun M1 a' ns' ha' g' => by show Tg b M0 n l (if (1 : Int32) = 0 then _ else _) _; rw [if_neg (by decide)]; exact t_ok g')))))
theorem p_reads115 (hfl : 10000 ≤ fl) (hL : LG len b) (h151 : gR X 151 (b + 799) = some (b + 805)) (h155 : gR X 155 (b + 799) = some (b + 806)) (hT : TM b M0 t tx) (hn : n ≤ 28) (hn' : gF L 154 (b + 799) = nI n) (h153 : gF L 153 (b + 799) = nI a) (hLM : L = M0) (ha : a + 1 ≤ t) : Tg b M0 n 115 (m9_reads_75 fl len X L (b + 799) (nI 115) 1 (b + 799) (gF L 153 (b + 799)) 1) (run (chT t tx) [78, 58, 68, 68] (a + 1) 0 (fun _ => 0)) := by
  obtain ⟨l, hl⟩ : ∃ l, l = 115 := ⟨_, rfl⟩
  have h0 : Pm9 b M0 (pA (pF L 153 (b + 799) (nI (a + 1))) (b + 806) (4 * n) (nI 115)) (a + 1) n n l 0 (fun _ => 0) := by
    rw [hl, ← hLM]
    exact ⟨⟨by rw [gF_pA, gF_s], by rw [gF_pA, gF_f (by omega)]; exact hn'⟩, ⟨by rw [gA_s], fun j hj => absurd hj (Nat.not_lt_zero _)⟩, fun j hj => by rw [gA_j (by omega), gA_pF], fun f c hf => by rw [gF_pA, gF_pF, if_neg (by omega)], fun c j hc => by rw [gA_a hc, gA_pF]⟩
  rw [← hl] at h0
  rw [m9_reads_75, h153, nI_k1, lt_e, h155, nn_s, gF_f (by omega), hn', show (4 : Int32) = nI 4 from rfl, nI_mul, hL.2.1.2.2.2.2.2.2, ck_inb _ (by omega) (by omega), nI_clamp (by omega), lt_e, if_neg (by decide), if_neg (by decide), if_neg (by decide), if_neg (by decide), if_pos (by decide)]
  rw [← hl]
  exact lv_N hfl hL h151 h155 hT hn 0 (by omega) [58, 68, 68] h0 ha (fun M1 g => by show Tg b M0 n l (if (0 : Int32) = 0 then _ else _) _; rw [if_pos rfl, m9_reads_232, m9_reads_233]; exact t_bad g) (fun M1 a' ns' ha' g' => by show Tg b M0 n l (if (1 : Int32) = 0 then _ else _) _; rw [if_neg (by decide)]; exact lv_S hL h151 hT 58 (by omega) (by omega) (by omega) (by omega) [68, 68] g' ha' (fun M1 g => by show Tg b M0 n l (if (0 : Int32) = 0 then _ else _) _; rw [if_pos rfl, m9_reads_232, m9_reads_233]; exact t_bad g) (fun M1 a' ns' ha' g' => by show Tg b M0 n l (if (1 : Int32) = 0 then _ else _) _; rw [if_neg (by decide)]; exact lv_D hL h151 h155 hT hn 1 (by omega) [68] g' ha' (fun M1 g => by show Tg b M0 n l (if (0 : Int32) = 0 then _ else _) _; rw [if_pos rfl, m9_reads_232, m9_reads_233]; exact t_bad g) (fun M1 a' ns' ha' g' => by show Tg b M0 n l (if (1 : Int32) = 0 then _ else _) _; rw [if_neg (by decide)]; exact lv_D hL h151 h155 hT hn 2 (by omega) [] g' ha' (fun M1 g => by show Tg b M0 n l (if (0 : Int32) = 0 then _ else _) _; rw [if_pos rfl, m9_reads_232, m9_reads_233]; exact t_bad g) (fun M1 a' ns' ha' g' => by show Tg b M0 n l (if (1 : Int32) = 0 then _ else _) _; rw [if_neg (by decide)]; exact t_ok g'))))
theorem p_reads100 (hfl : 10000 ≤ fl) (hL : LG len b) (h151 : gR X 151 (b + 799) = some (b + 805)) (h155 : gR X 155 (b + 799) = some (b + 806)) (hT : TM b M0 t tx) (hn : n ≤ 28) (hn' : gF L 154 (b + 799) = nI n) (h153 : gF L 153 (b + 799) = nI a) (hLM : L = M0) (ha : a + 1 ≤ t) : Tg b M0 n 100 (m9_reads_75 fl len X L (b + 799) (nI 100) 1 (b + 799) (gF L 153 (b + 799)) 1) (run (chT t tx) [78, 58, 68, 42, 78] (a + 1) 0 (fun _ => 0)) := by
  obtain ⟨l, hl⟩ : ∃ l, l = 100 := ⟨_, rfl⟩
  have h0 : Pm9 b M0 (pA (pF L 153 (b + 799) (nI (a + 1))) (b + 806) (4 * n) (nI 100)) (a + 1) n n l 0 (fun _ => 0) := by
    rw [hl, ← hLM]
    exact ⟨⟨by rw [gF_pA, gF_s], by rw [gF_pA, gF_f (by omega)]; exact hn'⟩, ⟨by rw [gA_s], fun j hj => absurd hj (Nat.not_lt_zero _)⟩, fun j hj => by rw [gA_j (by omega), gA_pF], fun f c hf => by rw [gF_pA, gF_pF, if_neg (by omega)], fun c j hc => by rw [gA_a hc, gA_pF]⟩
  rw [← hl] at h0
  rw [m9_reads_75, h153, nI_k1, lt_e, h155, nn_s, gF_f (by omega), hn', show (4 : Int32) = nI 4 from rfl, nI_mul, hL.2.1.2.2.2.2.2.2, ck_inb _ (by omega) (by omega), nI_clamp (by omega), lt_e, if_pos (by decide)]
  rw [← hl]
  exact lv_N hfl hL h151 h155 hT hn 0 (by omega) [58, 68, 42, 78] h0 ha (fun M1 g => by show Tg b M0 n l (if (0 : Int32) = 0 then _ else _) _; rw [if_pos rfl, m9_reads_283, m9_reads_284]; exact t_bad g) (fun M1 a' ns' ha' g' => by show Tg b M0 n l (if (1 : Int32) = 0 then _ else _) _; rw [if_neg (by decide)]; exact lv_S hL h151 hT 58 (by omega) (by omega) (by omega) (by omega) [68, 42, 78] g' ha' (fun M1 g => by show Tg b M0 n l (if (0 : Int32) = 0 then _ else _) _; rw [if_pos rfl, m9_reads_283, m9_reads_284]; exact t_bad g) (fun M1 a' ns' ha' g' => by show Tg b M0 n l (if (1 : Int32) = 0 then _ else _) _; rw [if_neg (by decide)]; exact lv_D hL h151 h155 hT hn 1 (by omega) [42, 78] g' ha' (fun M1 g => by show Tg b M0 n l (if (0 : Int32) = 0 then _ else _) _; rw [if_pos rfl, m9_reads_283, m9_reads_284]; exact t_bad g) (fun M1 a' ns' ha' g' => by show Tg b M0 n l (if (1 : Int32) = 0 then _ else _) _; rw [if_neg (by decide)]; exact lv_S hL h151 hT 42 (by omega) (by omega) (by omega) (by omega) [78] g' ha' (fun M1 g => by show Tg b M0 n l (if (0 : Int32) = 0 then _ else _) _; rw [if_pos rfl, m9_reads_283, m9_reads_284]; exact t_bad g) (fun M1 a' ns' ha' g' => by show Tg b M0 n l (if (1 : Int32) = 0 then _ else _) _; rw [if_neg (by decide)]; exact lv_N hfl hL h151 h155 hT hn 2 (by omega) [] g' ha' (fun M1 g => by show Tg b M0 n l (if (0 : Int32) = 0 then _ else _) _; rw [if_pos rfl, m9_reads_283, m9_reads_284]; exact t_bad g) (fun M1 a' ns' ha' g' => by show Tg b M0 n l (if (1 : Int32) = 0 then _ else _) _; rw [if_neg (by decide)]; exact t_ok g')))))
theorem p_reads108 (hfl : 10000 ≤ fl) (hL : LG len b) (h151 : gR X 151 (b + 799) = some (b + 805)) (h155 : gR X 155 (b + 799) = some (b + 806)) (hT : TM b M0 t tx) (hn : n ≤ 28) (hn' : gF L 154 (b + 799) = nI n) (h153 : gF L 153 (b + 799) = nI a) (hLM : L = M0) (ha : a + 1 ≤ t) : Tg b M0 n 108 (m9_reads_75 fl len X L (b + 799) (nI 108) 1 (b + 799) (gF L 153 (b + 799)) 1) (run (chT t tx) [78, 58, 68, 61, 78] (a + 1) 0 (fun _ => 0)) := by
  obtain ⟨l, hl⟩ : ∃ l, l = 108 := ⟨_, rfl⟩
  have h0 : Pm9 b M0 (pA (pF L 153 (b + 799) (nI (a + 1))) (b + 806) (4 * n) (nI 108)) (a + 1) n n l 0 (fun _ => 0) := by
    rw [hl, ← hLM]
    exact ⟨⟨by rw [gF_pA, gF_s], by rw [gF_pA, gF_f (by omega)]; exact hn'⟩, ⟨by rw [gA_s], fun j hj => absurd hj (Nat.not_lt_zero _)⟩, fun j hj => by rw [gA_j (by omega), gA_pF], fun f c hf => by rw [gF_pA, gF_pF, if_neg (by omega)], fun c j hc => by rw [gA_a hc, gA_pF]⟩
  rw [← hl] at h0
  rw [m9_reads_75, h153, nI_k1, lt_e, h155, nn_s, gF_f (by omega), hn', show (4 : Int32) = nI 4 from rfl, nI_mul, hL.2.1.2.2.2.2.2.2, ck_inb _ (by omega) (by omega), nI_clamp (by omega), lt_e, if_neg (by decide), if_neg (by decide), if_pos (by decide)]
  rw [← hl]
  exact lv_N hfl hL h151 h155 hT hn 0 (by omega) [58, 68, 61, 78] h0 ha (fun M1 g => by show Tg b M0 n l (if (0 : Int32) = 0 then _ else _) _; rw [if_pos rfl, m9_reads_334, m9_reads_335]; exact t_bad g) (fun M1 a' ns' ha' g' => by show Tg b M0 n l (if (1 : Int32) = 0 then _ else _) _; rw [if_neg (by decide)]; exact lv_S hL h151 hT 58 (by omega) (by omega) (by omega) (by omega) [68, 61, 78] g' ha' (fun M1 g => by show Tg b M0 n l (if (0 : Int32) = 0 then _ else _) _; rw [if_pos rfl, m9_reads_334, m9_reads_335]; exact t_bad g) (fun M1 a' ns' ha' g' => by show Tg b M0 n l (if (1 : Int32) = 0 then _ else _) _; rw [if_neg (by decide)]; exact lv_D hL h151 h155 hT hn 1 (by omega) [61, 78] g' ha' (fun M1 g => by show Tg b M0 n l (if (0 : Int32) = 0 then _ else _) _; rw [if_pos rfl, m9_reads_334, m9_reads_335]; exact t_bad g) (fun M1 a' ns' ha' g' => by show Tg b M0 n l (if (1 : Int32) = 0 then _ else _) _; rw [if_neg (by decide)]; exact lv_S hL h151 hT 61 (by omega) (by omega) (by omega) (by omega) [78] g' ha' (fun M1 g => by show Tg b M0 n l (if (0 : Int32) = 0 then _ else _) _; rw [if_pos rfl, m9_reads_334, m9_reads_335]; exact t_bad g) (fun M1 a' ns' ha' g' => by show Tg b M0 n l (if (1 : Int32) = 0 then _ else _) _; rw [if_neg (by decide)]; exact lv_N hfl hL h151 h155 hT hn 2 (by omega) [] g' ha' (fun M1 g => by show Tg b M0 n l (if (0 : Int32) = 0 then _ else _) _; rw [if_pos rfl, m9_reads_334, m9_reads_335]; exact t_bad g) (fun M1 a' ns' ha' g' => by show Tg b M0 n l (if (1 : Int32) = 0 then _ else _) _; rw [if_neg (by decide)]; exact t_ok g')))))
theorem p_reads103 (hfl : 10000 ≤ fl) (hL : LG len b) (h151 : gR X 151 (b + 799) = some (b + 805)) (h155 : gR X 155 (b + 799) = some (b + 806)) (hT : TM b M0 t tx) (hn : n ≤ 28) (hn' : gF L 154 (b + 799) = nI n) (h153 : gF L 153 (b + 799) = nI a) (hLM : L = M0) (ha : a + 1 ≤ t) : Tg b M0 n 103 (m9_reads_75 fl len X L (b + 799) (nI 103) 1 (b + 799) (gF L 153 (b + 799)) 1) (run (chT t tx) [78] (a + 1) 0 (fun _ => 0)) := by
  obtain ⟨l, hl⟩ : ∃ l, l = 103 := ⟨_, rfl⟩
  have h0 : Pm9 b M0 (pA (pF L 153 (b + 799) (nI (a + 1))) (b + 806) (4 * n) (nI 103)) (a + 1) n n l 0 (fun _ => 0) := by
    rw [hl, ← hLM]
    exact ⟨⟨by rw [gF_pA, gF_s], by rw [gF_pA, gF_f (by omega)]; exact hn'⟩, ⟨by rw [gA_s], fun j hj => absurd hj (Nat.not_lt_zero _)⟩, fun j hj => by rw [gA_j (by omega), gA_pF], fun f c hf => by rw [gF_pA, gF_pF, if_neg (by omega)], fun c j hc => by rw [gA_a hc, gA_pF]⟩
  rw [← hl] at h0
  rw [m9_reads_75, h153, nI_k1, lt_e, h155, nn_s, gF_f (by omega), hn', show (4 : Int32) = nI 4 from rfl, nI_mul, hL.2.1.2.2.2.2.2.2, ck_inb _ (by omega) (by omega), nI_clamp (by omega), lt_e, if_neg (by decide), if_pos (by decide)]
  rw [← hl]
  exact lv_N hfl hL h151 h155 hT hn 0 (by omega) [] h0 ha (fun M1 g => t_bad g) (fun M1 a' ns' ha' g' => by exact t_ok g')
theorem p_reads (hfl : 10000 ≤ fl) (hL : LG len b) (h151 : gR X 151 (b + 799) = some (b + 805)) (h155 : gR X 155 (b + 799) = some (b + 806)) (hT : TM b L t tx) (h153 : gF L 153 (b + 799) = nI a) (h154 : gF L 154 (b + 799) = nI n) (ha : a ≤ t) (hn : n ≤ 28) : Tg b L n (chT t tx a) (m9_reads fl len X L (b + 799)) (ordS (chT t tx) a) := by
  have ht := hT.1.1
  have h126 := chm_126 hT a
  have e24 : m9_reads fl len X L (b + 799) = m9_reads_24 fl len X L (b + 799) (nI (chT t tx a)) := by
    rw [m9_reads, hT.1.2, h153]
    by_cases e : a < t
    · rw [if_neg (by rw [nI_leI (by omega) (by omega)]; omega), h151, nn_s, hL.2.1.2.2.2.2.2.1, ck_inb _ (by omega) (by omega), nI_clamp (by omega), (hT.2 a e).2]
      unfold chT
      rw [if_pos e]
    · rw [if_pos (by rw [nI_leI (by omega) (by omega)]; omega)]
      unfold chT
      rw [if_neg e]
      rfl
  rw [e24]
  unfold ordS
  by_cases hp : prts (chT t tx a) = []
  · rw [if_pos hp]
    have hne : chT t tx a ≠ 114 ∧ chT t tx a ≠ 115 ∧ chT t tx a ≠ 100 ∧ chT t tx a ≠ 108 ∧ chT t tx a ≠ 103 := by
      unfold prts at hp
      refine ⟨fun q => ?_, fun q => ?_, fun q => ?_, fun q => ?_, fun q => ?_⟩ <;> (rw [q] at hp; exact absurd hp (by decide))
    have n1 : ¬ nI (chT t tx a) = (114 : Int32) := by rw [show (114 : Int32) = nI 114 from rfl, nI_eq (by omega) (by omega)]; exact hne.1
    have n2 : ¬ nI (chT t tx a) = (115 : Int32) := by rw [show (115 : Int32) = nI 115 from rfl, nI_eq (by omega) (by omega)]; exact hne.2.1
    have n3 : ¬ nI (chT t tx a) = (100 : Int32) := by rw [show (100 : Int32) = nI 100 from rfl, nI_eq (by omega) (by omega)]; exact hne.2.2.1
    have n4 : ¬ nI (chT t tx a) = (108 : Int32) := by rw [show (108 : Int32) = nI 108 from rfl, nI_eq (by omega) (by omega)]; exact hne.2.2.2.1
    have n5 : ¬ nI (chT t tx a) = (103 : Int32) := by rw [show (103 : Int32) = nI 103 from rfl, nI_eq (by omega) (by omega)]; exact hne.2.2.2.2
    have h0 : Pm9 b L (pA (pF L 153 (b + 799) (nI (a + 0))) (b + 806) (4 * n) (nI (chT t tx a))) a n n (chT t tx a) 0 (fun _ => 0) :=
      ⟨⟨by rw [gF_pA, gF_s]; rfl, by rw [gF_pA, gF_f (by omega)]; exact h154⟩, ⟨by rw [gA_s], fun j hj => absurd hj (Nat.not_lt_zero _)⟩, fun j hj => by rw [gA_j (by omega), gA_pF], fun f c hf => by rw [gF_pA, gF_pF, if_neg (by omega)], fun c j hc => by rw [gA_a hc, gA_pF]⟩
    rw [m9_reads_24, if_neg n1, if_neg n2, if_neg n3, if_neg n4, if_neg n5, m9_reads_60, if_pos rfl, m9_reads_75, h153, show nI a + (0 : Int32) = nI (a + 0) from nI_add a 0, lt_e, h155, nn_s, gF_f (by omega), h154, show (4 : Int32) = nI 4 from rfl, nI_mul, hL.2.1.2.2.2.2.2.2, ck_inb _ (by omega) (by omega), nI_clamp (by omega), lt_e, if_neg n3, if_neg n5, if_neg n4, if_neg n1, if_neg n2]
    exact t_bad h0
  · rw [if_neg hp]
    have ha' : a + 1 ≤ t := ch_lt (tx := tx) (prts_n0 hp)
    have hcase : chT t tx a = 114 ∨ chT t tx a = 115 ∨ chT t tx a = 100 ∨ chT t tx a = 108 ∨ chT t tx a = 103 := by
      by_cases q1 : chT t tx a = 114
      · exact Or.inl q1
      · by_cases q2 : chT t tx a = 115
        · exact Or.inr (Or.inl q2)
        · by_cases q3 : chT t tx a = 100
          · exact Or.inr (Or.inr (Or.inl q3))
          · by_cases q4 : chT t tx a = 108
            · exact Or.inr (Or.inr (Or.inr (Or.inl q4)))
            · by_cases q5 : chT t tx a = 103
              · exact Or.inr (Or.inr (Or.inr (Or.inr q5)))
              · exact absurd (by unfold prts; rw [if_neg q1, if_neg q2, if_neg q3, if_neg q4, if_neg q5]) hp
    rcases hcase with q | q | q | q | q
    · rw [q, m9_reads_24, if_pos (by decide), m9_reads_55, m9_reads_60, if_neg (by decide)]
      exact p_reads114 hfl hL h151 h155 hT hn h154 h153 rfl ha'
    · rw [q, m9_reads_24, if_neg (by decide), if_pos (by decide), m9_reads_55, m9_reads_60, if_neg (by decide)]
      exact p_reads115 hfl hL h151 h155 hT hn h154 h153 rfl ha'
    · rw [q, m9_reads_24, if_neg (by decide), if_neg (by decide), if_pos (by decide), m9_reads_55, m9_reads_60, if_neg (by decide)]
      exact p_reads100 hfl hL h151 h155 hT hn h154 h153 rfl ha'
    · rw [q, m9_reads_24, if_neg (by decide), if_neg (by decide), if_neg (by decide), if_pos (by decide), m9_reads_55, m9_reads_60, if_neg (by decide)]
      exact p_reads108 hfl hL h151 h155 hT hn h154 h153 rfl ha'
    · rw [q, m9_reads_24, if_neg (by decide), if_neg (by decide), if_neg (by decide), if_neg (by decide), if_pos (by decide), m9_reads_55, m9_reads_60, if_neg (by decide)]
      exact p_reads103 hfl hL h151 h155 hT hn h154 h153 rfl ha'
end RW'
