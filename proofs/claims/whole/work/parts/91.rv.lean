section RV
variable {c : Nat → Nat} {t : Nat} {tx : Nat → Nat} {fl : Nat} {len : Nat → Nat} {X : Xm} {L M0 L1 : Im} {b a l k m n : Nat} {ns : Nat → Nat}
theorem q_part (hfl : 10000 ≤ fl) (hl : len (b + 149) = 80) (hl2 : len (b + 150) = 3) (h48 : gR X 48 (b + 148) = some (b + 149)) (h52 : gR X 52 (b + 148) = some (b + 150)) (hT : TC b M0 t tx) (h : Pc8 b M0 L a l k ns) (s : Nat) (hs : s < 1000) (hk : (s = 68 ∨ s = 78) → k ≤ 2) (ha : a ≤ t) :
    ∃ L1, m3_readPart fl len X L (b + 148) (nI s) = some (if (prt (chT t tx) s a k ns).1 = true then 1 else 0, L1) ∧ Pc8 b M0 L1 (prt (chT t tx) s a k ns).2.1 l (prt (chT t tx) s a k ns).2.2.1 (prt (chT t tx) s a k ns).2.2.2 := by
  have ht := hT.1.1
  have hTL := hT.fr h.2.2
  unfold prt
  by_cases s1 : s = 68
  · obtain ⟨L1, e, g1, g2⟩ := q_number (fl := fl) (len := len) hfl hl hl2 h48 h52 hT h (hk (Or.inl s1)) ha 0 (by omega)
    rw [if_pos s1]
    by_cases hd : isD (chT t tx a)
    · rw [if_pos hd] at e
      rw [if_pos hd]
      refine ⟨L1, ?_, g1 hd⟩
      rw [m3_readPart, s1, if_pos (by decide), show (1 : Int32) = nI (0 + 1) from rfl, e, nn_s]
      rfl
    · rw [if_neg hd] at e
      rw [if_neg hd]
      rw [g2 hd] at e
      refine ⟨L, ?_, h⟩
      rw [m3_readPart, s1, if_pos (by decide), show (1 : Int32) = nI (0 + 1) from rfl, e, nn_s]
      rfl
  · rw [if_neg s1]
    by_cases s2 : s = 78
    · obtain ⟨L1, e, g1, g2⟩ := q_number (fl := fl) (len := len) hfl hl hl2 h48 h52 hT h (hk (Or.inr s2)) ha 2 (by omega)
      rw [if_pos s2]
      by_cases hd : isD (chT t tx a)
      · rw [if_pos hd] at e
        rw [if_pos hd]
        refine ⟨L1, ?_, g1 hd⟩
        rw [m3_readPart, s2, if_neg (by decide), if_pos (by decide), show (3 : Int32) = nI (2 + 1) from rfl, e, nn_s]
        rfl
      · rw [if_neg hd] at e
        rw [if_neg hd]
        rw [g2 hd] at e
        refine ⟨L, ?_, h⟩
        rw [m3_readPart, s2, if_neg (by decide), if_pos (by decide), show (3 : Int32) = nI (2 + 1) from rfl, e, nn_s]
        rfl
    · rw [if_neg s2]
      have h126 := ch_126 hTL a
      by_cases hc : chT t tx a = s
      · rw [if_pos hc]
        obtain ⟨⟨g1, g2, g3⟩, g4, g5⟩ := h
        refine ⟨pF L 50 (b + 148) (nI (a + 1)), ?_, ⟨gF_s, by rw [gF_f (by omega)]; exact g2, by rw [gF_f (by omega)]; exact g3⟩, fun j hj => by rw [gA_pF]; exact g4 j hj, fun f c hf => by rw [gF_pF, if_neg (by omega)]; exact g5.1 f c hf, fun c j hc => by rw [gA_pF]; exact g5.2 c j hc⟩
        rw [m3_readPart, if_neg (by rw [show (68 : Int32) = nI 68 from rfl, nI_eq (by omega) (by omega)]; exact s1), if_neg (by rw [show (78 : Int32) = nI 78 from rfl, nI_eq (by omega) (by omega)]; exact s2), g1, q_char hl h48 hTL (by omega), nn_s, hc, if_pos rfl, nI_k1, lt_e]
        rfl
      · rw [if_neg hc]
        refine ⟨L, ?_, h⟩
        rw [m3_readPart, if_neg (by rw [show (68 : Int32) = nI 68 from rfl, nI_eq (by omega) (by omega)]; exact s1), if_neg (by rw [show (78 : Int32) = nI 78 from rfl, nI_eq (by omega) (by omega)]; exact s2), h.1.1, q_char hl h48 hTL (by omega), nn_s, if_neg (by rw [nI_eq (by omega) (by omega)]; exact hc)]
        rfl
/-- how many numbers parts have -/
def cnP : List Nat → Nat
  | [] => 0
  | s :: ss => (if s = 68 ∨ s = 78 then 1 else 0) + cnP ss
theorem prt_k {s : Nat} : (prt c s a k ns).2.2.1 ≤ k + (if s = 68 ∨ s = 78 then 1 else 0) := by
  unfold prt
  repeat' split
  all_goals first | omega | exact Nat.le_refl _ | exact Nat.le_add_right _ _
theorem run_t {s : Nat} {ss : List Nat} (h : (prt c s a k ns).1 = true) : run c (s :: ss) a k ns = run c ss (prt c s a k ns).2.1 (prt c s a k ns).2.2.1 (prt c s a k ns).2.2.2 := by
  conv => lhs; unfold run
  rw [if_pos h]
theorem run_f {s : Nat} {ss : List Nat} (h : ¬ (prt c s a k ns).1 = true) : run c (s :: ss) a k ns = prt c s a k ns := by
  conv => lhs; unfold run
  rw [if_neg h]
theorem q_parts (hfl : 10000 ≤ fl) (hl : len (b + 149) = 80) (hl2 : len (b + 150) = 3) (h48 : gR X 48 (b + 148) = some (b + 149)) (h52 : gR X 52 (b + 148) = some (b + 150)) (hT : TC b M0 t tx) (sh : Nat) : ∀ (ss : List Nat) (i f : Nat) (L : Im) (a k : Nat) (ns : Nat → Nat), strN.getD sh 0 = i + ss.length → i + ss.length < 100 → (∀ e, e < ss.length → (strB.getD sh []).getD (i + e) 0 = nI (ss.getD e 0) ∧ ss.getD e 0 ≠ 0 ∧ ss.getD e 0 < 1000) → k + cnP ss ≤ 3 → ss.length < f → a ≤ t → Pc8 b M0 L a l k ns →
    ∃ L1, m3_readOrder_46 fl len X f L (b + 148) sh (nI i) = some (if (run (chT t tx) ss a k ns).1 = true then 1 else 0, L1) ∧ Pc8 b M0 L1 (run (chT t tx) ss a k ns).2.1 l (run (chT t tx) ss a k ns).2.2.1 (run (chT t tx) ss a k ns).2.2.2 := by
  intro ss
  induction ss with
  | nil =>
    intro i f L a k ns h1 h2 h3 h4 h5 ha h
    obtain ⟨f, rfl⟩ : ∃ f', f = f' + 1 := ⟨f - 1, by omega⟩
    have h1 : strN.getD sh 0 = i := h1
    refine ⟨L, ?_, h⟩
    show m3_readOrder_46b fl len X (m3_readOrder_46 fl len X f) _ _ _ _ = _
    rw [m3_readOrder_46b, h1, if_pos (Int32.le_refl _)]
    rfl
  | cons s ss ih =>
    intro i f L a k ns h1 h2 h3 h4 h5 ha h
    obtain ⟨f, rfl⟩ : ∃ f', f = f' + 1 := ⟨f - 1, by omega⟩
    rw [List.length_cons] at h1 h2 h5
    obtain ⟨b1, b2, b3⟩ := h3 0 (by rw [List.length_cons]; omega)
    have b1 : (strB.getD sh []).getD i 0 = nI s := b1
    have b2 : s ≠ 0 := b2
    have b3 : s < 1000 := b3
    have h4 : k + ((if s = 68 ∨ s = 78 then 1 else 0) + cnP ss) ≤ 3 := h4
    obtain ⟨L1, e, g⟩ := q_part (fl := fl) (len := len) hfl hl hl2 h48 h52 hT h s b3 (fun q => by rw [if_pos q] at h4; omega) ha
    have hpk := prt_k (c := chT t tx) (s := s) (a := a) (k := k) (ns := ns)
    have hpa := prt_le (tx := tx) (k := k) (ns := ns) b2 ha
    have start : m3_readOrder_46 fl len X (f + 1) L (b + 148) sh (nI i) = if (if (prt (chT t tx) s a k ns).1 = true then (1 : Int32) else 0) = 0 then some (0, L1) else m3_readOrder_46 fl len X f L1 (b + 148) sh (nI (i + 1)) := by
      show m3_readOrder_46b fl len X (m3_readOrder_46 fl len X f) _ _ _ _ = _
      rw [m3_readOrder_46b, h1, if_neg (by rw [nI_leI (by omega) (by omega)]; omega), ck_inb _ (by omega) (by omega), nI_clamp (by omega), b1, e, nn_s]
      simp only
      rw [nI_k1, lt_e]
    rw [start]
    by_cases hok : (prt (chT t tx) s a k ns).1 = true
    · obtain ⟨L2, e2, g2⟩ := ih (i + 1) f L1 _ _ _ (by omega) (by omega) (fun x hx => by
        obtain ⟨y1, y2, y3⟩ := h3 (x + 1) (by rw [List.length_cons]; omega)
        rw [show i + 1 + x = i + (x + 1) by omega]
        exact ⟨y1, y2, y3⟩) (by omega) (by omega) hpa g
      rw [if_pos hok, if_neg (by decide), run_t hok]
      exact ⟨L2, e2, g2⟩
    · rw [if_neg hok, if_pos rfl, run_f hok]
      refine ⟨L1, ?_, g⟩
      rw [if_neg hok]
/-- the class reads an order -/
theorem q_order (hfl : 10000 ≤ fl) (hl : len (b + 149) = 80) (hl2 : len (b + 150) = 3) (h48 : gR X 48 (b + 148) = some (b + 149)) (h52 : gR X 52 (b + 148) = some (b + 150)) (hT : TC b L t tx) (h50 : gF L 50 (b + 148) = nI a) (ha : a ≤ t + 1) :
    ∃ L1, m3_readOrder fl len X L (b + 148) = some (if (ordS (chT t tx) a).1 = true then 1 else 0, L1) ∧ gF L1 50 (b + 148) = nI (ordS (chT t tx) a).2.1 ∧ gF L1 51 (b + 148) = nI (chT t tx a) ∧ (∀ j, j < (ordS (chT t tx) a).2.2.1 → gA L1 (b + 150) j = nI ((ordS (chT t tx) a).2.2.2 j)) ∧ FrC b L L1 := by
  have ht := hT.1.1
  have h126 := ch_126 hT a
  have hch := q_char (fl := fl) hl h48 hT (i := a) (by omega)
  unfold ordS
  by_cases hp : prts (chT t tx a) = []
  · rw [if_pos hp]
    refine ⟨pF L 51 (b + 148) (nI (chT t tx a)), ?_, by rw [gF_f (by omega)]; exact h50, gF_s, fun j hj => absurd hj (Nat.not_lt_zero _), fun f c hf => by rw [gF_pF, if_neg (by omega)], fun c j hc => rfl⟩
    have hne : chT t tx a ≠ 114 ∧ chT t tx a ≠ 115 ∧ chT t tx a ≠ 100 ∧ chT t tx a ≠ 108 ∧ chT t tx a ≠ 103 := by
      unfold prts at hp
      refine ⟨fun q => ?_, fun q => ?_, fun q => ?_, fun q => ?_, fun q => ?_⟩ <;> (rw [q] at hp; exact absurd hp (by decide))
    have es : m3_shapeOf fl len X (pF L 51 (b + 148) (nI (chT t tx a))) (nI (chT t tx a)) = some (5 : Nat) := by
      rw [m3_shapeOf, show (114 : Int32) = nI 114 from rfl, show (115 : Int32) = nI 115 from rfl, show (100 : Int32) = nI 100 from rfl, show (108 : Int32) = nI 108 from rfl, show (103 : Int32) = nI 103 from rfl, if_neg (by rw [nI_eq (by omega) (by omega)]; exact hne.1), if_neg (by rw [nI_eq (by omega) (by omega)]; exact hne.2.1), if_neg (by rw [nI_eq (by omega) (by omega)]; exact hne.2.2.1), if_neg (by rw [nI_eq (by omega) (by omega)]; exact hne.2.2.2.1), if_neg (by rw [nI_eq (by omega) (by omega)]; exact hne.2.2.2.2), m3_shapeOf_49]
    rw [m3_readOrder, h50, hch, nn_s, ck_t _ (chr_16 (show chT t tx a < 65536 by omega)).2, lt_e, gF_s, es, nn_s, if_neg (by decide)]
    rfl
  · rw [if_neg hp]
    have ha' : a < t := ch_lt (tx := tx) (prts_n0 hp)
    obtain ⟨sh, hs1, hs2, hs3, hs4, hs5⟩ : ∃ sh, m3_shapeOf fl len X (pF L 51 (b + 148) (nI (chT t tx a))) (nI (chT t tx a)) = some sh ∧ strN.getD sh 0 = (prts (chT t tx a)).length ∧ (∀ e, e < (prts (chT t tx a)).length → (strB.getD sh []).getD e 0 = nI ((prts (chT t tx a)).getD e 0) ∧ (prts (chT t tx a)).getD e 0 ≠ 0 ∧ (prts (chT t tx a)).getD e 0 < 1000) ∧ cnP (prts (chT t tx a)) ≤ 3 ∧ (prts (chT t tx a)).length ≤ 5 ∧ strN.getD sh 0 ≠ 0 := by
      have hcase : chT t tx a = 114 ∨ chT t tx a = 115 ∨ chT t tx a = 100 ∨ chT t tx a = 108 ∨ chT t tx a = 103 := by
        by_cases q1 : chT t tx a = 114
        · exact Or.inl q1
        · by_cases q2 : chT t tx a = 115
          · exact Or.inr (Or.inl q2)
          · by_cases q3 : chT t tx a = 100
            · exact Or.inr (Or.inr (Or.inl q3))
            · by_cases q4 : chT t tx a = 108
              · exact Or.inr (Or.inr (Or.inr (Or.inl q4)))
              · by_cases q5 : chT t tx a = 103
                · exact Or.inr (Or.inr (Or.inr (Or.inr q5)))
                · exact absurd (by unfold prts; rw [if_neg q1, if_neg q2, if_neg q3, if_neg q4, if_neg q5]) hp
      rcases hcase with q | q | q | q | q
      · rw [q]
        refine ⟨0, by rw [m3_shapeOf, if_pos (by decide)], by decide, fun e he => ?_, by decide, by decide, by decide⟩
        have : e = 0 ∨ e = 1 ∨ e = 2 ∨ e = 3 ∨ e = 4 := by have : e < 5 := he; omega
        rcases this with rfl | rfl | rfl | rfl | rfl <;> decide
      · rw [q]
        refine ⟨1, by rw [m3_shapeOf, if_neg (by decide), if_pos (by decide)], by decide, fun e he => ?_, by decide, by decide, by decide⟩
        have : e = 0 ∨ e = 1 ∨ e = 2 ∨ e = 3 := by have : e < 4 := he; omega
        rcases this with rfl | rfl | rfl | rfl <;> decide
      · rw [q]
        refine ⟨2, by rw [m3_shapeOf, if_neg (by decide), if_neg (by decide), if_pos (by decide)], by decide, fun e he => ?_, by decide, by decide, by decide⟩
        have : e = 0 ∨ e = 1 ∨ e = 2 ∨ e = 3 ∨ e = 4 := by have : e < 5 := he; omega
        rcases this with rfl | rfl | rfl | rfl | rfl <;> decide
      · rw [q]
        refine ⟨3, by rw [m3_shapeOf, if_neg (by decide), if_neg (by decide), if_neg (by decide), if_pos (by decide)], by decide, fun e he => ?_, by decide, by decide, by decide⟩
        have : e = 0 ∨ e = 1 ∨ e = 2 ∨ e = 3 ∨ e = 4 := by have : e < 5 := he; omega
        rcases this with rfl | rfl | rfl | rfl | rfl <;> decide
      · rw [q]
        refine ⟨4, by rw [m3_shapeOf, if_neg (by decide), if_neg (by decide), if_neg (by decide), if_neg (by decide), if_pos (by decide)]; rfl, by decide, fun e he => ?_, by decide, by decide, by decide⟩
        have : e = 0 := by have : e < 1 := he; omega
        rw [this]; decide
    obtain ⟨M, eM⟩ : ∃ M, M = pF (pF (pF L 51 (b + 148) (nI (chT t tx a))) 50 (b + 148) (nI (a + 1))) 53 (b + 148) (nI 0) := ⟨_, rfl⟩
    have hM : Pc8 b L M (a + 1) (chT t tx a) 0 (fun _ => 0) := by
      rw [eM]
      exact ⟨⟨by rw [gF_f (by omega), gF_s], by rw [gF_f (by omega), gF_f (by omega), gF_s], gF_s⟩, fun j hj => absurd hj (Nat.not_lt_zero _), fun f c hf => by rw [gF_pF, if_neg (by omega), gF_pF, if_neg (by omega), gF_pF, if_neg (by omega)], fun c j hc => rfl⟩
    obtain ⟨L1, e, g⟩ := q_parts (fl := fl) (len := len) hfl hl hl2 h48 h52 hT sh (prts (chT t tx a)) 0 fl M (a + 1) 0 (fun _ => 0) (by rw [hs2, Nat.zero_add]) (by omega) (fun e he => by rw [Nat.zero_add]; exact hs3 e he) (by omega) (by omega) (by omega) hM
    refine ⟨L1, ?_, g.1.1, g.1.2.1, g.2.1, g.2.2⟩
    rw [← e, m3_readOrder, h50, hch, nn_s, ck_t _ (chr_16 (show chT t tx a < 65536 by omega)).2, lt_e, gF_s, hs1, nn_s, if_neg hs5.2, if_pos rfl, gF_f (by omega), h50, nI_k1, lt_e, L0, lt_e, ← eM]
/-! the reference -/
def FrM (b : Nat) (M0 L : Im) : Prop := (∀ f a, (f ≠ 153 ∧ f ≠ 154) ∨ a ≠ b + 799 → gF L f a = gF M0 f a) ∧ ∀ a j, a ≠ b + 806 → gA L a j = gA M0 a j
def Pm9 (b : Nat) (M0 L : Im) (a m n l k : Nat) (ns : Nat → Nat) : Prop := (gF L 153 (b + 799) = nI a ∧ gF L 154 (b + 799) = nI m) ∧ (gA L (b + 806) (4 * n) = nI l ∧ ∀ j, j < k → gA L (b + 806) (4 * n + 1 + j) = nI (ns j)) ∧ (∀ j, j < 4 * n → gA L (b + 806) j = gA M0 (b + 806) j) ∧ FrM b M0 L
def TM (b : Nat) (L : Im) (t : Nat) (tx : Nat → Nat) : Prop := (t ≤ 80 ∧ gF L 152 (b + 799) = nI t) ∧ ∀ j, j < t → (33 ≤ tx j ∧ tx j ≤ 126) ∧ gA L (b + 805) j = nI (tx j)
theorem FrM.rfl : FrM b L L := ⟨fun _ _ _ => Eq.refl _, fun _ _ _ => Eq.refl _⟩
theorem FrM.trans {L2 : Im} (h : FrM b M0 L1) (h2 : FrM b L1 L2) : FrM b M0 L2 := ⟨fun f a ha => (h2.1 f a ha).trans (h.1 f a ha), fun a j ha => (h2.2 a j ha).trans (h.2 a j ha)⟩
theorem TM.fr (h : TM b M0 t tx) (hf : FrM b M0 L) : TM b L t tx := ⟨⟨h.1.1, by rw [hf.1 _ _ (by omega)]; exact h.1.2⟩, fun j hj => ⟨(h.2 j hj).1, by rw [hf.2 _ _ (by omega)]; exact (h.2 j hj).2⟩⟩
theorem chm_126 (h : TM b L t tx) (i : Nat) : chT t tx i ≤ 126 := by
  unfold chT
  split
  · rename_i hi; exact (h.2 i hi).1.2
  · omega
theorem p_isAt (hl : len (b + 805) = 80) (h151 : gR X 151 (b + 799) = some (b + 805)) (h : TM b L t tx) (h153 : gF L 153 (b + 799) = nI a) (ha : a ≤ 1000) {lo hi : Nat} (h1 : 1 ≤ lo) (h2 : lo < 10000) (h3 : hi < 10000) : m9_isAt fl len X L (b + 799) (nI lo) (nI hi) = some (if lo ≤ chT t tx a ∧ chT t tx a ≤ hi then 1 else 0) := by
  have h126 := chm_126 h a
  have ht := h.1.1
  rw [m9_isAt, h.1.2, h153]
  by_cases e : a < t
  · have ec : chT t tx a = tx a := by unfold chT; rw [if_pos e]
    rw [if_neg (by rw [nI_leI (by omega) (by omega)]; omega), h151, nn_s, hl, ck_inb _ (by omega) (by omega), nI_clamp (by omega), (h.2 a e).2, ← ec]
    by_cases q : lo ≤ chT t tx a ∧ chT t tx a ≤ hi
    · rw [p_inl1 q.2 q.1 (by omega), nn_s, if_neg (by decide), if_pos q, m9_isAt_33, ck_isbl1]
    · rw [p_in0 (fun z => q (by rw [nI_leI (by omega) (by omega), nI_leI (by omega) (by omega)] at z; exact z)), nn_s, if_pos (by decide), if_neg q, m9_isAt_32, m9_isAt_33, ck_isbl0]
  · have ec : chT t tx a = 0 := by unfold chT; rw [if_neg e]
    rw [if_pos (by rw [nI_leI (by omega) (by omega)]; omega), if_neg (by omega), m9_isAt_32, m9_isAt_33, ck_isbl0]
theorem Pm9.at (h : Pm9 b M0 L a m n l k ns) (a' : Nat) : Pm9 b M0 (pF L 153 (b + 799) (nI a')) a' m n l k ns := by
  obtain ⟨⟨g1, g2⟩, g3, g4, g5⟩ := h
  exact ⟨⟨gF_s, by rw [gF_f (by omega)]; exact g2⟩, g3, g4, fun f c hf => by rw [gF_pF, if_neg (by omega)]; exact g5.1 f c hf, fun c j hc => g5.2 c j hc⟩
theorem p_sign (hl : len (b + 805) = 80) (h151 : gR X 151 (b + 799) = some (b + 805)) (h : TM b L t tx) (h153 : gF L 153 (b + 799) = nI a) (ha : a ≤ 1000) {s : Nat} (h1 : 1 ≤ s) (h2 : s < 10000) : m9_sign fl len X L (b + 799) (nI s) = if chT t tx a = s then some (1, pF L 153 (b + 799) (nI (a + 1))) else some (0, pF L 153 (b + 799) (nI a)) := by
  rw [m9_sign, p_isAt hl h151 h h153 ha h1 h2 h2, nn_s]
  by_cases q : chT t tx a = s
  · rw [if_pos (show s ≤ chT t tx a ∧ chT t tx a ≤ s by omega), if_neg (by decide), if_pos q, m9_sign_21, h153, nI_k1, lt_e, ck_isbl1]
  · rw [if_neg (show ¬ (s ≤ chT t tx a ∧ chT t tx a ≤ s) by omega), if_pos rfl, if_neg q, m9_sign_21, h153, show (0 : Int32) = nI 0 from rfl, nI_add, lt_e, show nI 0 = (0 : Int32) from rfl, ck_isbl0]
    rfl
/-- the reference lays a number down -/
theorem Pm9.lay (h : Pm9 b M0 L a m n l k ns) (v : Nat) : Pm9 b M0 (pA L (b + 806) (4 * n + 1 + k) (nI v)) a m n l (k + 1) (upN ns k v) := by
  obtain ⟨⟨g1, g2⟩, ⟨g3, g3'⟩, g4, g5⟩ := h
  refine ⟨⟨g1, g2⟩, ⟨by rw [gA_j (by omega)]; exact g3, fun j hj => ?_⟩, fun j hj => by rw [gA_j (by omega)]; exact g4 j hj, fun f c hf => g5.1 f c hf, fun c j hc => by rw [gA_a hc]; exact g5.2 c j hc⟩
  by_cases e : j = k
  · rw [e, gA_s, upN_eq]
  · rw [gA_j (by omega), upN_ne e]; exact g3' j (by omega)
theorem Pm9.lay2 {v0 : Nat} (h : Pm9 b M0 L a m n l (k + 1) (upN ns k v0)) (v : Nat) : Pm9 b M0 (pA L (b + 806) (4 * n + 1 + k) (nI v)) a m n l (k + 1) (upN ns k v) := by
  obtain ⟨⟨g1, g2⟩, ⟨g3, g3'⟩, g4, g5⟩ := h
  refine ⟨⟨g1, g2⟩, ⟨by rw [gA_j (by omega)]; exact g3, fun j hj => ?_⟩, fun j hj => by rw [gA_j (by omega)]; exact g4 j hj, fun f c hf => g5.1 f c hf, fun c j hc => by rw [gA_a hc]; exact g5.2 c j hc⟩
  by_cases e : j = k
  · rw [e, gA_s, upN_eq]
  · have := g3' j hj
    rw [upN_ne e] at this
    rw [gA_j (by omega), upN_ne e]; exact this
theorem p_digit (hL : LG len b) (h151 : gR X 151 (b + 799) = some (b + 805)) (h155 : gR X 155 (b + 799) = some (b + 806)) (hT : TM b M0 t tx) (h : Pm9 b M0 L a n n l k ns) (ha : a ≤ t) (hn : n ≤ 28) (hk : k ≤ 2) : (isD (chT t tx a) → ∃ L1, m9_digit fl len X L (b + 799) (nI (k + 1)) = some (1, L1) ∧ Pm9 b M0 L1 (a + 1) n n l (k + 1) (upN ns k (chT t tx a - 48))) ∧ (¬ isD (chT t tx a) → m9_digit fl len X L (b + 799) (nI (k + 1)) = some (0, L)) := by
  have hTL := hT.fr h.2.2.2
  have ht := hT.1.1
  have e := p_isAt (fl := fl) hL.2.1.2.2.2.2.2.1 h151 hTL h.1.1 (by omega) (lo := 48) (hi := 57) (by omega) (by omega) (by omega)
  refine ⟨fun hd => ?_, fun hd => ?_⟩
  · have hat : a < t := ch_lt (tx := tx) (by omega)
    have ec : chT t tx a = tx a := by unfold chT; rw [if_pos hat]
    rw [if_pos hd] at e
    refine ⟨_, ?_, (h.lay (chT t tx a - 48)).at (a + 1)⟩
    rw [m9_digit, show (48 : Int32) = nI 48 from rfl, show (57 : Int32) = nI 57 from rfl, e, nn_s, if_neg (by decide), h155, nn_s, h151, nn_s, hL.2.1.2.2.2.2.2.1, h.1.1, ck_inb _ (by omega) (by omega), show (4 : Int32) = nI 4 from rfl, h.1.2, nI_mul, nI_add, hL.2.1.2.2.2.2.2.2, ck_inb _ (by omega) (by omega), nI_clamp (by omega), nI_clamp (by omega), (hTL.2 a hat).2, ← ec, nI_sub (by omega), lt_e, gF_pA, h.1.1, nI_k1, lt_e, show 4 * n + (k + 1) = 4 * n + 1 + k by omega]
  · rw [if_neg hd] at e
    rw [m9_digit, show (48 : Int32) = nI 48 from rfl, show (57 : Int32) = nI 57 from rfl, e, nn_s, if_pos rfl]
theorem p_numL (hL : LG len b) (h151 : gR X 151 (b + 799) = some (b + 805)) (h155 : gR X 155 (b + 799) = some (b + 806)) (hT : TM b M0 t tx) (hn : n ≤ 28) (hk : k ≤ 2) : ∀ (j v a f : Nat) (L : Im), (j = 2 ∧ v ≤ 9 ∨ j = 1 ∧ 10 ≤ v ∧ v ≤ 99 ∨ j = 0 ∧ 100 ≤ v ∧ v ≤ 999) → j < f → a ≤ t → Pm9 b M0 L a n n l (k + 1) (upN ns k v) → ∃ L1, m9_number_19 fl len X f L (b + 799) (nI (4 * n + 1 + k)) = some (1, L1) ∧ Pm9 b M0 L1 (rn (chT t tx) j a v).1 n n l (k + 1) (upN ns k (rn (chT t tx) j a v).2) := by
  intro j
  induction j with
  | zero =>
    intro v a f L hj hf ha h
    obtain ⟨f, rfl⟩ : ∃ f', f = f' + 1 := ⟨f - 1, by omega⟩
    have hTL := hT.fr h.2.2.2
    have ht := hT.1.1
    have ev : gA L (b + 806) (4 * n + 1 + k) = nI v := by rw [h.2.1.2 k (by omega), upN_eq]
    have e := p_isAt (fl := fl) hL.2.1.2.2.2.2.2.1 h151 hTL h.1.1 (by omega) (lo := 48) (hi := 57) (by omega) (by omega) (by omega)
    refine ⟨L, ?_, h⟩
    show m9_number_19b fl len X (m9_number_19 fl len X f) _ _ _ = _
    rw [m9_number_19b, h155, nn_s, hL.2.1.2.2.2.2.2.2, ck_inb _ (by omega) (by omega), nI_clamp (by omega), ev, if_neg (by rw [L0, nI_leI (by omega) (by omega)]; omega), show (48 : Int32) = nI 48 from rfl, show (57 : Int32) = nI 57 from rfl, e, nn_s]
    by_cases hd : 48 ≤ chT t tx a ∧ chT t tx a ≤ 57
    · have hat : a < t := ch_lt (tx := tx) (by omega)
      have ec : chT t tx a = tx a := by unfold chT; rw [if_pos hat]
      rw [if_pos hd, if_neg (by decide), h151, nn_s, hL.2.1.2.2.2.2.2.1, h.1.1, ck_inb _ (by omega) (by omega), nI_clamp (by omega), (hTL.2 a hat).2, ← ec, L10, nI_mul, nI_add, nI_sub (by omega), show (1000 : Int32) = nI 1000 from rfl, if_pos (by rw [nI_leI (by omega) (by omega)]; omega)]
      rfl
    · rw [if_neg hd, if_pos rfl]
      rfl
  | succ j ih =>
    intro v a f L hj hf ha h
    obtain ⟨f, rfl⟩ : ∃ f', f = f' + 1 := ⟨f - 1, by omega⟩
    have hTL := hT.fr h.2.2.2
    have ht := hT.1.1
    have ev : gA L (b + 806) (4 * n + 1 + k) = nI v := by rw [h.2.1.2 k (by omega), upN_eq]
    have e := p_isAt (fl := fl) hL.2.1.2.2.2.2.2.1 h151 hTL h.1.1 (by omega) (lo := 48) (hi := 57) (by omega) (by omega) (by omega)
    by_cases h0 : v ≠ 0 ∧ isD (chT t tx a)
    · have hd : 48 ≤ chT t tx a ∧ chT t tx a ≤ 57 := h0.2
      have hat : a < t := ch_lt (tx := tx) (by omega)
      have ec : chT t tx a = tx a := by unfold chT; rw [if_pos hat]
      have er : rn (chT t tx) (j + 1) a v = rn (chT t tx) j (a + 1) (10 * v + (chT t tx a - 48)) := by
        conv => lhs; unfold rn
        rw [if_pos h0]
      obtain ⟨L1, e1, g1⟩ := ih (10 * v + (chT t tx a - 48)) (a + 1) f _ (by omega) (by omega) hat ((h.lay2 (10 * v + (chT t tx a - 48))).at (a + 1))
      rw [er]
      refine ⟨L1, ?_, g1⟩
      rw [← e1]
      show m9_number_19b fl len X (m9_number_19 fl len X f) _ _ _ = _
      rw [m9_number_19b, h155, nn_s, hL.2.1.2.2.2.2.2.2, ck_inb _ (by omega) (by omega), nI_clamp (by omega), ev, if_neg (by rw [L0, nI_leI (by omega) (by omega)]; omega), show (48 : Int32) = nI 48 from rfl, show (57 : Int32) = nI 57 from rfl, e, nn_s, if_pos hd, if_neg (by decide), h151, nn_s, hL.2.1.2.2.2.2.2.1, h.1.1, ck_inb _ (by omega) (by omega), nI_clamp (by omega), (hTL.2 a hat).2, ← ec, L10, nI_mul, nI_add, nI_sub (by omega), show (1000 : Int32) = nI 1000 from rfl, if_neg (by rw [nI_leI (by omega) (by omega)]; omega), lt_e, gF_pA, h.1.1, nI_k1, lt_e, show 10 * v + chT t tx a - 48 = 10 * v + (chT t tx a - 48) by omega]
    · have er : rn (chT t tx) (j + 1) a v = (a, v) := by
        unfold rn
        rw [if_neg h0]
      rw [er]
      refine ⟨L, ?_, h⟩
      show m9_number_19b fl len X (m9_number_19 fl len X f) _ _ _ = _
      rw [m9_number_19b, h155, nn_s, hL.2.1.2.2.2.2.2.2, ck_inb _ (by omega) (by omega), nI_clamp (by omega), ev]
      by_cases hv0 : v = 0
      · rw [if_pos (by rw [hv0]; decide)]
        rfl
      · rw [if_neg (by rw [L0, nI_leI (by omega) (by omega)]; omega), show (48 : Int32) = nI 48 from rfl, show (57 : Int32) = nI 57 from rfl, e, nn_s, if_neg (fun q => h0 ⟨hv0, q⟩), if_pos rfl]
        rfl
theorem p_number (hfl : 10000 ≤ fl) (hL : LG len b) (h151 : gR X 151 (b + 799) = some (b + 805)) (h155 : gR X 155 (b + 799) = some (b + 806)) (hT : TM b M0 t tx) (h : Pm9 b M0 L a n n l k ns) (ha : a ≤ t) (hn : n ≤ 28) (hk : k ≤ 2) : (isD (chT t tx a) → ∃ L1, m9_number fl len X L (b + 799) (nI (k + 1)) = some (1, L1) ∧ Pm9 b M0 L1 (rn (chT t tx) 2 (a + 1) (chT t tx a - 48)).1 n n l (k + 1) (upN ns k (rn (chT t tx) 2 (a + 1) (chT t tx a - 48)).2)) ∧ (¬ isD (chT t tx a) → m9_number fl len X L (b + 799) (nI (k + 1)) = some (0, L)) := by
  obtain ⟨d1, d0⟩ := p_digit (fl := fl) (len := len) (X := X) hL h151 h155 hT h ha hn hk
  refine ⟨fun hd => ?_, fun hd => ?_⟩
  · obtain ⟨L1, e, g⟩ := d1 hd
    have hat : a < t := ch_lt (tx := tx) (by omega)
    obtain ⟨L2, e2, g2⟩ := p_numL (fl := fl) (len := len) (X := X) hL h151 h155 hT hn hk 2 (chT t tx a - 48) (a + 1) fl L1 (by omega) (by omega) hat g
    refine ⟨L2, ?_, g2⟩
    rw [← e2, m9_number, e, nn_s]
    simp only
    rw [if_neg (by decide), show (4 : Int32) = nI 4 from rfl, g.1.2, nI_mul, nI_add, lt_e, show 4 * n + (k + 1) = 4 * n + 1 + k by omega]
  · rw [m9_number, d0 hd, nn_s]
    rfl
end RV
