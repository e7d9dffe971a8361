/-! ===== carryOut ===== -/
/-- an order on both sides -/
def OkY (fl : Nat) (len : Nat → Nat) (X : Xm) (I : Im) (b p : Nat) (S : Nat → Nat) (K : Nat) (e8 : Option (Int32 × Im × Xm)) (e9 : Xm → Im → Option (Int32 × Im)) : Prop :=
  (∃ v S' K' w' I2 X2, v < 2 ^ 31 ∧ e8 = some (nI v, I2, X2) ∧ Fr p I I2 ∧ Cs I2 p S' K' w' ∧ Iv S' K' ∧ XC X2 p w' ∧ (∀ f a, gR X2 f a = gR X f a) ∧ (∀ a j, a ≠ p + 3 → gQ X2 a j = gQ X a j) ∧ ∀ X9 I9, gR X9 144 (b + 799) = some (b + 799 + 1) → gF I9 150 (b + 799) = nI 1 → (∀ j, gA I9 (b + 799 + 1) j = nI (S j)) → e9 X9 I9 = some (nI v, mS I9 (b + 799 + 1) S')) ∨
  (∃ v : Int32, v < 0 ∧ e8 = some (v, I, X) ∧ ∀ X9 I9, gR X9 144 (b + 799) = some (b + 799 + 1) → gF I9 150 (b + 799) = nI 1 → (∀ j, gA I9 (b + 799 + 1) j = nI (S j)) → e9 X9 I9 = some (v, I9))
/-- while orders are carried out the text's reader and the play change alone -/
def FrL (b p : Nat) (I I1 : Im) : Prop := ∀ a, (a < p ∨ p + 72 ≤ a) → a ≠ b + 148 → a ≠ b + 150 → (∀ f, gF I1 f a = gF I f a) ∧ ∀ j, gA I1 a j = gA I a j
section RY
variable {c : Nat → Nat} {t : Nat} {tx : Nat → Nat} {fl : Nat} {len : Nat → Nat} {X X2 : Xm} {L I I1 I2 : Im} {b p q a k m n K : Nat} {S w : Nat → Nat}
theorem flt_le : ∀ (j a r : Nat), a ≤ t → t < a + j → flt (chT t tx) t j a = some r → r ≤ t
  | 0, a, r, h1, h2, _ => by omega
  | j + 1, a, r, h1, h2, h => by
    have hle := ord_le (tx := tx) h1
    have hge := ord_ge (c := chT t tx) (a := a)
    unfold flt at h
    by_cases hok : (ordS (chT t tx) a).1 = true
    · rw [if_pos hok] at h
      have hge := hge hok
      by_cases h9 : (ordS (chT t tx) a).2.1 = t
      · rw [if_pos h9] at h; cases h
      · rw [if_neg h9] at h
        by_cases hc : chT t tx (ordS (chT t tx) a).2.1 = 59
        · rw [if_pos hc] at h
          exact flt_le j _ r (by omega) (by omega) h
        · rw [if_neg hc] at h
          cases h
          exact hle
    · rw [if_neg hok] at h
      cases h
      exact hle
theorem mS_mS (I : Im) (a : Nat) (S S' : Nat → Nat) : mS (mS I a S) a S' = mS I a S' := by
  unfold mS pAr
  refine congrArg (fun z => (I.1, z)) ?_
  funext i j
  by_cases h : i = a
  · simp only [if_pos h]
  · simp only [if_neg h]
theorem nneg_lt {v : Int32} (h : ¬ (0 : Int32) ≤ v) : v < 0 := Int32.not_le.mp h
theorem p_noch (h150 : gF I 150 (b + 799) = nI 1) : m9_changes fl len X I (b + 799) = some I := by
  rw [m9_changes, h150, if_neg (by decide)]
theorem OkX.y {e8 : Option (Int32 × Im × Xm)} {e9 : Xm → Im → Option (Int32 × Im)} (h : OkX fl len X I p (b + 799) S e8 e9) : OkY fl len X I b p S K e8 e9 := by
  rcases h with ⟨v, S', K', w', I2, X2, a1, a2, a3, a4, a5, a6, a7, a8, a9⟩ | ⟨v, a1, a2, a3⟩
  · exact Or.inl ⟨v, S', K', w', I2, X2, a1, a2, a3, a4, a5, a6, a7, a8, fun X9 I9 y1 y2 y3 => a9 X9 I9 I9 y1 (by rw [mS_self y3]; exact p_noch y2) y3⟩
  · exact Or.inr ⟨v, nneg_lt a1, a2, fun X9 I9 y1 _ y3 => a3 X9 I9 y1 y3⟩
theorem OkY.cg {e8 e8' : Option (Int32 × Im × Xm)} {e9 e9' : Xm → Im → Option (Int32 × Im)} (h : OkY fl len X I b p S K e8 e9) (h8 : e8' = e8) (h9 : ∀ X9 I9, e9' X9 I9 = e9 X9 I9) : OkY fl len X I b p S K e8' e9' := by
  have : e9' = e9 := by funext x y; exact h9 x y
  rw [h8, this]; exact h
theorem y_sound (hfl : 10000 ≤ fl) (hX : XS X p) (hN : LN len p) (hC : XC X p w) (hv : Iv S K) (hc : Cs I p S K w) (hl : len (b + 799 + 1) = 1620) (a1 a2 a3 : Int32) :
    OkY fl len X I b p S K (nn (m4_addSound fl len X I p a1 a2 a3) fun z => some (z.1, z.2, X)) (fun X9 I9 => m9_sound fl len X9 I9 (b + 799) a1 a2 a3) := by
  rcases o_sound (fl := fl) (len := len) (X := X) (I := I) (q := b + 799) hfl hX hN hv hc hl a1 a2 a3 with ⟨v, S', I2, hv2, r8, f2, c2, iv2, r9⟩ | ⟨v, hneg, r8, r9⟩
  · exact Or.inl ⟨v, S', K, w, I2, X, hv2, by rw [r8, nn_s], f2, c2, iv2, hC, fun _ _ => rfl, fun _ _ _ => rfl, fun X9 I9 y1 y2 y3 => r9 X9 I9 I9 y1 (by rw [mS_self y3]; exact p_noch y2) y3⟩
  · exact Or.inr ⟨v, nneg_lt hneg, by rw [r8, nn_s], fun X9 I9 y1 _ y3 => r9 X9 I9 y1 y3⟩
theorem y_pass (hfl : 10000 ≤ fl) (hX : XS X p) (hN : LN len p) (hC : XC X p w) (hv : Iv S K) (hc : Cs I p S K w) (hl : len (b + 799 + 1) = 1620) (a1 : Int32) :
    OkY fl len X I b p S K (nn (m4_runSeconds fl len X I p a1) fun z => some (z.1, z.2, X)) (fun X9 I9 => m9_pass fl len X9 I9 (b + 799) a1) := by
  rcases o_pass (fl := fl) (len := len) (X := X) (I := I) (q := b + 799) hfl hX hN hC hv hc hl a1 with ⟨v, S', K', I2, hv2, r8, f2, c2, iv2, r9⟩ | ⟨v, hneg, r8, r9⟩
  · exact Or.inl ⟨v, S', K', w, I2, X, hv2, by rw [r8, nn_s], f2, c2, iv2, hC, fun _ _ => rfl, fun _ _ _ => rfl, fun X9 I9 y1 y2 y3 => r9 X9 I9 I9 y1 (by rw [mS_self y3]; exact p_noch y2) y3⟩
  · exact Or.inr ⟨v, nneg_lt hneg, by rw [r8, nn_s], fun X9 I9 y1 _ y3 => r9 X9 I9 y1 y3⟩
theorem nn_id {α β γ : Type} (o : Option (α × β × γ)) : (nn o fun z => some (z.1, z.2.1, z.2.2)) = o := by
  cases o with
  | none => rfl
  | some z => rfl
theorem nn_id2 {α β : Type} (o : Option (α × β)) : (nn o fun z => some (z.1, z.2)) = o := by
  cases o with
  | none => rfl
  | some z => rfl
/-- an order that was read is carried out on both sides -/
theorem y_order (hfl : 10000 ≤ fl) (hL : LG len b) (hX : XS X p) (hN : LN len p) (hC : XC X p w) (hv : Iv S K) (hc : Cs I p S K w) (h128 : gR X 128 b = some p) (h134 : gR X 134 b = some (b + 148)) (h52 : gR X 52 (b + 148) = some (b + 150)) {i : Nat} (hi : i ≤ 27) (hok : (ordS c (oat c i)).1 = true) (h126 : c (oat c i) ≤ 126) (h51 : gF I 51 (b + 148) = nI (c (oat c i))) (hns : ∀ j, j < (ordS c (oat c i)).2.2.1 → gA I (b + 150) j = nI ((ordS c (oat c i)).2.2.2 j)) :
    ∃ e9, OkY fl len X I b p S K (m8_answerOfOrder fl len X I b) e9 ∧ ∀ X9 I9, gR X9 155 (b + 799) = some (b + 806) → St9 b c I9 i → m9_does fl len X9 I9 (b + 799) (nI (4 * i)) = e9 X9 I9 := by
  have hl : len (b + 799 + 1) = 1620 := hL.2.1.1
  have hl3 := hL.1.2.2.2.2
  have hl120 := hL.2.1.2.2.2.2.2.2
  obtain ⟨hk, hp⟩ := ord_keq hok
  have n3 : ∀ l, (l = 114 ∨ l = 115 ∨ l = 100 ∨ l = 108) → cnP (prts l) = 3 := by
    intro l h
    rcases h with rfl | rfl | rfl | rfl <;> decide
  have z0 : (0 : Int32) = nI 0 := rfl
  have z1 : (1 : Int32) = nI 1 := rfl
  have z2 : (2 : Int32) = nI 2 := rfl
  have z3 : (3 : Int32) = nI 3 := rfl
  have k3 : ∀ {α : Type} (x : Option α), (ck (inb (0 : Int32) (len (b + 150)) = true) <| ck (inb (1 : Int32) (len (b + 150)) = true) <| ck (inb (2 : Int32) (len (b + 150)) = true) <| x) = x := fun x => by
    rw [hl3, z0, ck_inb _ (by omega) (by omega), z1, ck_inb _ (by omega) (by omega), z2, ck_inb _ (by omega) (by omega)]
  have g3 : ∀ {α : Type} (x : Option α), (ck (inb (nI (4 * i) + (1 : Int32)) (len (b + 806)) = true) <| ck (inb (nI (4 * i) + (2 : Int32)) (len (b + 806)) = true) <| ck (inb (nI (4 * i) + (3 : Int32)) (len (b + 806)) = true) <| x) = x := fun x => by
    rw [nI_k1, nI_k2, nI_k3, hl120, ck_inb _ (by omega) (by omega), ck_inb _ (by omega) (by omega), ck_inb _ (by omega) (by omega)]
  have cl : ∀ k : Nat, k < 100 → (nI k).toNatClampNeg = k := fun k hk => nI_clamp (by omega)
  have c0 : (0 : Int32).toNatClampNeg = 0 := rfl
  have c1 : (1 : Int32).toNatClampNeg = 1 := cl 1 (by omega)
  have c2 : (2 : Int32).toNatClampNeg = 2 := cl 2 (by omega)
  have d1 : (nI (4 * i) + (1 : Int32)).toNatClampNeg = 4 * i + 1 := by rw [nI_k1, nI_clamp (by omega)]
  have d2 : (nI (4 * i) + (2 : Int32)).toNatClampNeg = 4 * i + 1 + 1 := by rw [nI_k2, nI_clamp (by omega)]
  have d3 : (nI (4 * i) + (3 : Int32)).toNatClampNeg = 4 * i + 1 + 2 := by rw [nI_k3, nI_clamp (by omega)]
  have st3 : cnP (prts (c (oat c i))) = 3 → ∀ I9, St9 b c I9 i → gA I9 (b + 806) (4 * i + 1) = nI ((ordS c (oat c i)).2.2.2 0) ∧ gA I9 (b + 806) (4 * i + 1 + 1) = nI ((ordS c (oat c i)).2.2.2 1) ∧ gA I9 (b + 806) (4 * i + 1 + 2) = nI ((ordS c (oat c i)).2.2.2 2) := fun h3 I9 h => ⟨h.2 0 (by omega), h.2 1 (by omega), h.2 2 (by omega)⟩
  have cmp : ∀ x : Nat, x < 1000 → (nI (c (oat c i)) = nI x ↔ c (oat c i) = x) := fun x hx => nI_eq (by omega) (by omega)
  have y100 : (100 : Int32) = nI 100 := rfl
  have y108 : (108 : Int32) = nI 108 := rfl
  have y114 : (114 : Int32) = nI 114 := rfl
  have y115 : (115 : Int32) = nI 115 := rfl
  rcases prts_ne hp with q | q | q | q | q
  · have e3 := n3 _ (Or.inl q)
    refine ⟨_, (y_sound hfl hX hN hC hv hc hl (nI ((ordS c (oat c i)).2.2.2 0)) (nI ((ordS c (oat c i)).2.2.2 1)) (nI ((ordS c (oat c i)).2.2.2 2))).cg ?_ (fun _ _ => rfl), fun X9 I9 h155 h => ?_⟩
    · rw [m8_answerOfOrder, h134, nn_s, h52, nn_s, h51, if_pos (by rw [y114, cmp _ (by omega)]; exact q), h128, nn_s, k3, c0, c1, c2, hns 0 (by omega), hns 1 (by omega), hns 2 (by omega)]
    · obtain ⟨s0, s1, s2⟩ := st3 e3 I9 h
      rw [m9_does, h155, nn_s, hl120, ck_inb _ (by omega) (by omega), ← hl120, nI_clamp (by omega), h.1, if_neg (by rw [y100, cmp _ (by omega)]; omega), if_neg (by rw [y108, cmp _ (by omega)]; omega), if_pos (by rw [y114, cmp _ (by omega)]; exact q), g3, d1, d2, d3, s0, s1, s2]
      exact nn_id2 _
  · have e3 := n3 _ (Or.inr (Or.inl q))
    refine ⟨_, ((o_cue (q := b + 799) hfl hX hN hC hv hc hl (nI ((ordS c (oat c i)).2.2.2 0)) (0 : Int32) (nI ((ordS c (oat c i)).2.2.2 1)) (nI ((ordS c (oat c i)).2.2.2 2))).y).cg ?_ (fun _ _ => rfl), fun X9 I9 h155 h => ?_⟩
    · rw [m8_answerOfOrder, h134, nn_s, h52, nn_s, h51, if_neg (by rw [y114, cmp _ (by omega)]; omega), if_pos (by rw [y115, cmp _ (by omega)]; exact q), h128, nn_s, k3, c0, c1, c2, hns 0 (by omega), hns 1 (by omega), hns 2 (by omega)]
      exact nn_id _
    · obtain ⟨s0, s1, s2⟩ := st3 e3 I9 h
      rw [m9_does, h155, nn_s, hl120, ck_inb _ (by omega) (by omega), ← hl120, nI_clamp (by omega), h.1, if_neg (by rw [y100, cmp _ (by omega)]; omega), if_neg (by rw [y108, cmp _ (by omega)]; omega), if_neg (by rw [y114, cmp _ (by omega)]; omega), if_pos (by rw [y115, cmp _ (by omega)]; exact q), g3, d1, d2, d3, s0, s1, s2]
      exact nn_id2 _
  · have e3 := n3 _ (Or.inr (Or.inr (Or.inl q)))
    refine ⟨_, ((o_cue (q := b + 799) hfl hX hN hC hv hc hl (nI ((ordS c (oat c i)).2.2.2 0)) (1 : Int32) (nI ((ordS c (oat c i)).2.2.2 1)) (nI ((ordS c (oat c i)).2.2.2 2))).y).cg ?_ (fun _ _ => rfl), fun X9 I9 h155 h => ?_⟩
    · rw [m8_answerOfOrder, h134, nn_s, h52, nn_s, h51, if_neg (by rw [y114, cmp _ (by omega)]; omega), if_neg (by rw [y115, cmp _ (by omega)]; omega), if_pos (by rw [y100, cmp _ (by omega)]; exact q), h128, nn_s, k3, c0, c1, c2, hns 0 (by omega), hns 1 (by omega), hns 2 (by omega)]
      exact nn_id _
    · obtain ⟨s0, s1, s2⟩ := st3 e3 I9 h
      rw [m9_does, h155, nn_s, hl120, ck_inb _ (by omega) (by omega), ← hl120, nI_clamp (by omega), h.1, if_pos (by rw [y100, cmp _ (by omega)]; exact q), g3, d1, d2, d3, s0, s1, s2]
      exact nn_id2 _
  · have e3 := n3 _ (Or.inr (Or.inr (Or.inr q)))
    refine ⟨_, ((o_cue (q := b + 799) hfl hX hN hC hv hc hl (nI ((ordS c (oat c i)).2.2.2 0)) (2 : Int32) (nI ((ordS c (oat c i)).2.2.2 1)) (nI ((ordS c (oat c i)).2.2.2 2))).y).cg ?_ (fun _ _ => rfl), fun X9 I9 h155 h => ?_⟩
    · rw [m8_answerOfOrder, h134, nn_s, h52, nn_s, h51, if_neg (by rw [y114, cmp _ (by omega)]; omega), if_neg (by rw [y115, cmp _ (by omega)]; omega), if_neg (by rw [y100, cmp _ (by omega)]; omega), if_pos (by rw [y108, cmp _ (by omega)]; exact q), h128, nn_s, k3, c0, c1, c2, hns 0 (by omega), hns 1 (by omega), hns 2 (by omega)]
      exact nn_id _
    · obtain ⟨s0, s1, s2⟩ := st3 e3 I9 h
      rw [m9_does, h155, nn_s, hl120, ck_inb _ (by omega) (by omega), ← hl120, nI_clamp (by omega), h.1, if_neg (by rw [y100, cmp _ (by omega)]; omega), if_pos (by rw [y108, cmp _ (by omega)]; exact q), g3, d1, d2, d3, s0, s1, s2]
      exact nn_id2 _
  · have e1 : cnP (prts (c (oat c i))) = 1 := by rw [q]; rfl
    refine ⟨_, (y_pass hfl hX hN hC hv hc hl (nI ((ordS c (oat c i)).2.2.2 0))).cg ?_ (fun _ _ => rfl), fun X9 I9 h155 h => ?_⟩
    · rw [m8_answerOfOrder, h134, nn_s, h52, nn_s, h51, if_neg (by rw [y114, cmp _ (by omega)]; omega), if_neg (by rw [y115, cmp _ (by omega)]; omega), if_neg (by rw [y100, cmp _ (by omega)]; omega), if_neg (by rw [y108, cmp _ (by omega)]; omega), h128, nn_s, hl3, z0, ck_inb _ (by omega) (by omega), ← z0, c0, hns 0 (by omega)]
    · have s0 : gA I9 (b + 806) (4 * i + 1) = nI ((ordS c (oat c i)).2.2.2 0) := h.2 0 (by omega)
      rw [m9_does, h155, nn_s, hl120, ck_inb _ (by omega) (by omega), nI_clamp (by omega), h.1, if_neg (by rw [y100, cmp _ (by omega)]; omega), if_neg (by rw [y108, cmp _ (by omega)]; omega), if_neg (by rw [y114, cmp _ (by omega)]; omega), if_neg (by rw [y115, cmp _ (by omega)]; omega), d1, s0, nI_k1, ck_inb _ (by omega) (by omega)]
      exact nn_id2 _
theorem FrC.cs {L1 : Im} (hf : FrC b L L1) (hp : p + 72 ≤ b + 145 ∨ b + 151 ≤ p) (hC : XC X p w) (hv : Iv S K) (hc : Cs L p S K w) : Cs L1 p S K w :=
  hc.same hC hv.m6.1 hv.m6.2 fun a h1 h2 => ⟨fun f => hf.1 f a (Or.inr (by omega)), fun j => hf.2 a j (by omega)⟩
/-- orders, one behind the other -/
theorem q_carry (hfl : 10000 ≤ fl) (hL : LG len b) (hm : OrdOk (chT t tx) t m) (hm27 : m ≤ 27) (hp : isP b p) : ∀ (j i f : Nat) (S : Nat → Nat) (K : Nat) (w : Nat → Nat) (L : Im) (Y : Xm), i + j = m → j < f → Iv S K → Cs L p S K w → XS Y p → XC Y p w → gR Y 128 b = some p → gR Y 134 b = some (b + 148) → gR Y 48 (b + 148) = some (b + 149) → gR Y 52 (b + 148) = some (b + 150) → TC b L t tx → gF L 50 (b + 148) = nI (oat (chT t tx) i) →
    ∃ d S' K' w' L2 Y2, d ≤ m ∧ m8_carryOut_29 fl len f L Y b (nI i) = m8_carryOut_71 fl len L2 Y2 b (nI d) ∧ FrL b p L L2 ∧ Cs L2 p S' K' w' ∧ Iv S' K' ∧ XC Y2 p w' ∧ (∀ f a, gR Y2 f a = gR Y f a) ∧ (∀ a j, a ≠ p + 3 → gQ Y2 a j = gQ Y a j) ∧
      ∀ X9 I9 f9, j < f9 → gR X9 144 (b + 799) = some (b + 799 + 1) → gR X9 155 (b + 799) = some (b + 806) → (∀ x, gA I9 (b + 799 + 1) x = nI (S x)) → gF I9 150 (b + 799) = nI 1 → gF I9 154 (b + 799) = nI m → (∀ i, i < m → St9 b (chT t tx) I9 i) → m9_carryOut_28 fl len X9 f9 I9 (b + 799) (nI i) = m9_carryOut_52 fl len X9 (mS I9 (b + 799 + 1) S') (b + 799) (nI d) := by
  intro j
  have hin := hp.in
  have hN := hL.2.2 p hp
  have hl80 := hL.1.2.2.2.1
  have hl3 := hL.1.2.2.2.2
  induction j with
  | zero =>
    intro i f S K w L Y hj hf hv hc hXS hXC h128 h134 h48 h52 hT h50
    obtain ⟨f, rfl⟩ : ∃ f', f = f' + 1 := ⟨f - 1, by omega⟩
    obtain rfl : i = m := by omega
    have ht := hT.1.1
    have ho := hm.2
    obtain ⟨L1, e, g50, g51, gn, gF1⟩ := q_order (fl := fl) (len := len) hfl hl80 hl3 h48 h52 hT h50 (by omega)
    have hno : (ordS (chT t tx) (oat (chT t tx) i)).1 = false := by
      have e0 : chT t tx (oat (chT t tx) i) = 0 := if_neg (show ¬ oat (chT t tx) i < t by omega)
      unfold ordS
      rw [e0, if_pos (by decide)]
    rw [hno] at e
    have hfr : FrL b p L L1 := fun a _ h1 h2 => ⟨fun f => gF1.1 f a (Or.inr h1), fun j => gF1.2 a j h2⟩
    refine ⟨i, S, K, w, L1, Y, Nat.le_refl _, ?_, hfr, gF1.cs hin.2.2 hXC hv hc, hv, hXC, fun _ _ => rfl, fun _ _ _ => rfl, fun X9 I9 f9 hf9 h144 h155 hrow h150 h154 hst => ?_⟩
    · show m8_carryOut_29b fl len (m8_carryOut_29 fl len f) L Y b (nI i) = _
      rw [m8_carryOut_29b, if_neg (by rw [L80, nI_leI (by omega) (by omega)]; omega), h134, nn_s, e, nn_s]
      rfl
    · obtain ⟨f9, rfl⟩ : ∃ f', f9 = f' + 1 := ⟨f9 - 1, by omega⟩
      show m9_carryOut_28b fl len X9 (m9_carryOut_28 fl len X9 f9) I9 (b + 799) (nI i) = _
      rw [m9_carryOut_28b, h154, if_pos (Int32.le_refl _), mS_self hrow]
  | succ j ih =>
    intro i f S K w L Y hj hf hv hc hXS hXC h128 h134 h48 h52 hT h50
    obtain ⟨f, rfl⟩ : ∃ f', f = f' + 1 := ⟨f - 1, by omega⟩
    have ht := hT.1.1
    obtain ⟨hok, hot⟩ := hm.1 i (by omega)
    obtain ⟨L1, e, g50, g51, gn, gF1⟩ := q_order (fl := fl) (len := len) hfl hl80 hl3 h48 h52 hT h50 (by omega)
    rw [if_pos hok] at e
    have hT1 := hT.fr gF1
    have hc1 := gF1.cs hin.2.2 hXC hv hc
    have hfr1 : FrL b p L L1 := fun a _ h1 h2 => ⟨fun f => gF1.1 f a (Or.inr h1), fun j => gF1.2 a j h2⟩
    obtain ⟨e9, hy, h9⟩ := y_order (c := chT t tx) (X := Y) (I := L1) hfl hL hXS hN hXC hv hc1 h128 h134 h52 (i := i) (by omega) hok (ch_126 hT _) g51 gn
    have eo : oat (chT t tx) (i + 1) = (ordS (chT t tx) (oat (chT t tx) i)).2.1 + 1 := rfl
    have start : m8_carryOut_29 fl len (f + 1) L Y b (nI i) = nn (m8_answerOfOrder fl len Y L1 b) fun z => if z.1 < 0 then m8_carryOut_71 fl len z.2.1 z.2.2 b (nI i) else nn (gR z.2.2 134 b) fun y => m8_carryOut_29 fl len f (pF z.2.1 50 y (gF z.2.1 50 y + 1)) z.2.2 b (nI (i + 1)) := by
      show m8_carryOut_29b fl len (m8_carryOut_29 fl len f) L Y b (nI i) = _
      rw [m8_carryOut_29b, if_neg (by rw [L80, nI_leI (by omega) (by omega)]; omega), h134, nn_s, e, nn_s]
      simp only
      rw [if_neg (by decide), nI_k1]
      rfl
    have start9 : ∀ X9 I9 f9, gR X9 155 (b + 799) = some (b + 806) → gF I9 154 (b + 799) = nI m → (∀ i, i < m → St9 b (chT t tx) I9 i) → m9_carryOut_28 fl len X9 (f9 + 1) I9 (b + 799) (nI i) = nn (e9 X9 I9) fun z => if z.1 < 0 then m9_carryOut_52 fl len X9 z.2 (b + 799) (nI i) else m9_carryOut_28 fl len X9 f9 z.2 (b + 799) (nI (i + 1)) := by
      intro X9 I9 f9 h155 h154 hst
      show m9_carryOut_28b fl len X9 (m9_carryOut_28 fl len X9 f9) I9 (b + 799) (nI i) = _
      rw [m9_carryOut_28b, h154, if_neg (by rw [nI_leI (by omega) (by omega)]; omega), show (4 : Int32) = nI 4 from rfl, nI_mul, h9 X9 I9 h155 (hst i (by omega)), nI_k1]
      rfl
    rcases hy with ⟨v, S', K', w', I2, X2, hv31, a2, a3, a4, a5, a6, a7, a8, a9⟩ | ⟨v, hneg, a2, a3⟩
    · have hT2 : TC b (pF I2 50 (b + 148) (nI (oat (chT t tx) (i + 1)))) t tx := by
        refine ⟨⟨ht, ?_⟩, fun x hx => ⟨(hT1.2 x hx).1, ?_⟩⟩
        · rw [gF_f (by omega), (a3 (b + 148) (by omega)).1]; exact hT1.1.2
        · rw [gA_pF, (a3 (b + 149) (by omega)).2]; exact (hT1.2 x hx).2
      have e50 : gF I2 50 (b + 148) + 1 = nI (oat (chT t tx) (i + 1)) := by
        rw [(a3 (b + 148) (by omega)).1, g50, nI_k1, eo]
      have c3 : Cs (pF I2 50 (b + 148) (nI (oat (chT t tx) (i + 1)))) p S' K' w' :=
        a4.same a6 a5.m6.1 a5.m6.2 fun a h1 h2 => ⟨fun f => gF_a (by omega), fun j => rfl⟩
      obtain ⟨d, S'', K'', w'', L2, Y2, b1, b2, b3, b4, b5, b6, b7, b8, b9⟩ := ih (i + 1) f S' K' w' (pF I2 50 (b + 148) (nI (oat (chT t tx) (i + 1)))) X2 (by omega) (by omega) a5 c3 (hXS.to a7 (fun a j h1 h2 => a8 a j (by omega))) a6 (by rw [a7]; exact h128) (by rw [a7]; exact h134) (by rw [a7]; exact h48) (by rw [a7]; exact h52) hT2 gF_s
      refine ⟨d, S'', K'', w'', L2, Y2, b1, ?_, fun a h1 h2 h3 => ?_, b4, b5, b6, fun f a => (b7 f a).trans (a7 f a), fun a j ha => (b8 a j ha).trans (a8 a j ha), fun X9 I9 f9 hf9 h144 h155 hrow h150 h154 hst => ?_⟩
      · rw [start, a2, nn_s]
        simp only
        rw [if_neg (nI_nneg hv31), a7, h134, nn_s, e50]
        exact b2
      · obtain ⟨y1, y2⟩ := b3 a h1 h2 h3
        obtain ⟨u1, u2⟩ := a3 a h1
        obtain ⟨x1, x2⟩ := hfr1 a h1 h2 h3
        exact ⟨fun f => by rw [y1, gF_a h2, u1, x1], fun j => by rw [y2, gA_pF, u2, x2]⟩
      · obtain ⟨f9, rfl⟩ : ∃ f', f9 = f' + 1 := ⟨f9 - 1, by omega⟩
        rw [start9 X9 I9 f9 h155 h154 hst, a9 X9 I9 h144 h150 hrow, nn_s]
        simp only
        rw [if_neg (nI_nneg hv31), b9 X9 (mS I9 (b + 799 + 1) S') f9 (by omega) h144 h155 (fun x => gA_mS _ _ _ _) (by rw [gF_mS]; exact h150) (by rw [gF_mS]; exact h154) (fun i hi => ⟨by rw [gA_mS_ne (by omega)]; exact (hst i hi).1, fun x hx => by rw [gA_mS_ne (by omega)]; exact (hst i hi).2 x hx⟩), mS_mS]
    · refine ⟨i, S, K, w, L1, Y, by omega, ?_, hfr1, hc1, hv, hXC, fun _ _ => rfl, fun _ _ _ => rfl, fun X9 I9 f9 hf9 h144 h155 hrow h150 h154 hst => ?_⟩
      · rw [start, a2, nn_s]
        simp only
        rw [if_pos hneg]
      · obtain ⟨f9, rfl⟩ : ∃ f', f9 = f' + 1 := ⟨f9 - 1, by omega⟩
        rw [start9 X9 I9 f9 h155 h154 hst, a3 X9 I9 h144 h150 hrow, nn_s]
        simp only
        rw [if_pos hneg, mS_self hrow]
/-- a change is recorded alike where the reader of texts differs -/
theorem ch_congr {If I4 : Im} (hfl : 10000 ≤ fl) (h144 : gR X 144 (b + 799) = some (b + 800)) (h145 : gR X 145 (b + 799) = some (b + 801)) (hl : len (b + 800) = 1620) (hl1 : len (b + 801) = 9720) (hn : n ≤ 6) (h149 : gF I 149 (b + 799) = nI n) (h150 : gF I 150 (b + 799) = nI 0) (hf : FrM b I If) (h : m9_changes fl len X I (b + 799) = some I4) :
    ∃ I5, m9_changes fl len X If (b + 799) = some I5 ∧ FrM b I4 I5 := by
  have f149 : gF If 149 (b + 799) = nI n := by rw [hf.1 _ _ (by omega)]; exact h149
  have f150 : gF If 150 (b + 799) = nI 0 := by rw [hf.1 _ _ (by omega)]; exact h150
  have key : ∀ J : Im, gF J 149 (b + 799) = nI n → gF J 150 (b + 799) = nI 0 → m9_changes fl len X J (b + 799) = some (if n = 6 then pF (cpR (pF (shR J (b + 801) 8100) 149 (b + 799) (nI 5)) (b + 801) 8100 (b + 800) 1620) 149 (b + 799) (nI 6) else pF (cpR J (b + 801) (1620 * n) (b + 800) 1620) 149 (b + 799) (nI (n + 1))) := by
    intro J g149 g150
    by_cases h6 : n = 6
    · subst h6
      have e := p_ch19 (fl := fl) (len := len) (X := X) (I := J) hfl h144 h145 hl hl1 g149 8100 0 fl (by omega) (by omega)
      rw [shR_0] at e
      rw [m9_changes, g150, if_pos (by decide), g149, if_pos (by decide), if_pos rfl]
      exact e
    · have e := p_ch60 (fl := fl) (len := len) (X := X) (I := J) (m := n) h144 h145 hl hl1 (by omega) g149 1620 0 fl (by omega) (by omega)
      rw [cpR_0] at e
      rw [m9_changes, g150, if_pos (by decide), g149, if_neg (by rw [L6, nI_eq (by omega) (by omega)]; exact h6), if_neg h6]
      exact e
  rw [key I h149 h150] at h
  refine ⟨_, key If f149 f150, ?_⟩
  obtain rfl := Option.some.inj h
  have hA : ∀ a j, a ≠ b + 806 → gA If a j = gA I a j := hf.2
  by_cases h6 : n = 6
  · rw [if_pos h6, if_pos h6]
    refine ⟨fun f a ha => ?_, fun a j ha => ?_⟩
    · rw [gF_pF, gF_pF]
      by_cases e : f = 149 ∧ a = b + 799
      · rw [if_pos e, if_pos e]
      · rw [if_neg e, if_neg e, gF_cpR, gF_cpR, gF_pF, gF_pF, if_neg e, if_neg e]
        exact hf.1 f a ha
    · rw [gA_pF, gA_pF]
      by_cases e : a = b + 801
      · rw [e, gA_cpR, gA_cpR, gA_pF, gA_pF, gA_pF, gA_pF, gA_shR_ne (show b + 800 ≠ b + 801 by omega), gA_shR_ne (show b + 800 ≠ b + 801 by omega), gA_shR, gA_shR, hA _ _ (show b + 800 ≠ b + 806 by omega), hA _ _ (show b + 801 ≠ b + 806 by omega), hA _ _ (show b + 801 ≠ b + 806 by omega)]
      · rw [gA_cpR_ne e, gA_cpR_ne e, gA_pF, gA_pF, gA_shR_ne e, gA_shR_ne e, hA _ _ ha]
  · rw [if_neg h6, if_neg h6]
    refine ⟨fun f a ha => ?_, fun a j ha => ?_⟩
    · rw [gF_pF, gF_pF]
      by_cases e : f = 149 ∧ a = b + 799
      · rw [if_pos e, if_pos e]
      · rw [if_neg e, if_neg e, gF_cpR, gF_cpR]
        exact hf.1 f a ha
    · rw [gA_pF, gA_pF]
      by_cases e : a = b + 801
      · rw [e, gA_cpR, gA_cpR, hA _ _ (by omega), hA _ _ (by omega)]
      · rw [gA_cpR_ne e, gA_cpR_ne e, hA _ _ ha]
theorem st_carryOut (hfl : 10000 ≤ fl) (hL : LG len b) : St_carryOut fl len b (b + 799) (Rel b) := by
  intro I X ⟨sg, W, S, K, n, Hs, Hk, sv, Ss, Sk, t, tx, h0⟩
  have hX := h0.1
  obtain ⟨I0, e1, f1⟩ := q_fault (fl := fl) (len := len) hfl hL.1.2.2.2.1 hL.1.2.2.2.2 hX.1.2.2.2.2.2.2.1 hX.1.2.2.2.2.2.2.2 h0.2.2.2.2.tc
  have h := f1.rel h0
  have ht := h.2.2.2.2.1.1
  cases hflt : flt (chT t tx) t 81 0 with
  | some a =>
    obtain ⟨I2, e2, f2, -⟩ := p_fault (fl := fl) (len := len) hfl hL hX.2.2.2.2.2.2.2.2.2.2.2.1 hX.2.2.2.2.2.2.2.2.2.2.2.2 h.2.2.2.2.tm
    have hle := flt_le (tx := tx) 81 0 a (Nat.zero_le t) (by omega) hflt
    have hne : ¬ fltV (some a) = -6 := nI_m6 (show a < 2 ^ 31 by omega)
    rw [hflt] at e1 e2
    refine ⟨-3, I0, X, I2, ?_, ?_, Rel.of (f2.rel h)⟩
    · rw [m8_carryOut, hX.1.2.2.2.2.2.1, nn_s, e1, nn_s]
      simp only
      rw [if_neg hne]
    · rw [m9_carryOut, e2, nn_s]
      simp only
      rw [if_neg hne]
  | none =>
    obtain ⟨J0, e2, f2, hmm⟩ := p_fault (fl := fl) (len := len) hfl hL hX.2.2.2.2.2.2.2.2.2.2.2.1 hX.2.2.2.2.2.2.2.2.2.2.2.2 h.2.2.2.2.tm
    obtain ⟨m, hm27, hm, -, -⟩ := hmm hflt
    rw [hflt] at e1
    have hn := h.2.2.1.1.1
    have p0 := h.1.2.2.2.1 0 (by omega)
    have p1 := h.1.2.2.2.1 (n + 1) (by omega)
    have i0 := p0.p.in
    have i1 := p1.p.in
    obtain ⟨I1, rh, fh, ch⟩ := q_hold hfl hL h
    have h1 := h.hold fh
    obtain ⟨hXS, hXC⟩ := h.1.2.2.2.2.2.1 _ p0.p
    have hv := h.2.1.1
    have hc := h1.2.1.2.1
    have hT1 := h1.2.2.2.2.tc
    have hc50 : Cs (pF I1 50 (b + 148) (nI 0)) (sg 0) S K (W (sg 0)) := hc.same hXC hv.m6.1 hv.m6.2 fun a x1 x2 => ⟨fun f => gF_a (by omega), fun j => rfl⟩
    have hT50 : TC b (pF I1 50 (b + 148) (nI 0)) t tx := ⟨⟨hT1.1.1, by rw [gF_f (by omega)]; exact hT1.1.2⟩, fun j hj => ⟨(hT1.2 j hj).1, (hT1.2 j hj).2⟩⟩
    obtain ⟨d, S', K', w', L2, Y2, b1, b2, b3, b4, b5, b6, b7, b8, b9⟩ := q_carry (fl := fl) (len := len) hfl hL hm hm27 p0.p m 0 fl S K (W (sg 0)) (pF I1 50 (b + 148) (nI 0)) X (by omega) (by omega) hv hc50 hXS hXC h.1.1.1 h.1.1.2.2.2.2.2.1 h.1.1.2.2.2.2.2.2.1 h.1.1.2.2.2.2.2.2.2 hT50 gF_s
    obtain ⟨Iz, eI⟩ : ∃ y, y = pF L2 49 (b + 148) (nI 0) := ⟨_, rfl⟩
    have cz : Cs Iz (sg 0) S' K' w' := by
      rw [eI]
      exact b4.same b6 b5.m6.1 b5.m6.2 fun a x1 x2 => ⟨fun f => gF_a (by omega), fun j => rfl⟩
    have fz : ∀ a, (a < sg 0 ∨ sg 0 + 72 ≤ a) → a ≠ b + 148 → a ≠ b + 150 → (∀ f, gF Iz f a = gF I1 f a) ∧ ∀ j, gA Iz a j = gA I1 a j := fun a x1 x2 x3 => by
      obtain ⟨y1, y2⟩ := b3 a x1 x2 x3
      rw [eI]
      exact ⟨fun f => by rw [gF_a x2, y1, gF_a x2], fun j => by rw [gA_pF, y2, gA_pF]⟩
    obtain ⟨I3, X3, I4, r8, r9, s4, f4, a4, xR, r150, fin⟩ := change (v := d) hfl hL h fh ch fz cz b5 b7 b8 b6 (by omega)
    -- what the class's end leaves
    obtain ⟨J3, Y3, hr, -, hF3, hA3, -⟩ := q_record (fl := fl) (len := len) (X := Y2) (I := Iz) (sg := sg) (n := n) (v := d) hfl hL (by rw [b7]; exact h.1.1.2.2.1) (fun i hi => by rw [b8 _ _ (by omega)]; exact h.1.2.1 i hi) hn (by rw [(fz b (by omega) (by omega) (by omega)).1, (fh b (by omega)).1]; exact h.2.2.1.1.2.1) (by omega)
    have eJ : J3 = I3 := by
      rw [r8] at hr
      have := (Prod.mk.inj (Prod.mk.inj (Option.some.inj hr)).2).1
      exact this.symm
    rw [eJ] at hF3 hA3
    have o3 : ∀ a, b + 799 ≤ a → (∀ f, gF I3 f a = gF I0 f a) ∧ ∀ j, gA I3 a j = gA I0 a j := fun a ha => by
      obtain ⟨y1, y2⟩ := fz a (by omega) (by omega) (by omega)
      obtain ⟨u1, u2⟩ := fh a (by omega)
      exact ⟨fun f => by rw [hF3 f a (by omega), y1, u1], fun j => by rw [hA3, y2, u2]⟩
    have hT0 := h.2.2.2.2.tm
    have hT3 : TM b I3 t tx := ⟨⟨hT0.1.1, by rw [(o3 _ (by omega)).1]; exact hT0.1.2⟩, fun j hj => ⟨(hT0.2 j hj).1, by rw [(o3 _ (by omega)).2]; exact (hT0.2 j hj).2⟩⟩
    have m7 := h.1.2.2.2.2.2.2
    obtain ⟨J1, e3, f3, hmm3⟩ := p_fault (fl := fl) (len := len) (X := X3) hfl hL (by rw [xR]; exact m7.2.2.2.2.2.1) (by rw [xR]; exact m7.2.2.2.2.2.2) hT3
    obtain ⟨m', hm27', hm', g154, gst⟩ := hmm3 hflt
    obtain rfl : m' = m := by
      have u1 := hm.2
      have u2 := hm'.2
      rcases Nat.lt_trichotomy m' m with q | q | q
      · have := (hm.1 m' q).2; omega
      · exact q
      · have := (hm'.1 m q).2; omega
    rw [hflt] at e3
    obtain ⟨J2, e4, f5⟩ := ch_congr (fl := fl) (len := len) (X := X3) (I := I3) hfl (by rw [xR]; exact m7.1) (by rw [xR]; exact m7.2.1) hL.2.1.1 hL.2.1.2.1 hn (by rw [(o3 _ (by omega)).1]; exact h.2.2.1.1.2.2.1) (by rw [(o3 _ (by omega)).1]; exact h.2.2.1.1.2.2.2) f3 r9
    -- the row of orders outlives the change
    obtain ⟨J2', e4', cF, cA, -⟩ := p_changes (fl := fl) (len := len) (X := X3) (I := J1) (b := b) (n := n) hfl (by rw [xR]; exact m7.1) (by rw [xR]; exact m7.2.1) hL.2.1.1 hL.2.1.2.1 hn (by rw [f3.1 _ _ (by omega), (o3 _ (by omega)).1]; exact h.2.2.1.1.2.2.1) (by rw [f3.1 _ _ (by omega), (o3 _ (by omega)).1]; exact h.2.2.1.1.2.2.2)
    have eJ2 : J2' = J2 := by
      rw [e4] at e4'
      exact (Option.some.inj e4').symm
    rw [eJ2] at cF cA
    obtain ⟨J5, eJ5⟩ : ∃ y, y = pF (pF J2 152 (b + 799) (nI 0)) 150 (b + 799) (nI 1) := ⟨_, rfl⟩
    have r28 := b9 X3 J5 fl (by omega) (by rw [xR]; exact m7.1) (by rw [xR]; exact m7.2.2.2.2.2.2) (fun x => by rw [eJ5, gA_pF, gA_pF, f5.2 _ _ (by omega)]; exact s4 x) (by rw [eJ5, gF_s]) (by rw [eJ5, gF_f (by omega), gF_f (by omega), cF _ _ (by omega)]; exact g154) (fun i hi => by
      rw [eJ5]
      exact ⟨by rw [gA_pF, gA_pF, cA _ _ (by omega)]; exact (gst i hi).1, fun x hx => by rw [gA_pF, gA_pF, cA _ _ (by omega)]; exact (gst i hi).2 x hx⟩)
    obtain ⟨J6, eJ6⟩ : ∃ y, y = pF (mS J5 (b + 799 + 1) S') 150 (b + 799) (nI 0) := ⟨_, rfl⟩
    have z6 : ∀ f a, f ≠ 150 → f ≠ 152 → f ≠ 153 → f ≠ 154 → gF J6 f a = gF I4 f a := fun f a x1 x2 x3 x4 => by
      rw [eJ6, gF_f x1, gF_mS, eJ5, gF_f x1, gF_f x2, f5.1 f a (Or.inl ⟨x3, x4⟩)]
    have y6 : ∀ a j, a ≠ b + 800 → a ≠ b + 806 → gA J6 a j = gA I4 a j := fun a j x1 x2 => by
      rw [eJ6, gA_pF, gA_mS_ne x1, eJ5, gA_pF, gA_pF, f5.2 a j x2]
    obtain ⟨sg', W', n', Hs', Hk', hR⟩ := fin J6 0 tx z6 y6 (fun j => by rw [eJ6, gA_pF, gA_mS]) (by rw [eJ6, gF_s]) ⟨⟨by omega, by rw [z6 _ _ (by omega) (by omega) (by omega) (by omega), f4 _ _ (by omega) (by omega), eI, gF_s], by rw [eJ6, gF_f (by omega), gF_mS, eJ5, gF_f (by omega), gF_s]⟩, fun j hj => absurd hj (Nat.not_lt_zero _)⟩
    refine ⟨nI d, I3, X3, J6, ?_, ?_, Rel.of hR⟩
    · rw [m8_carryOut, hX.1.2.2.2.2.2.1, nn_s, e1, nn_s]
      simp only
      rw [if_pos (show fltV none = -6 from rfl), rh, nn_s, show (0 : Int32) = nI 0 from rfl, lt_e, b2, m8_carryOut_71, b7, hX.1.2.2.2.2.2.1, nn_s, show (0 : Int32) = nI 0 from rfl, ← eI, lt_e, r8, nn_s]
    · rw [m9_carryOut, e3, nn_s]
      simp only
      rw [if_pos (show fltV none = -6 from rfl), e4, nn_s, show (0 : Int32) = nI 0 from rfl, show (1 : Int32) = nI 1 from rfl, lt_e, lt_e, ← eJ5, r28, m9_carryOut_52, show (0 : Int32) = nI 0 from rfl, ← eJ6, lt_e]
end RY
