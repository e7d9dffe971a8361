section RL
variable {fl : Nat} {len : Nat → Nat} {X X2 : Xm} {I I1 : Im} {p q b : Nat} {S S' : Nat → Nat} {K : Nat} {w w' : Nat → Nat}
theorem o_mv (hfl : 10000 ≤ fl) (hX : XS X p) (hN : LN len p) (hC : XC X p w) (hv : Iv S K) (hc : Cs I p S K w) (hl : len (q + 1) = 1620) (a1 a2 : Int32) :
    (∃ r S' w' I2 X2, r < 2 ^ 31 ∧ m4_moveCue fl len X I p a1 a2 = some (nI r, I2, X2) ∧ Fr p I I2 ∧ Cs I2 p S' K w' ∧ Iv S' K ∧ XC X2 p w' ∧ (∀ f a, gR X2 f a = gR X f a) ∧ (∀ a j, a ≠ p + 3 → gQ X2 a j = gQ X a j) ∧ (∀ X9 I9, gR X9 144 q = some (q + 1) → (∀ j, gA I9 (q + 1) j = nI (S j)) → m9_whyNotMoved fl len X9 I9 q a1 a2 = some (0 : Int32)) ∧ (∀ X9 J9, gR X9 144 q = some (q + 1) → m9_moves fl len X9 (mS J9 (q + 1) S) q a1 a2 = some (nI r, mS J9 (q + 1) S'))) ∨
    (∃ v : Int32, ¬ (0 : Int32) ≤ v ∧ m4_moveCue fl len X I p a1 a2 = some (v, I, X) ∧ ∀ X9 I9, gR X9 144 q = some (q + 1) → (∀ j, gA I9 (q + 1) j = nI (S j)) → m9_whyNotMoved fl len X9 I9 q a1 a2 = some v) := by
  have h5 := hv.m6.1
  have h4l := hv.2.1.1
  have hB := hv.2.2.2.2.2.2.2.2
  rcases zc a1 (S 5) (by omega) with ⟨a, ha, rfl⟩ | hb
  · have hcue := q_cue (fl := fl) (len := len) hX hN hC h5 hc.2.1.2.1 ha
    obtain ⟨e16, e17, e18, e19, e20⟩ := hc.2.2.1 a ha
    have hh := hv.2.2.1.1 a ha
    have hst := hh.2.2.2.1
    have hb4 := hB (8 + 5 * a + 4)
    have is1 : ∀ X9 I9, gR X9 144 q = some (q + 1) → (∀ j, gA I9 (q + 1) j = nI (S j)) → m9_isCue fl len X9 I9 q (nI a) = some (1 : Int32) ∧ m9_of fl len X9 I9 q (nI a) (4 : Int32) = some (nI (S (8 + 5 * a + 4))) := fun X9 I9 h144 hM => ⟨by rw [← mS_self hM]; exact p_isCue1 h144 hl ha h5, by rw [← mS_self hM, L4]; exact p_of h144 hl (by omega) (by omega)⟩
    rcases rng a2 0 999 (by omega) (by omega) with ⟨t, -, ht, rfl⟩ | hb
    · have w1 : m8_within fl len X I (nI t) (0 : Int32) (999 : Int32) = some (1 : Int32) := q_withinl (a := 0) (n := 999) ht (Nat.zero_le _) (by omega)
      have m1 : ∀ X9 I9, m9_in fl len X9 I9 (nI t) (0 : Int32) (999 : Int32) = some (1 : Int32) := fun X9 I9 => p_inl1 (a := 0) (n := 999) ht (Nat.zero_le _) (by omega)
      by_cases h0 : S (8 + 5 * a + 4) = 0
      · have hK := hst.mp h0
        by_cases h4 : S 4 ≤ t
        · obtain ⟨X1, rm, xr, xq, xc⟩ := q_makeLast (fl := fl) (len := len) (I := I) hfl hX hN hC h5 ha hc.2.1.2.1
          have hX1 : XS X1 p := hX.to xr (fun b j h1 h2 => xq b j (by omega))
          have iv1 := hv.cl ha hK
          have c5 : clS S a 5 = S 5 - 1 := cl_5
          have hB1 := iv1.2.2.2.2.2.2.2.2
          have hne : ∀ c, c < S 5 - 1 → w (sL a (S 5 - 1) c) ≠ w a := fun c hcc e => by
            have h1 := (hC (sL a (S 5 - 1) c) (sL_lt (by omega) (by omega) (by omega))).2.2 a (by omega) e
            unfold sL at h1
            rw [if_neg (by omega)] at h1
            split at h1 <;> omega
          have elast : w (sL a (S 5 - 1) (S 5 - 1)) = w a := by
            unfold sL
            rw [if_pos rfl]
          obtain ⟨Iz, eI⟩ : ∃ y, y = pF I 16 (w a) (nI t) := ⟨_, rfl⟩
          have d5c := D5.cl hc.2.2.1 ha
          have hold : ∀ c, c < S 5 - 1 → gF Iz 16 (w (sL a (S 5 - 1) c)) = nI (clS S a (8 + 5 * c)) ∧ gF Iz 17 (w (sL a (S 5 - 1) c)) = nI (clS S a (8 + 5 * c + 1)) ∧ gF Iz 18 (w (sL a (S 5 - 1) c)) = nI (clS S a (8 + 5 * c + 2)) ∧ gF Iz 19 (w (sL a (S 5 - 1) c)) = nI (clS S a (8 + 5 * c + 3)) ∧ gF Iz 20 (w (sL a (S 5 - 1) c)) = nI (clS S a (8 + 5 * c + 4)) := fun c hcc => by
            have e := d5c c (by rw [c5]; exact hcc)
            rw [eI, gF_a (hne c hcc), gF_a (hne c hcc), gF_a (hne c hcc), gF_a (hne c hcc), gF_a (hne c hcc)]
            exact e
          have h97 : gF Iz 97 (p + 2) = nI (S 5) := by rw [eI, gF_f (by omega)]; exact hc.2.1.2.1
          obtain ⟨X2, rs, xr2, xq2, xc2⟩ := q_sortLast (fl := fl) (len := len) (I := Iz) (S := clS S a) (m := S 5 - 1) hfl hX1 hN xc (by omega) (by rw [h97, show S 5 - 1 + 1 = S 5 by omega]) hB1 (t := t) (by omega) (fun c hcc => (hold c hcc).1) (by rw [elast, eI, gF_s])
          have hrn := rkS_le (clS S a) t (S 5 - 1)
          have d5 := D5.ins (S := clS S a) (w := fun c => w (sL a (S 5 - 1) c)) (I := Iz) (r := rkS (clS S a) t (S 5 - 1)) (t := t) (kd := S (8 + 5 * a + 1)) (wh := S (8 + 5 * a + 2)) (v := S (8 + 5 * a + 3)) (by rw [c5]; exact hold) (by rw [c5]; exact hrn) (by
            rw [c5, elast, eI, gF_s, gF_f (by omega), gF_f (by omega), gF_f (by omega), gF_f (by omega), e20, h0]
            exact ⟨rfl, e17, e18, e19, rfl⟩)
          have cf : ∀ j, j ≠ 5 → (j < 8 ∨ 128 ≤ j) → clS S a j = S j := fun j h1 h2 => cl_far h5 h1 h2
          have iv2 := iv1.ins (r := rkS (clS S a) t (S 5 - 1)) (t := t) (kd := S (8 + 5 * a + 1)) (wh := S (8 + 5 * a + 2)) (v := S (8 + 5 * a + 3)) (by omega) ht (by rw [cf 4 (by omega) (by omega)]; exact h4) (by rw [c5]) (hh.2.1.to fun r hr => cf _ (by omega) (by omega)) (hB _)
          refine Or.inl ⟨rkS (clS S a) t (S 5 - 1), _, _, Iz, X2, by omega, ?_, ?_, hc.cue hv ?_ ?_ ?_ d5 ?_, iv2, ?_, ?_, ?_, fun X9 I9 h144 hM => ?_, fun X9 J9 h144 => ?_⟩
          · rw [m4_moveCue, hX.1.2.1, nn_s, hcue, nn_s, if_neg (by simp), w1, nn_s, if_neg (by decide), nn_s, e20, if_pos (by rw [h0]; rfl), hc.2.1.1, if_pos (by rw [nI_leI (by omega) (by omega)]; exact h4), rm, nn_s, ← eI, lt_e, xr, hX.1.2.1, nn_s, rs, nn_s]
          · rw [eI]
            have := (hC a (by omega)).2.1
            exact Fr.rfl.pF (by omega) (by omega)
          · intro a' j; rw [eI]; rfl
          · intro f a' hf h97'; rw [eI, gF_f (by omega)]
          · rw [h97, ins_5, c5, show S 5 - 1 + 1 = S 5 by omega]
          · intro j h1 h2
            rw [ins_far (by rw [c5]; exact hrn) (by omega) h1 h2]
            exact cf j h1 h2
          · rw [c5]; exact xc2
          · intro f a'; rw [xr2, xr]
          · intro a' j h1; rw [xq2 a' j h1, xq a' j h1]
          · obtain ⟨i1, i2⟩ := is1 X9 I9 h144 hM
            rw [m9_whyNotMoved, i1, nn_s, if_neg (by decide), m1, nn_s, if_neg (by decide), i2, nn_s, if_pos (by rw [h0]; rfl), h144, nn_s, hl, show (4 : Int32) = nI 4 from rfl, ck_inb _ (by omega) (by omega), nI_clamp (by omega), hM, if_pos (by rw [nI_leI (by omega) (by omega)]; exact h4)]
            rfl
          · rw [m9_moves, L1, p_of h144 hl (by omega) (by omega), nn_s, L2, p_of h144 hl (by omega) (by omega), nn_s, L3, p_of h144 hl (by omega) (by omega), nn_s, p_closes hfl h144 hl h5 ha, nn_s, p_opens hfl h144 hl hB1 (by omega) (by omega), nn_s]
            simp only
            rw [c5]
            exact p_lays h144 hl (by omega) (fun z => some (nI (rkS (clS S a) t (S 5 - 1)), z))
        · refine Or.inr ⟨-5, by decide, ?_, fun X9 I9 h144 hM => ?_⟩
          · rw [m4_moveCue, hX.1.2.1, nn_s, hcue, nn_s, if_neg (by simp), w1, nn_s, if_neg (by decide), nn_s, e20, if_pos (by rw [h0]; rfl), hc.2.1.1, if_neg (by rw [nI_leI (by omega) (by omega)]; exact h4)]
            rfl
          · obtain ⟨i1, i2⟩ := is1 X9 I9 h144 hM
            rw [m9_whyNotMoved, i1, nn_s, if_neg (by decide), m1, nn_s, if_neg (by decide), i2, nn_s, if_pos (by rw [h0]; rfl), h144, nn_s, hl, show (4 : Int32) = nI 4 from rfl, ck_inb _ (by omega) (by omega), nI_clamp (by omega), hM, if_neg (by rw [nI_leI (by omega) (by omega)]; exact h4)]
            rfl
      · refine Or.inr ⟨-5, by decide, ?_, fun X9 I9 h144 hM => ?_⟩
        · rw [m4_moveCue, hX.1.2.1, nn_s, hcue, nn_s, if_neg (by simp), w1, nn_s, if_neg (by decide), nn_s, e20, if_neg (by rw [L0, nI_eq (by omega) (by omega)]; exact h0)]
          rfl
        · obtain ⟨i1, i2⟩ := is1 X9 I9 h144 hM
          rw [m9_whyNotMoved, i1, nn_s, if_neg (by decide), m1, nn_s, if_neg (by decide), i2, nn_s, if_neg (by rw [L0, nI_eq (by omega) (by omega)]; exact h0)]
          rfl
    · refine Or.inr ⟨-2, by decide, ?_, fun X9 I9 h144 hM => ?_⟩
      · rw [m4_moveCue, hX.1.2.1, nn_s, hcue, nn_s, if_neg (by simp), L0, L999, q_within0 hb, nn_s, if_pos (by decide)]
      · obtain ⟨i1, i2⟩ := is1 X9 I9 h144 hM
        rw [m9_whyNotMoved, i1, nn_s, if_neg (by decide), L0, L999, p_in0 hb, nn_s, if_pos (by decide)]
  · refine Or.inr ⟨-1, by decide, ?_, fun X9 I9 h144 hM => ?_⟩
    · rw [m4_moveCue, hX.1.2.1, nn_s, q_cue0 hc.2.1.2.1 hb, nn_s, if_pos rfl]
    · have i0 : m9_isCue fl len X9 I9 q a1 = some (0 : Int32) := by rw [← mS_self hM]; exact p_isCue0 h144 hl hb h5
      rw [m9_whyNotMoved, i0, nn_s, if_pos (by decide)]
theorem o_move (hfl : 10000 ≤ fl) (hX : XS X p) (hN : LN len p) (hC : XC X p w) (hv : Iv S K) (hc : Cs I p S K w) (hl : len (q + 1) = 1620) (a1 a2 : Int32) :
    OkX fl len X I p q S (m4_moveCue fl len X I p a1 a2) (fun X9 I9 => m9_move fl len X9 I9 q a1 a2) := by
  rcases o_mv (q := q) hfl hX hN hC hv hc hl a1 a2 with ⟨r, S', w', I2, X2, z1, z2, z3, z4, z5, z6, z7, z8, z9, z10⟩ | ⟨v, z1, z2, z3⟩
  · refine Or.inl ⟨r, S', K, w', I2, X2, z1, z2, z3, z4, z5, z6, z7, z8, fun X9 I9 J9 h144 h9 hM => ?_⟩
    show m9_move fl len X9 I9 q a1 a2 = _
    rw [m9_move, z9 X9 I9 h144 hM, nn_s, if_pos (by decide), h9, nn_s, z10 X9 J9 h144, nn_s]
  · refine OkX.no z1 z2 (fun X9 I9 h144 hM => ?_)
    show m9_move fl len X9 I9 q a1 a2 = _
    rw [m9_move, z3 X9 I9 h144 hM, nn_s, if_neg z1]
theorem st_move (hfl : 10000 ≤ fl) (hL : LG len b) : St_move fl len b (b + 799) (Rel b) := by
  intro I X a1 a2 ⟨sg, W, S, K, n, Hs, Hk, sv, Ss, Sk, t, tx, h⟩
  obtain ⟨I1, rh, fh, ch⟩ := q_hold hfl hL h
  have h1 := h.hold fh
  have p0 := h.1.2.2.2.1 0 (by omega)
  obtain ⟨hX, hC⟩ := h.1.2.2.2.2.2.1 _ p0.p
  obtain ⟨v, I2, X2, I3, X3, J, e8, er, e9, hr⟩ := OkX.done hfl hL h fh ch (o_move (q := b + 799) hfl hX (hL.2.2 _ p0.p) hC h.2.1.1 h1.2.1.2.1 hL.2.1.1 a1 a2)
  refine ⟨v, I3, X3, J, ?_, e9, hr⟩
  rw [m8_move, rh, nn_s, h.1.1.1, nn_s, e8, nn_s]
  simp only
  rw [er, nn_s]
end RL
