/-! ===== cue, takeOut, move ===== -/
/-- a change on both sides: it is done, or it is refused -/
def OkX (fl : Nat) (len : Nat → Nat) (X : Xm) (I : Im) (p q : Nat) (S : Nat → Nat) (e8 : Option (Int32 × Im × Xm)) (e9 : Xm → Im → Option (Int32 × Im)) : Prop :=
  (∃ v S' K' w' I2 X2, v < 2 ^ 31 ∧ e8 = some (nI v, I2, X2) ∧ Fr p I I2 ∧ Cs I2 p S' K' w' ∧ Iv S' K' ∧ XC X2 p w' ∧ (∀ f a, gR X2 f a = gR X f a) ∧ (∀ a j, a ≠ p + 3 → gQ X2 a j = gQ X a j) ∧ ∀ X9 I9 J9, gR X9 144 q = some (q + 1) → m9_changes fl len X9 I9 q = some (mS J9 (q + 1) S) → (∀ j, gA I9 (q + 1) j = nI (S j)) → e9 X9 I9 = some (nI v, mS J9 (q + 1) S')) ∨
  (∃ v : Int32, ¬ (0 : Int32) ≤ v ∧ e8 = some (v, I, X) ∧ ∀ X9 I9, gR X9 144 q = some (q + 1) → (∀ j, gA I9 (q + 1) j = nI (S j)) → e9 X9 I9 = some (v, I9))
section RK
variable {fl : Nat} {len : Nat → Nat} {X X2 : Xm} {I I1 : Im} {p q b : Nat} {S S' : Nat → Nat} {K : Nat} {w w' : Nat → Nat}
theorem OkX.done {sg W S K n Hs Hk sv Ss Sk t tx e8 e9} (hfl : 10000 ≤ fl) (hL : LG len b) (h : RelW I X b sg W S K n Hs Hk sv Ss Sk t tx) (hf : Fr (sg (n + 1)) I I1) (hc1 : Cs I1 (sg (n + 1)) S K (W (sg (n + 1)))) (ho : OkX fl len X I1 (sg 0) (b + 799) S e8 e9) :
    ∃ v I2 X2 I3 X3 J, e8 = some (v, I2, X2) ∧ m8_recorded fl len X2 I2 b v = some (v, I3, X3) ∧ e9 X3 I3 = some (v, J) ∧ Rel b J X3 := by
  have h1 := h.hold hf
  rcases ho with ⟨v, S', K', w', I2, X2, hv, r8, f2, c2, iv2, xc, xr, xq, r9⟩ | ⟨v, hneg, r8, r9⟩
  · obtain ⟨I3, X3, I4, rr, rc, y144, hr, hM3⟩ := change1 (v := v) (X2 := X2) hfl hL h hf hc1 f2 c2 iv2 xr xq xc hv
    exact ⟨nI v, I2, X2, I3, X3, _, r8, rr, r9 X3 I3 I4 y144 rc hM3, hr⟩
  · exact ⟨v, I1, X, I1, X, I1, r8, q_recneg hneg, r9 X I1 h.1.2.2.2.2.2.2.1 h1.2.1.2.2, Rel.of h1⟩
theorem bad_not {z : Int32} {n : Nat} (h : bad (n + 1) z) (hn : n < 10000) : ¬ (nI 0 ≤ z ∧ z ≤ nI n) := fun q => by
  have h1 := q.1
  have h2 := q.2
  rw [Int32.le_iff_toInt_le, nI_toInt (by omega)] at h1
  rw [Int32.le_iff_toInt_le, nI_toInt (by omega)] at h2
  rcases h with h | ⟨h, h3⟩
  · rw [Int32.lt_iff_toInt_lt, Int32.toInt_zero] at h; omega
  · rw [Int32.le_iff_toInt_le, nI_toInt (by omega)] at h3; omega
theorem q_withinb {z : Int32} {n : Nat} (h : bad (n + 1) z) (hn : n < 10000) : m8_within fl len X I z (nI 0) (nI n) = some (0 : Int32) := q_within0 (bad_not h hn)
theorem q_withinl {k a n : Nat} (h : k ≤ n) (ha : a ≤ k) (hn : n ≤ 10000) : m8_within fl len X I (nI k) (nI a) (nI n) = some (1 : Int32) := q_within1 ⟨by rw [nI_leI (by omega) (by omega)]; omega, by rw [nI_leI (by omega) (by omega)]; omega⟩
/-- where only cues change -/
theorem Cs.cue (hc : Cs I p S K w) (hv : Iv S K) (hA : ∀ a j, gA I1 a j = gA I a j) (hF : ∀ f a, (f < 16 ∨ 20 < f) → f ≠ 97 → gF I1 f a = gF I f a) (h97 : gF I1 97 (p + 2) = nI (S' 5)) (h5 : D5 I1 S' w') (hs : ∀ j, j ≠ 5 → (j < 8 ∨ 128 ≤ j) → S' j = S j) : Cs I1 p S' K w' := by
  obtain ⟨d1, d2, d5, d6, d7, d8, d9, d10⟩ := hc
  have h67 := h67_le hv
  refine ⟨d1.to (hA _) (fun j hj => hs j (by omega) (by omega)), ⟨?_, h97, ?_⟩, h5, d6.to (hF _ _ (by omega) (by omega)) (fun a j _ _ => hA a j) (hs 6 (by omega) (by omega)) h67.1 (fun j _ _ => hs j (by omega) (by omega)), d7.to (hF _ _ (by omega) (by omega)) (hA _) (hs 7 (by omega) (by omega)) h67.2 (fun j _ _ => hs j (by omega) (by omega)), d8.to (hA _) (hs 4 (by omega) (by omega)) (fun j _ => hs j (by omega) (by omega)), d9.to hv.m6.2 (fun f a hf => hF f a (by omega) (by omega)) (fun j _ _ => hs j (by omega) (by omega)), d10.to (fun f a hf => hF f a (by omega) (by omega)) (fun j _ _ => hs j (by omega) (by omega))⟩
  · rw [hF _ _ (by omega) (by omega), hs 4 (by omega) (by omega)]; exact d2.1
  · rw [hF _ _ (by omega) (by omega)]; exact d2.2.2
theorem o_cueT (hfl : 10000 ≤ fl) (hX : XS X p) (hN : LN len p) (hC : XC X p w) (hv : Iv S K) (hc : Cs I p S K w) (hl : len (q + 1) = 1620) {t kd wh v : Nat} (ht : t ≤ 999) (hk : okV S kd wh v) (hb : v < 10000) :
    OkX fl len X I p q S (m4_addCue_83 fl len I X p (nI t) (nI kd) (nI wh) (nI v)) (fun X9 I9 => m9_cue_81 fl len X9 I9 q (nI t) (nI kd) (nI wh) (nI v)) := by
  have h5 := hv.m6.1
  have h4l := hv.2.1.1
  have hB := hv.2.2.2.2.2.2.2.2
  by_cases h4 : S 4 ≤ t
  · by_cases hn : S 5 < 24
    · have hrn := rkS_le S t (S 5)
      obtain ⟨Iz, eI⟩ : ∃ y, y = pF (pF (pF (pF (pF (pF I 16 (w (S 5)) (nI t)) 17 (w (S 5)) (nI kd)) 18 (w (S 5)) (nI wh)) 19 (w (S 5)) (nI v)) 20 (w (S 5)) (0 : Int32)) 97 (p + 2) (nI (S 5 + 1)) := ⟨_, rfl⟩
      obtain ⟨q1, q2, q3⟩ := hC (S 5) hn
      have hA : ∀ a j, gA Iz a j = gA I a j := fun a j => by rw [eI]; rfl
      have hF : ∀ f a, (f < 16 ∨ 20 < f) → f ≠ 97 → gF Iz f a = gF I f a := fun f a hf h97 => by rw [eI, gF_f h97, gF_f (by omega), gF_f (by omega), gF_f (by omega), gF_f (by omega), gF_f (by omega)]
      have hF2 : ∀ c, c < S 5 → ∀ f, f ≠ 97 → gF Iz f (w c) = gF I f (w c) := fun c hcc f h97 => by
        have hne : w c ≠ w (S 5) := fun e => by have := (hC c (by omega)).2.2 (S 5) hn e; omega
        rw [eI, gF_f h97, gF_a hne, gF_a hne, gF_a hne, gF_a hne, gF_a hne]
      have l16 : gF Iz 16 (w (S 5)) = nI t := by rw [eI, gF_f (by omega), gF_f (by omega), gF_f (by omega), gF_f (by omega), gF_f (by omega), gF_s]
      have l17 : gF Iz 17 (w (S 5)) = nI kd := by rw [eI, gF_f (by omega), gF_f (by omega), gF_f (by omega), gF_f (by omega), gF_s]
      have l18 : gF Iz 18 (w (S 5)) = nI wh := by rw [eI, gF_f (by omega), gF_f (by omega), gF_f (by omega), gF_s]
      have l19 : gF Iz 19 (w (S 5)) = nI v := by rw [eI, gF_f (by omega), gF_f (by omega), gF_s]
      have l20 : gF Iz 20 (w (S 5)) = nI 0 := by rw [eI, gF_f (by omega), gF_s]; rfl
      have l97 : gF Iz 97 (p + 2) = nI (S 5 + 1) := by rw [eI, gF_s]
      have hold : ∀ c, c < S 5 → gF Iz 16 (w c) = nI (S (8 + 5 * c)) ∧ gF Iz 17 (w c) = nI (S (8 + 5 * c + 1)) ∧ gF Iz 18 (w c) = nI (S (8 + 5 * c + 2)) ∧ gF Iz 19 (w c) = nI (S (8 + 5 * c + 3)) ∧ gF Iz 20 (w c) = nI (S (8 + 5 * c + 4)) := fun c hcc => by
        rw [hF2 c hcc 16 (by omega), hF2 c hcc 17 (by omega), hF2 c hcc 18 (by omega), hF2 c hcc 19 (by omega), hF2 c hcc 20 (by omega)]
        exact hc.2.2.1 c hcc
      obtain ⟨X1, rs, xr, xq, xc⟩ := q_sortLast (fl := fl) (len := len) (I := Iz) (S := S) hfl hX hN hC hn l97 hB (t := t) (by omega) (fun c hcc => (hold c hcc).1) l16
      have d5 : D5 Iz (insS S (rkS S t (S 5)) t kd wh v) (fun c => w (sR (rkS S t (S 5)) (S 5) c)) := D5.ins hold hrn ⟨l16, l17, l18, l19, l20⟩
      have iv2 : Iv (insS S (rkS S t (S 5)) t kd wh v) K := hv.ins hn ht h4 rfl hk (by omega)
      refine Or.inl ⟨rkS S t (S 5), insS S (rkS S t (S 5)) t kd wh v, K, fun c => w (sR (rkS S t (S 5)) (S 5) c), Iz, X1, by omega, ?_, ?_, hc.cue hv hA hF (by rw [l97, ins_5]) d5 (fun j h1 h2 => ins_far hrn hn h1 h2), iv2, xc, xr, xq, fun X9 I9 J9 h144 h9 hM => ?_⟩
      · rw [m4_addCue_83, hc.2.1.1, if_pos (by rw [nI_leI (by omega) (by omega)]; exact h4), hX.1.2.1, nn_s, m6_insertCue, hc.2.1.2.1, if_neg (nI_nneg (by omega)), hX.1.2.2.2.2.2.2.2.1, nn_s, hN.1.2.1, if_pos (by rw [nI_ltI (by omega) (by omega)]; exact hn), ck_inb _ (by omega) (by omega), nI_clamp (by omega), q1, nn_s, lt_e, lt_e, lt_e, lt_e, lt_e, gF_f (f := 20) (g := 97) (by omega), gF_f (f := 19) (g := 97) (by omega), gF_f (f := 18) (g := 97) (by omega), gF_f (f := 17) (g := 97) (by omega), gF_f (f := 16) (g := 97) (by omega), hc.2.1.2.1, nI_k1, ← eI, lt_e, rs, nn_s]
        simp only
        rw [nn_s]
      · rw [eI]
        exact (((((Fr.rfl.pF (by omega) (by omega)).pF (by omega) (by omega)).pF (by omega) (by omega)).pF (by omega) (by omega)).pF (by omega) (by omega)).pF (by omega) (by omega)
      · show m9_cue_81 fl len X9 I9 q (nI t) (nI kd) (nI wh) (nI v) = _
        rw [m9_cue_81, h144, nn_s, hl, show (4 : Int32) = nI 4 from rfl, ck_inb _ (by omega) (by omega), nI_clamp (by omega), hM, if_pos (by rw [nI_leI (by omega) (by omega)]; exact h4), L5, ck_inb _ (by omega) (by omega), nI_clamp (by omega), hM, L24, if_neg (by rw [nI_eq (by omega) (by omega)]; omega), h9, nn_s, p_opens hfl h144 hl hB hn (by omega), nn_s]
        simp only
        exact p_lays h144 hl (by omega) (fun z => some (nI (rkS S t (S 5)), z))
    · refine Or.inr ⟨-4, by decide, ?_, fun X9 I9 h144 hM => ?_⟩
      · rw [m4_addCue_83, hc.2.1.1, if_pos (by rw [nI_leI (by omega) (by omega)]; exact h4), hX.1.2.1, nn_s, m6_insertCue, hc.2.1.2.1, if_neg (nI_nneg (by omega)), hX.1.2.2.2.2.2.2.2.1, nn_s, hN.1.2.1, if_neg (by rw [nI_ltI (by omega) (by omega)]; exact hn), m6_insertCue_19, nn_s]
      · show m9_cue_81 fl len X9 I9 q (nI t) (nI kd) (nI wh) (nI v) = _
        rw [m9_cue_81, h144, nn_s, hl, show (4 : Int32) = nI 4 from rfl, ck_inb _ (by omega) (by omega), nI_clamp (by omega), hM, if_pos (by rw [nI_leI (by omega) (by omega)]; exact h4), L5, ck_inb _ (by omega) (by omega), nI_clamp (by omega), hM, L24, if_pos (by rw [nI_eq (by omega) (by omega)]; omega)]
  · refine Or.inr ⟨-5, by decide, ?_, fun X9 I9 h144 hM => ?_⟩
    · rw [m4_addCue_83, hc.2.1.1, if_neg (by rw [nI_leI (by omega) (by omega)]; exact h4)]
    · show m9_cue_81 fl len X9 I9 q (nI t) (nI kd) (nI wh) (nI v) = _
      rw [m9_cue_81, h144, nn_s, hl, show (4 : Int32) = nI 4 from rfl, ck_inb _ (by omega) (by omega), nI_clamp (by omega), hM, if_neg (by rw [nI_leI (by omega) (by omega)]; exact h4)]
theorem OkX.cg {e8 e8' : Option (Int32 × Im × Xm)} {e9 e9' : Xm → Im → Option (Int32 × Im)} (h : OkX fl len X I p q S e8 e9) (h8 : e8' = e8) (h9 : ∀ X9 I9, gR X9 144 q = some (q + 1) → (∀ j, gA I9 (q + 1) j = nI (S j)) → e9' X9 I9 = e9 X9 I9) : OkX fl len X I p q S e8' e9' := by
  rcases h with ⟨v, S', K', w', I2, X2, a1, a2, a3, a4, a5, a6, a7, a8, a9⟩ | ⟨v, a1, a2, a3⟩
  · exact Or.inl ⟨v, S', K', w', I2, X2, a1, h8.trans a2, a3, a4, a5, a6, a7, a8, fun X9 I9 J9 y1 y2 y3 => (h9 X9 I9 y1 y3).trans (a9 X9 I9 J9 y1 y2 y3)⟩
  · exact Or.inr ⟨v, a1, h8.trans a2, fun X9 I9 y1 y2 => (h9 X9 I9 y1 y2).trans (a3 X9 I9 y1 y2)⟩
theorem OkX.no {e8 : Option (Int32 × Im × Xm)} {e9 : Xm → Im → Option (Int32 × Im)} {v : Int32} (hv : ¬ (0 : Int32) ≤ v) (h8 : e8 = some (v, I, X)) (h9 : ∀ X9 I9, gR X9 144 q = some (q + 1) → (∀ j, gA I9 (q + 1) j = nI (S j)) → e9 X9 I9 = some (v, I9)) : OkX fl len X I p q S e8 e9 := Or.inr ⟨v, hv, h8, h9⟩
theorem o_cue (hfl : 10000 ≤ fl) (hX : XS X p) (hN : LN len p) (hC : XC X p w) (hv : Iv S K) (hc : Cs I p S K w) (hl : len (q + 1) = 1620) (a1 a2 a3 a4 : Int32) :
    OkX fl len X I p q S (m4_addCue fl len X I p a1 a2 a3 a4) (fun X9 I9 => m9_cue fl len X9 I9 q a1 a2 a3 a4) := by
  have hm := hv.m6.2
  rcases rng a1 0 999 (by omega) (by omega) with ⟨t, -, ht, rfl⟩ | hb
  · have w1 : m8_within fl len X I (nI t) (0 : Int32) (999 : Int32) = some (1 : Int32) := q_withinl (a := 0) (n := 999) ht (Nat.zero_le _) (by omega)
    have m1 : ∀ X9 I9, m9_in fl len X9 I9 (nI t) (0 : Int32) (999 : Int32) = some (1 : Int32) := fun X9 I9 => p_inl1 (a := 0) (n := 999) ht (Nat.zero_le _) (by omega)
    rcases rng a2 0 2 (by omega) (by omega) with ⟨kd, -, hk, rfl⟩ | hb
    · have w2 : m8_within fl len X I (nI kd) (0 : Int32) (2 : Int32) = some (1 : Int32) := q_withinl (a := 0) (n := 2) hk (Nat.zero_le _) (by omega)
      have m2 : ∀ X9 I9, m9_in fl len X9 I9 (nI kd) (0 : Int32) (2 : Int32) = some (1 : Int32) := fun X9 I9 => p_inl1 (a := 0) (n := 2) hk (Nat.zero_le _) (by omega)
      rcases zc a3 4 (by omega) with ⟨wh, hw, rfl⟩ | hb
      · have w3 : m8_within fl len X I (nI wh) (0 : Int32) (3 : Int32) = some (1 : Int32) := q_withinl (a := 0) (n := 3) (by omega) (Nat.zero_le _) (by omega)
        have hRR := hc.2.2.2.2.2.2.1 wh hw
        have : kd = 0 ∨ kd = 1 ∨ kd = 2 := by omega
        rcases this with rfl | rfl | rfl
        · rcases zc a4 (S (128 + 4 * wh + 3)) (by have := hm wh hw; omega) with ⟨v, hv4, rfl⟩ | hb
          · have hm6 := hm wh hw
            refine (o_cueT (t := t) (kd := 0) (wh := wh) (v := v) hfl hX hN hC hv hc hl ht ⟨by omega, by omega, fun _ => hv4, fun h => by omega, fun h => by omega⟩ (by omega)).cg ?_ (fun X9 I9 h144 hM => ?_)
            · rw [m4_addCue, w1, nn_s, if_neg (by decide), w2, nn_s, if_neg (by decide), w3, nn_s, if_neg (by decide), if_pos (by decide), q_sAt hX hN hw hRR hm6 hv4, nn_s, if_neg (by simp), m4_addCue_48, if_neg (by decide), m4_addCue_64, if_neg (by decide)]
            · have es : m9_isSound fl len X9 I9 q (nI wh) (nI v) = some (1 : Int32) := by rw [← mS_self hM]; exact p_isSound1 h144 hl hw hv4 hm6
              show m9_cue fl len X9 I9 q (nI t) (nI 0) (nI wh) (nI v) = m9_cue_81 fl len X9 I9 q (nI t) (nI 0) (nI wh) (nI v)
              rw [m9_cue, m1, nn_s, if_neg (by decide), m2, nn_s, if_neg (by decide), p_isReel1 hw, nn_s, if_neg (by decide), if_pos (by decide), es, nn_s, if_neg (by decide), m9_cue_46, if_neg (by decide), m9_cue_62, if_neg (by decide)]
          · refine OkX.no (v := -1) (by decide) ?_ (fun X9 I9 h144 hM => ?_)
            · rw [m4_addCue, w1, nn_s, if_neg (by decide), w2, nn_s, if_neg (by decide), w3, nn_s, if_neg (by decide), if_pos (by decide), q_sAt0 hX hN hw hRR (hm wh hw) hb, nn_s, if_pos rfl]
              rfl
            · have es : m9_isSound fl len X9 I9 q (nI wh) a4 = some (0 : Int32) := by rw [← mS_self hM]; exact p_isSound0 h144 hl hw hb (hm wh hw)
              show m9_cue fl len X9 I9 q (nI t) (nI 0) (nI wh) a4 = _
              rw [m9_cue, m1, nn_s, if_neg (by decide), m2, nn_s, if_neg (by decide), p_isReel1 hw, nn_s, if_neg (by decide), if_pos (by decide), es, nn_s, if_pos (by decide)]
              rfl
        · rcases rng a4 1 99 (by omega) (by omega) with ⟨v, v1, v2, rfl⟩ | hb
          · refine (o_cueT (t := t) (kd := 1) (wh := wh) (v := v) hfl hX hN hC hv hc hl ht ⟨by omega, by omega, fun h => by omega, fun _ => ⟨v1, v2⟩, fun h => by omega⟩ (by omega)).cg ?_ (fun X9 I9 h144 hM => ?_)
            · rw [m4_addCue, w1, nn_s, if_neg (by decide), w2, nn_s, if_neg (by decide), w3, nn_s, if_neg (by decide), if_neg (by decide), m4_addCue_48, if_pos (by decide), L1, L99, q_withinl v2 v1 (by omega), nn_s, if_neg (by decide), m4_addCue_64, if_neg (by decide)]
            · show m9_cue fl len X9 I9 q (nI t) (nI 1) (nI wh) (nI v) = m9_cue_81 fl len X9 I9 q (nI t) (nI 1) (nI wh) (nI v)
              rw [m9_cue, m1, nn_s, if_neg (by decide), m2, nn_s, if_neg (by decide), p_isReel1 hw, nn_s, if_neg (by decide), if_neg (by decide), m9_cue_46, if_pos (by decide), L1, L99, p_inl1 v2 v1 (by omega), nn_s, if_neg (by decide), m9_cue_62, if_neg (by decide)]
          · refine OkX.no (v := -2) (by decide) ?_ (fun X9 I9 h144 hM => ?_)
            · rw [m4_addCue, w1, nn_s, if_neg (by decide), w2, nn_s, if_neg (by decide), w3, nn_s, if_neg (by decide), if_neg (by decide), m4_addCue_48, if_pos (by decide), L1, L99, q_within0 hb, nn_s, if_pos (by decide)]
              rfl
            · show m9_cue fl len X9 I9 q (nI t) (nI 1) (nI wh) a4 = _
              rw [m9_cue, m1, nn_s, if_neg (by decide), m2, nn_s, if_neg (by decide), p_isReel1 hw, nn_s, if_neg (by decide), if_neg (by decide), m9_cue_46, if_pos (by decide), L1, L99, p_in0 hb, nn_s, if_pos (by decide)]
              rfl
        · rcases rng a4 0 100 (by omega) (by omega) with ⟨v, v1, v2, rfl⟩ | hb
          · refine (o_cueT (t := t) (kd := 2) (wh := wh) (v := v) hfl hX hN hC hv hc hl ht ⟨by omega, by omega, fun h => by omega, fun h => by omega, fun h => v2⟩ (by omega)).cg ?_ (fun X9 I9 h144 hM => ?_)
            · rw [m4_addCue, w1, nn_s, if_neg (by decide), w2, nn_s, if_neg (by decide), w3, nn_s, if_neg (by decide), if_neg (by decide), m4_addCue_48, if_neg (by decide), m4_addCue_64, if_pos (by decide), L0, L100, q_withinl v2 v1 (by omega), nn_s, if_neg (by decide)]
            · show m9_cue fl len X9 I9 q (nI t) (nI 2) (nI wh) (nI v) = m9_cue_81 fl len X9 I9 q (nI t) (nI 2) (nI wh) (nI v)
              rw [m9_cue, m1, nn_s, if_neg (by decide), m2, nn_s, if_neg (by decide), p_isReel1 hw, nn_s, if_neg (by decide), if_neg (by decide), m9_cue_46, if_neg (by decide), m9_cue_62, if_pos (by decide), L0, L100, p_inl1 v2 v1 (by omega), nn_s, if_neg (by decide)]
          · refine OkX.no (v := -2) (by decide) ?_ (fun X9 I9 h144 hM => ?_)
            · rw [m4_addCue, w1, nn_s, if_neg (by decide), w2, nn_s, if_neg (by decide), w3, nn_s, if_neg (by decide), if_neg (by decide), m4_addCue_48, if_neg (by decide), m4_addCue_64, if_pos (by decide), L0, L100, q_within0 hb, nn_s, if_pos (by decide)]
              rfl
            · show m9_cue fl len X9 I9 q (nI t) (nI 2) (nI wh) a4 = _
              rw [m9_cue, m1, nn_s, if_neg (by decide), m2, nn_s, if_neg (by decide), p_isReel1 hw, nn_s, if_neg (by decide), if_neg (by decide), m9_cue_46, if_neg (by decide), m9_cue_62, if_pos (by decide), L0, L100, p_in0 hb, nn_s, if_pos (by decide)]
              rfl
      · have w3 : m8_within fl len X I a3 (0 : Int32) (3 : Int32) = some (0 : Int32) := q_withinb (n := 3) hb (by omega)
        refine OkX.no (v := -1) (by decide) ?_ (fun X9 I9 h144 hM => ?_)
        · rw [m4_addCue, w1, nn_s, if_neg (by decide), w2, nn_s, if_neg (by decide), w3, nn_s, if_pos (by decide)]
          rfl
        · show m9_cue fl len X9 I9 q (nI t) (nI kd) a3 a4 = _
          rw [m9_cue, m1, nn_s, if_neg (by decide), m2, nn_s, if_neg (by decide), p_isReel0 hb, nn_s, if_pos (by decide)]
          rfl
    · refine OkX.no (v := -2) (by decide) ?_ (fun X9 I9 h144 hM => ?_)
      · rw [m4_addCue, w1, nn_s, if_neg (by decide), L0, L2, q_within0 hb, nn_s, if_pos (by decide)]
        rfl
      · show m9_cue fl len X9 I9 q (nI t) a2 a3 a4 = _
        rw [m9_cue, m1, nn_s, if_neg (by decide), L0, L2, p_in0 hb, nn_s, if_pos (by decide)]
        rfl
  · refine OkX.no (v := -2) (by decide) ?_ (fun X9 I9 h144 hM => ?_)
    · rw [m4_addCue, L0, L999, q_within0 hb, nn_s, if_pos (by decide)]
      rfl
    · show m9_cue fl len X9 I9 q a1 a2 a3 a4 = _
      rw [m9_cue, L0, L999, p_in0 hb, nn_s, if_pos (by decide)]
      rfl
theorem st_cue (hfl : 10000 ≤ fl) (hL : LG len b) : St_cue fl len b (b + 799) (Rel b) := by
  intro I X a1 a2 a3 a4 ⟨sg, W, S, K, n, Hs, Hk, sv, Ss, Sk, t, tx, h⟩
  obtain ⟨I1, rh, fh, ch⟩ := q_hold hfl hL h
  have h1 := h.hold fh
  have p0 := h.1.2.2.2.1 0 (by omega)
  obtain ⟨hX, hC⟩ := h.1.2.2.2.2.2.1 _ p0.p
  obtain ⟨v, I2, X2, I3, X3, J, e8, er, e9, hr⟩ := OkX.done hfl hL h fh ch (o_cue (q := b + 799) hfl hX (hL.2.2 _ p0.p) hC h.2.1.1 h1.2.1.2.1 hL.2.1.1 a1 a2 a3 a4)
  refine ⟨v, I3, X3, J, ?_, e9, hr⟩
  rw [m8_cue, rh, nn_s, h.1.1.1, nn_s, e8, nn_s]
  simp only
  rw [er, nn_s]
/-! a cue is taken out -/
theorem o_takeOut (hfl : 10000 ≤ fl) (hX : XS X p) (hN : LN len p) (hC : XC X p w) (hv : Iv S K) (hc : Cs I p S K w) (hl : len (q + 1) = 1620) (a1 : Int32) :
    OkX fl len X I p q S (m6_removeCue fl len X I (p + 2) a1) (fun X9 I9 => m9_takeOut fl len X9 I9 q a1) := by
  have h5 := hv.m6.1
  have hB := hv.2.2.2.2.2.2.2.2
  rcases zc a1 (S 5) (by omega) with ⟨a, ha, rfl⟩ | hb
  · have hcue := q_cue (fl := fl) (len := len) hX hN hC h5 hc.2.1.2.1 ha
    have e20 := (hc.2.2.1 a ha).2.2.2.2
    have hst := (hv.2.2.1.1 a ha).2.2.2.1
    have hb4 := hB (8 + 5 * a + 4)
    have is1 : ∀ X9 I9, gR X9 144 q = some (q + 1) → (∀ j, gA I9 (q + 1) j = nI (S j)) → m9_isCue fl len X9 I9 q (nI a) = some (1 : Int32) ∧ m9_of fl len X9 I9 q (nI a) (4 : Int32) = some (nI (S (8 + 5 * a + 4))) := fun X9 I9 h144 hM => ⟨by rw [← mS_self hM]; exact p_isCue1 h144 hl ha h5, by rw [← mS_self hM, L4]; exact p_of h144 hl (by omega) (by omega)⟩
    by_cases h0 : S (8 + 5 * a + 4) = 0
    · have hK := hst.mp h0
      obtain ⟨X1, rm, xr, xq, xc⟩ := q_makeLast (fl := fl) (len := len) (I := I) hfl hX hN hC h5 ha hc.2.1.2.1
      refine Or.inl ⟨S 5 - 1, clS S a, K, fun c => w (sL a (S 5 - 1) c), pF I 97 (p + 2) (nI (S 5 - 1)), X1, by omega, ?_, Fr.rfl.pF (by omega) (by omega), hc.cue hv (fun _ _ => rfl) (fun f a' _ h97 => gF_f h97) (by rw [gF_s, cl_5]) ?_ (fun j h1 h2 => cl_far h5 h1 h2), hv.cl ha hK, xc, xr, xq, fun X9 I9 J9 h144 h9 hM => ?_⟩
      · rw [m6_removeCue, hcue, nn_s, if_neg (by simp), nn_s, e20, if_pos (by rw [h0]; rfl), rm, nn_s, hc.2.1.2.1, L1, nI_sub (by omega), lt_e, gF_s]
      · exact (D5.cl hc.2.2.1 ha).to (fun f a' h1 h2 => gF_f (by omega)) rfl (by rw [cl_5]; omega) (fun _ _ _ => rfl)
      · obtain ⟨i1, i2⟩ := is1 X9 I9 h144 hM
        show m9_takeOut fl len X9 I9 q (nI a) = _
        rw [m9_takeOut, i1, nn_s, if_neg (by decide), i2, nn_s, if_pos (by rw [h0]; rfl), h9, nn_s, p_closes hfl h144 hl h5 ha, nn_s, h144, nn_s, hl, L5, ck_inb _ (by omega) (by omega), nI_clamp (by omega), gA_mS, cl_5]
    · refine OkX.no (v := -5) (by decide) ?_ (fun X9 I9 h144 hM => ?_)
      · rw [m6_removeCue, hcue, nn_s, if_neg (by simp), nn_s, e20, if_neg (by rw [L0, nI_eq (by omega) (by omega)]; exact h0)]
      · obtain ⟨i1, i2⟩ := is1 X9 I9 h144 hM
        show m9_takeOut fl len X9 I9 q (nI a) = _
        rw [m9_takeOut, i1, nn_s, if_neg (by decide), i2, nn_s, if_neg (by rw [L0, nI_eq (by omega) (by omega)]; exact h0)]
  · refine OkX.no (v := -1) (by decide) ?_ (fun X9 I9 h144 hM => ?_)
    · rw [m6_removeCue, q_cue0 hc.2.1.2.1 hb, nn_s, if_pos rfl]
    · have i0 : m9_isCue fl len X9 I9 q a1 = some (0 : Int32) := by rw [← mS_self hM]; exact p_isCue0 h144 hl hb h5
      show m9_takeOut fl len X9 I9 q a1 = _
      rw [m9_takeOut, i0, nn_s, if_pos (by decide)]
theorem st_takeOut (hfl : 10000 ≤ fl) (hL : LG len b) : St_takeOut fl len b (b + 799) (Rel b) := by
  intro I X a1 ⟨sg, W, S, K, n, Hs, Hk, sv, Ss, Sk, t, tx, h⟩
  obtain ⟨I1, rh, fh, ch⟩ := q_hold hfl hL h
  have h1 := h.hold fh
  have p0 := h.1.2.2.2.1 0 (by omega)
  obtain ⟨hX, hC⟩ := h.1.2.2.2.2.2.1 _ p0.p
  obtain ⟨v, I2, X2, I3, X3, J, e8, er, e9, hr⟩ := OkX.done hfl hL h fh ch (o_takeOut (q := b + 799) hfl hX (hL.2.2 _ p0.p) hC h.2.1.1 h1.2.1.2.1 hL.2.1.1 a1)
  refine ⟨v, I3, X3, J, ?_, e9, hr⟩
  rw [m8_takeOut, rh, nn_s, h.1.1.1, nn_s, hX.1.2.1, nn_s, e8, nn_s]
  simp only
  rw [er, nn_s]
end RK
