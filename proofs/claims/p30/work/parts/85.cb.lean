/-! ===== the class alone: cue, takeOut, move, becomes ===== -/
section CB
variable {fl : Nat} {len : Nat → Nat} {X X2 : Xm} {I I1 I2 : Im} {p b : Nat} {S S' : Nat → Nat} {K K' n : Nat} {w w' : Nat → Nat} {sg : Nat → Nat} {W : Nat → Nat → Nat}
/-- what a call on the play's script comes to -/
def Ok8 (e : Option (Int32 × Im × Xm)) (X : Xm) (I : Im) (p : Nat) (S' : Nat → Nat) (K' v : Nat) : Prop := ∃ w' I2 X2, e = some (nI v, I2, X2) ∧ Fr p I I2 ∧ Cs I2 p S' K' w' ∧ Iv S' K' ∧ XC X2 p w' ∧ (∀ f a, gR X2 f a = gR X f a) ∧ (∀ a j, a ≠ p + 3 → gQ X2 a j = gQ X a j)
theorem Ok8.done {e : Option (Int32 × Im × Xm)} {v : Nat} (hfl : 10000 ≤ fl) (hL : LG len b) (h : RC I X b sg W S K n) (hv : v < 2 ^ 31) (ho : Ok8 e X I (sg 0) S' K' v) : ∃ I2 X2 I3 X3, e = some (nI v, I2, X2) ∧ m8_recorded fl len X2 I2 b (nI v) = some (nI v, I3, X3) ∧ Fo b I I3 ∧ Cl I3 X3 b S' K' := by
  obtain ⟨w', I2, X2, e8, f2, c2, iv2, xc, xr, xq⟩ := ho
  obtain ⟨I3, X3, rr, fo, hc⟩ := r_rec (v := v) (X2 := X2) hfl hL h f2 c2 iv2 xr xq xc hv
  exact ⟨I2, X2, I3, X3, e8, rr, fo, hc⟩
theorem o_cueC (hfl : 10000 ≤ fl) (hX : XS X p) (hN : LN len p) (hC : XC X p w) (hv : Iv S K) (hc : Cs I p S K w) {t kd wh v : Nat} (ht : t ≤ 999) (hk : okV S kd wh v) (hb : v < 10000) :
    (S 4 ≤ t → S 5 < 24 → Ok8 (m4_addCue_83 fl len I X p (nI t) (nI kd) (nI wh) (nI v)) X I p (insS S (rkS S t (S 5)) t kd wh v) K (rkS S t (S 5))) ∧ (S 4 ≤ t → ¬ S 5 < 24 → m4_addCue_83 fl len I X p (nI t) (nI kd) (nI wh) (nI v) = some (-4, I, X)) ∧ (¬ S 4 ≤ t → m4_addCue_83 fl len I X p (nI t) (nI kd) (nI wh) (nI v) = some (-5, I, X)) := by
  have h5 := hv.m6.1
  have h4l := hv.2.1.1
  have hB := hv.2.2.2.2.2.2.2.2
  refine ⟨fun h4 hn => ?_, fun h4 hn => ?_, fun h4 => ?_⟩
  · have hrn := rkS_le S t (S 5)
    obtain ⟨Iz, eI⟩ : ∃ y, y = pF (pF (pF (pF (pF (pF I 16 (w (S 5)) (nI t)) 17 (w (S 5)) (nI kd)) 18 (w (S 5)) (nI wh)) 19 (w (S 5)) (nI v)) 20 (w (S 5)) (0 : Int32)) 97 (p + 2) (nI (S 5 + 1)) := ⟨_, rfl⟩
    obtain ⟨q1, q2, q3⟩ := hC (S 5) hn
    have hA : ∀ a j, gA Iz a j = gA I a j := fun a j => by rw [eI]; rfl
    have hF : ∀ f a, (f < 16 ∨ 20 < f) → f ≠ 97 → gF Iz f a = gF I f a := fun f a hf h97 => by rw [eI, gF_f h97, gF_f (by omega), gF_f (by omega), gF_f (by omega), gF_f (by omega), gF_f (by omega)]
    have hF2 : ∀ c, c < S 5 → ∀ f, f ≠ 97 → gF Iz f (w c) = gF I f (w c) := fun c hcc f h97 => by
      have hne : w c ≠ w (S 5) := fun e => by have := (hC c (by omega)).2.2 (S 5) hn e; omega
      rw [eI, gF_f h97, gF_a hne, gF_a hne, gF_a hne, gF_a hne, gF_a hne]
    have l16 : gF Iz 16 (w (S 5)) = nI t := by rw [eI, gF_f (by omega), gF_f (by omega), gF_f (by omega), gF_f (by omega), gF_f (by omega), gF_s]
    have l17 : gF Iz 17 (w (S 5)) = nI kd := by rw [eI, gF_f (by omega), gF_f (by omega), gF_f (by omega), gF_f (by omega), gF_s]
    have l18 : gF Iz 18 (w (S 5)) = nI wh := by rw [eI, gF_f (by omega), gF_f (by omega), gF_f (by omega), gF_s]
    have l19 : gF Iz 19 (w (S 5)) = nI v := by rw [eI, gF_f (by omega), gF_f (by omega), gF_s]
    have l20 : gF Iz 20 (w (S 5)) = nI 0 := by rw [eI, gF_f (by omega), gF_s]; rfl
    have l97 : gF Iz 97 (p + 2) = nI (S 5 + 1) := by rw [eI, gF_s]
    have hold : ∀ c, c < S 5 → gF Iz 16 (w c) = nI (S (8 + 5 * c)) ∧ gF Iz 17 (w c) = nI (S (8 + 5 * c + 1)) ∧ gF Iz 18 (w c) = nI (S (8 + 5 * c + 2)) ∧ gF Iz 19 (w c) = nI (S (8 + 5 * c + 3)) ∧ gF Iz 20 (w c) = nI (S (8 + 5 * c + 4)) := fun c hcc => by
      rw [hF2 c hcc 16 (by omega), hF2 c hcc 17 (by omega), hF2 c hcc 18 (by omega), hF2 c hcc 19 (by omega), hF2 c hcc 20 (by omega)]
      exact hc.2.2.1 c hcc
    obtain ⟨X1, rs, xr, xq, xc⟩ := q_sortLast (fl := fl) (len := len) (I := Iz) (S := S) hfl hX hN hC hn l97 hB (t := t) (by omega) (fun c hcc => (hold c hcc).1) l16
    have d5 : D5 Iz (insS S (rkS S t (S 5)) t kd wh v) (fun c => w (sR (rkS S t (S 5)) (S 5) c)) := D5.ins hold hrn ⟨l16, l17, l18, l19, l20⟩
    have iv2 : Iv (insS S (rkS S t (S 5)) t kd wh v) K := hv.ins hn ht h4 rfl hk (by omega)
    refine ⟨fun c => w (sR (rkS S t (S 5)) (S 5) c), Iz, X1, ?_, ?_, hc.cue hv hA hF (by rw [l97, ins_5]) d5 (fun j h1 h2 => ins_far hrn hn h1 h2), iv2, xc, xr, xq⟩
    · rw [m4_addCue_83, hc.2.1.1, if_pos (by rw [nI_leI (by omega) (by omega)]; exact h4), hX.1.2.1, nn_s, m6_insertCue, hc.2.1.2.1, if_neg (nI_nneg (by omega)), hX.1.2.2.2.2.2.2.2.1, nn_s, hN.1.2.1, if_pos (by rw [nI_ltI (by omega) (by omega)]; exact hn), ck_inb _ (by omega) (by omega), nI_clamp (by omega), q1, nn_s, lt_e, lt_e, lt_e, lt_e, lt_e, gF_f (f := 20) (g := 97) (by omega), gF_f (f := 19) (g := 97) (by omega), gF_f (f := 18) (g := 97) (by omega), gF_f (f := 17) (g := 97) (by omega), gF_f (f := 16) (g := 97) (by omega), hc.2.1.2.1, nI_k1, ← eI, lt_e, rs, nn_s]
      simp only
      rw [nn_s]
    · rw [eI]
      exact (((((Fr.rfl.pF (by omega) (by omega)).pF (by omega) (by omega)).pF (by omega) (by omega)).pF (by omega) (by omega)).pF (by omega) (by omega)).pF (by omega) (by omega)
  · rw [m4_addCue_83, hc.2.1.1, if_pos (by rw [nI_leI (by omega) (by omega)]; exact h4), hX.1.2.1, nn_s, m6_insertCue, hc.2.1.2.1, if_neg (nI_nneg (by omega)), hX.1.2.2.2.2.2.2.2.1, nn_s, hN.1.2.1, if_neg (by rw [nI_ltI (by omega) (by omega)]; exact hn), m6_insertCue_19, nn_s]
  · rw [m4_addCue_83, hc.2.1.1, if_neg (by rw [nI_leI (by omega) (by omega)]; exact h4)]
/-- the errors that are checked ahead -/
theorem o_cueP (hX : XS X p) (hN : LN len p) (hv : Iv S K) (hc : Cs I p S K w) {t kd wh v : Nat} (ht : t ≤ 999) (hkd : kd ≤ 2) (hwh : wh < 4) (h1 : kd = 1 → 1 ≤ v ∧ v ≤ 99) (h2 : kd = 2 → v ≤ 100) (hb : v < 10000) :
    m4_addCue fl len X I p (nI t) (nI kd) (nI wh) (nI v) = if kd = 0 ∧ ¬ v < S (128 + 4 * wh + 3) then some (-1, I, X) else m4_addCue_83 fl len I X p (nI t) (nI kd) (nI wh) (nI v) := by
  have hm := hv.m6.2 wh hwh
  have w1 : m8_within fl len X I (nI t) (0 : Int32) (999 : Int32) = some (1 : Int32) := q_withinl (a := 0) (n := 999) ht (Nat.zero_le _) (by omega)
  have w2 : m8_within fl len X I (nI kd) (0 : Int32) (2 : Int32) = some (1 : Int32) := q_withinl (a := 0) (n := 2) hkd (Nat.zero_le _) (by omega)
  have w3 : m8_within fl len X I (nI wh) (0 : Int32) (3 : Int32) = some (1 : Int32) := q_withinl (a := 0) (n := 3) (by omega) (Nat.zero_le _) (by omega)
  have hRR := hc.2.2.2.2.2.2.1 wh hwh
  have : kd = 0 ∨ kd = 1 ∨ kd = 2 := by omega
  rcases this with rfl | rfl | rfl
  · by_cases hv4 : v < S (128 + 4 * wh + 3)
    · rw [if_neg (by omega), m4_addCue, w1, nn_s, if_neg (by decide), w2, nn_s, if_neg (by decide), w3, nn_s, if_neg (by decide), if_pos (by decide), q_sAt hX hN hwh hRR hm hv4, nn_s, if_neg (by simp), m4_addCue_48, if_neg (by decide), m4_addCue_64, if_neg (by decide)]
    · have hbad : bad (S (128 + 4 * wh + 3)) (nI v) := Or.inr ⟨nI_nneg (by omega), by rw [nI_leI (by omega) (by omega)]; omega⟩
      rw [if_pos ⟨rfl, hv4⟩, m4_addCue, w1, nn_s, if_neg (by decide), w2, nn_s, if_neg (by decide), w3, nn_s, if_neg (by decide), if_pos (by decide), q_sAt0 hX hN hwh hRR hm hbad, nn_s, if_pos rfl]
      rfl
  · rw [if_neg (by omega), m4_addCue, w1, nn_s, if_neg (by decide), w2, nn_s, if_neg (by decide), w3, nn_s, if_neg (by decide), if_neg (by decide), m4_addCue_48, if_pos (by decide), L1, L99, q_withinl (h1 rfl).2 (h1 rfl).1 (by omega), nn_s, if_neg (by decide), m4_addCue_64, if_neg (by decide)]
  · rw [if_neg (by omega), m4_addCue, w1, nn_s, if_neg (by decide), w2, nn_s, if_neg (by decide), w3, nn_s, if_neg (by decide), if_neg (by decide), m4_addCue_48, if_neg (by decide), m4_addCue_64, if_pos (by decide), L0, L100, q_withinl (h2 rfl) (Nat.zero_le _) (by omega), nn_s, if_neg (by decide)]
/-- a cue comes in, or it is refused -/
def cueV (S : Nat → Nat) (t kd wh v : Nat) : Int32 := if kd = 0 ∧ ¬ v < S (128 + 4 * wh + 3) then -1 else if ¬ S 4 ≤ t then -5 else if ¬ S 5 < 24 then -4 else nI (rkS S t (S 5))
def cueS (S : Nat → Nat) (t kd wh v : Nat) : Nat → Nat := if kd = 0 ∧ ¬ v < S (128 + 4 * wh + 3) then S else if ¬ S 4 ≤ t then S else if ¬ S 5 < 24 then S else insS S (rkS S t (S 5)) t kd wh v
theorem k_cue (hfl : 10000 ≤ fl) (hL : LG len b) (h : Cl I X b S K) {t kd wh v : Nat} (ht : t ≤ 999) (hkd : kd ≤ 2) (hwh : wh < 4) (h1 : kd = 1 → 1 ≤ v ∧ v ≤ 99) (h2 : kd = 2 → v ≤ 100) (hb : v < 10000) :
    Did (m8_cue fl len X I b (nI t) (nI kd) (nI wh) (nI v)) I b (cueS S t kd wh v) K (cueV S t kd wh v) := by
  obtain ⟨sg, W, n, h⟩ := h
  obtain ⟨I1, rh, fo1, hh⟩ := r_hold hfl hL h
  obtain ⟨x128, p0, hX, hN, hC, hv, hc⟩ := hh.at hL
  have ep := o_cueP (fl := fl) (len := len) hX hN hv hc ht hkd hwh h1 h2 hb
  have neg : ∀ v' : Int32, ¬ (0 : Int32) ≤ v' → m4_addCue fl len X I1 (sg 0) (nI t) (nI kd) (nI wh) (nI v) = some (v', I1, X) → Did (m8_cue fl len X I b (nI t) (nI kd) (nI wh) (nI v)) I b S K v' := by
    intro v' hn' e
    refine ⟨I1, X, ?_, fo1, sg, W, n, hh⟩
    rw [m8_cue, rh, nn_s, x128, nn_s, e, nn_s]
    simp only
    rw [q_recneg hn', nn_s]
  unfold cueS cueV
  by_cases hno : kd = 0 ∧ ¬ v < S (128 + 4 * wh + 3)
  · rw [if_pos hno] at ep
    rw [if_pos hno, if_pos hno]
    exact neg _ (by decide) ep
  · rw [if_neg hno] at ep
    rw [if_neg hno, if_neg hno]
    have hk : okV S kd wh v := ⟨hkd, by omega, fun h0 => by
      by_cases q : v < S (128 + 4 * wh + 3)
      · exact q
      · exact absurd ⟨h0, q⟩ hno, h1, h2⟩
    obtain ⟨a1, a2, a3⟩ := o_cueC (fl := fl) (len := len) hfl hX hN hC hv hc ht hk hb
    by_cases h4 : S 4 ≤ t
    · rw [if_neg (show ¬ ¬ S 4 ≤ t from fun q => q h4), if_neg (show ¬ ¬ S 4 ≤ t from fun q => q h4)]
      by_cases hn : S 5 < 24
      · rw [if_neg (show ¬ ¬ S 5 < 24 from fun q => q hn), if_neg (show ¬ ¬ S 5 < 24 from fun q => q hn)]
        have hrn := rkS_le S t (S 5)
        obtain ⟨I2, X2, I3, X3, e8, er, fo, hcl⟩ := (a1 h4 hn).done hfl hL hh (by omega)
        refine ⟨I3, X3, ?_, fo1.trans fo, hcl⟩
        rw [m8_cue, rh, nn_s, x128, nn_s, ep, e8, nn_s]
        simp only
        rw [er, nn_s]
      · rw [if_pos hn, if_pos hn]
        exact neg _ (by decide) (ep.trans (a2 h4 hn))
    · rw [if_pos h4, if_pos h4]
      exact neg _ (by decide) (ep.trans (a3 h4))
/-- a second that can't be -/
theorem k_cueB (hfl : 10000 ≤ fl) (hL : LG len b) (h : Cl I X b S K) {z a2 a3 a4 : Int32} (hz : ¬ (nI 0 ≤ z ∧ z ≤ nI 999)) : Did (m8_cue fl len X I b z a2 a3 a4) I b S K (-2) := by
  obtain ⟨sg, W, n, h⟩ := h
  obtain ⟨I1, rh, fo1, hh⟩ := r_hold hfl hL h
  obtain ⟨x128, p0, hX, hN, hC, hv, hc⟩ := hh.at hL
  refine ⟨I1, X, ?_, fo1, sg, W, n, hh⟩
  have e : m4_addCue fl len X I1 (sg 0) z a2 a3 a4 = some (-2, I1, X) := by
    rw [m4_addCue, L0, L999, q_within0 hz, nn_s, if_pos (by decide)]
    rfl
  rw [m8_cue, rh, nn_s, x128, nn_s, e, nn_s]
  simp only
  rw [q_recneg (by decide), nn_s]
/-! takeOut -/
theorem k_take (hfl : 10000 ≤ fl) (hL : LG len b) (h : Cl I X b S K) {a : Nat} (ha : a < S 5) : (S (8 + 5 * a + 4) = 0 → Did (m8_takeOut fl len X I b (nI a)) I b (clS S a) K (nI (S 5 - 1))) ∧ (¬ S (8 + 5 * a + 4) = 0 → Did (m8_takeOut fl len X I b (nI a)) I b S K (-5)) := by
  obtain ⟨sg, W, n, h⟩ := h
  obtain ⟨I1, rh, fo1, hh⟩ := r_hold hfl hL h
  obtain ⟨x128, p0, hX, hN, hC, hv, hc⟩ := hh.at hL
  have h5 := hv.m6.1
  have hB := hv.2.2.2.2.2.2.2.2
  have hcue := q_cue (fl := fl) (len := len) hX hN hC h5 hc.2.1.2.1 ha
  have e20 := (hc.2.2.1 a ha).2.2.2.2
  have hst := (hv.2.2.1.1 a ha).2.2.2.1
  have hb4 := hB (8 + 5 * a + 4)
  refine ⟨fun h0 => ?_, fun h0 => ?_⟩
  · have hK := hst.mp h0
    obtain ⟨X1, rm, xr, xq, xc⟩ := q_makeLast (fl := fl) (len := len) (I := I1) hfl hX hN hC h5 ha hc.2.1.2.1
    have ok : Ok8 (m6_removeCue fl len X I1 (sg 0 + 2) (nI a)) X I1 (sg 0) (clS S a) K (S 5 - 1) := by
      refine ⟨fun c => W (sg 0) (sL a (S 5 - 1) c), pF I1 97 (sg 0 + 2) (nI (S 5 - 1)), X1, ?_, Fr.rfl.pF (by omega) (by omega), hc.cue hv (fun _ _ => rfl) (fun f a' _ h97 => gF_f h97) (by rw [gF_s, cl_5]) ?_ (fun j h1 h2 => cl_far h5 h1 h2), hv.cl ha hK, xc, xr, xq⟩
      · rw [m6_removeCue, hcue, nn_s, if_neg (by simp), nn_s, e20, if_pos (by rw [h0]; rfl), rm, nn_s, hc.2.1.2.1, L1, nI_sub (by omega), lt_e, gF_s]
      · exact (D5.cl hc.2.2.1 ha).to (fun f a' h1 h2 => gF_f (by omega)) rfl (by rw [cl_5]; omega) (fun _ _ _ => rfl)
    obtain ⟨I2, X2, I3, X3, e8, er, fo, hcl⟩ := ok.done hfl hL hh (by omega)
    refine ⟨I3, X3, ?_, fo1.trans fo, hcl⟩
    rw [m8_takeOut, rh, nn_s, x128, nn_s, hX.1.2.1, nn_s, e8, nn_s]
    simp only
    rw [er, nn_s]
  · refine ⟨I1, X, ?_, fo1, sg, W, n, hh⟩
    have e : m6_removeCue fl len X I1 (sg 0 + 2) (nI a) = some (-5, I1, X) := by
      rw [m6_removeCue, hcue, nn_s, if_neg (by simp), nn_s, e20, if_neg (by rw [L0, nI_eq (by omega) (by omega)]; exact h0)]
    rw [m8_takeOut, rh, nn_s, x128, nn_s, hX.1.2.1, nn_s, e, nn_s]
    simp only
    rw [q_recneg (by decide), nn_s]
theorem k_take0 (hfl : 10000 ≤ fl) (hL : LG len b) (h : Cl I X b S K) (h0 : S 5 = 0) : Did (m8_takeOut fl len X I b (nI 0)) I b S K (-1) := by
  obtain ⟨sg, W, n, h⟩ := h
  obtain ⟨I1, rh, fo1, hh⟩ := r_hold hfl hL h
  obtain ⟨x128, p0, hX, hN, hC, hv, hc⟩ := hh.at hL
  refine ⟨I1, X, ?_, fo1, sg, W, n, hh⟩
  have e : m6_removeCue fl len X I1 (sg 0 + 2) (nI 0) = some (-1, I1, X) := by
    rw [m6_removeCue, q_cue0 hc.2.1.2.1 (Or.inr ⟨by decide, by rw [h0]; exact Int32.le_refl _⟩), nn_s, if_pos rfl]
  rw [m8_takeOut, rh, nn_s, x128, nn_s, hX.1.2.1, nn_s, e, nn_s]
  simp only
  rw [q_recneg (by decide), nn_s]
/-! move -/
def mvV (S : Nat → Nat) (a t : Nat) : Nat := rkS (clS S a) t (S 5 - 1)
def mvS (S : Nat → Nat) (a t : Nat) : Nat → Nat := insS (clS S a) (mvV S a t) t (S (8 + 5 * a + 1)) (S (8 + 5 * a + 2)) (S (8 + 5 * a + 3))
theorem o_mvC (hfl : 10000 ≤ fl) (hX : XS X p) (hN : LN len p) (hC : XC X p w) (hv : Iv S K) (hc : Cs I p S K w) {a t : Nat} (ha : a < S 5) (ht : t ≤ 999) :
    (S (8 + 5 * a + 4) = 0 ∧ S 4 ≤ t → Ok8 (m4_moveCue fl len X I p (nI a) (nI t)) X I p (mvS S a t) K (mvV S a t)) ∧ (¬ (S (8 + 5 * a + 4) = 0 ∧ S 4 ≤ t) → m4_moveCue fl len X I p (nI a) (nI t) = some (-5, I, X)) := by
  have h5 := hv.m6.1
  have h4l := hv.2.1.1
  have hB := hv.2.2.2.2.2.2.2.2
  have hcue := q_cue (fl := fl) (len := len) hX hN hC h5 hc.2.1.2.1 ha
  obtain ⟨e16, e17, e18, e19, e20⟩ := hc.2.2.1 a ha
  have hh := hv.2.2.1.1 a ha
  have hst := hh.2.2.2.1
  have hb4 := hB (8 + 5 * a + 4)
  have w1 : m8_within fl len X I (nI t) (0 : Int32) (999 : Int32) = some (1 : Int32) := q_withinl (a := 0) (n := 999) ht (Nat.zero_le _) (by omega)
  refine ⟨fun hq => ?_, fun hq => ?_⟩
  · obtain ⟨h0, h4⟩ := hq
    unfold mvS mvV
    have hK := hst.mp h0
    obtain ⟨X1, rm, xr, xq, xc⟩ := q_makeLast (fl := fl) (len := len) (I := I) hfl hX hN hC h5 ha hc.2.1.2.1
    have hX1 : XS X1 p := hX.to xr (fun b j h1 h2 => xq b j (by omega))
    have iv1 := hv.cl ha hK
    have c5 : clS S a 5 = S 5 - 1 := cl_5
    have hB1 := iv1.2.2.2.2.2.2.2.2
    have hne : ∀ c, c < S 5 - 1 → w (sL a (S 5 - 1) c) ≠ w a := fun c hcc e => by
      have h1 := (hC (sL a (S 5 - 1) c) (sL_lt (by omega) (by omega) (by omega))).2.2 a (by omega) e
      unfold sL at h1
      rw [if_neg (by omega)] at h1
      split at h1 <;> omega
    have elast : w (sL a (S 5 - 1) (S 5 - 1)) = w a := by
      unfold sL
      rw [if_pos rfl]
    obtain ⟨Iz, eI⟩ : ∃ y, y = pF I 16 (w a) (nI t) := ⟨_, rfl⟩
    have d5c := D5.cl hc.2.2.1 ha
    have hold : ∀ c, c < S 5 - 1 → gF Iz 16 (w (sL a (S 5 - 1) c)) = nI (clS S a (8 + 5 * c)) ∧ gF Iz 17 (w (sL a (S 5 - 1) c)) = nI (clS S a (8 + 5 * c + 1)) ∧ gF Iz 18 (w (sL a (S 5 - 1) c)) = nI (clS S a (8 + 5 * c + 2)) ∧ gF Iz 19 (w (sL a (S 5 - 1) c)) = nI (clS S a (8 + 5 * c + 3)) ∧ gF Iz 20 (w (sL a (S 5 - 1) c)) = nI (clS S a (8 + 5 * c + 4)) := fun c hcc => by
      have e := d5c c (by rw [c5]; exact hcc)
      rw [eI, gF_a (hne c hcc), gF_a (hne c hcc), gF_a (hne c hcc), gF_a (hne c hcc), gF_a (hne c hcc)]
      exact e
    have h97 : gF Iz 97 (p + 2) = nI (S 5) := by rw [eI, gF_f (by omega)]; exact hc.2.1.2.1
    obtain ⟨X2, rs, xr2, xq2, xc2⟩ := q_sortLast (fl := fl) (len := len) (I := Iz) (S := clS S a) (m := S 5 - 1) hfl hX1 hN xc (by omega) (by rw [h97, show S 5 - 1 + 1 = S 5 by omega]) hB1 (t := t) (by omega) (fun c hcc => (hold c hcc).1) (by rw [elast, eI, gF_s])
    have hrn := rkS_le (clS S a) t (S 5 - 1)
    have d5 := D5.ins (S := clS S a) (w := fun c => w (sL a (S 5 - 1) c)) (I := Iz) (r := rkS (clS S a) t (S 5 - 1)) (t := t) (kd := S (8 + 5 * a + 1)) (wh := S (8 + 5 * a + 2)) (v := S (8 + 5 * a + 3)) (by rw [c5]; exact hold) (by rw [c5]; exact hrn) (by
      rw [c5, elast, eI, gF_s, gF_f (by omega), gF_f (by omega), gF_f (by omega), gF_f (by omega), e20, h0]
      exact ⟨rfl, e17, e18, e19, rfl⟩)
    have cf : ∀ j, j ≠ 5 → (j < 8 ∨ 128 ≤ j) → clS S a j = S j := fun j h1 h2 => cl_far h5 h1 h2
    have iv2 := iv1.ins (r := rkS (clS S a) t (S 5 - 1)) (t := t) (kd := S (8 + 5 * a + 1)) (wh := S (8 + 5 * a + 2)) (v := S (8 + 5 * a + 3)) (by omega) ht (by rw [cf 4 (by omega) (by omega)]; exact h4) (by rw [c5]) (hh.2.1.to fun r hr => cf _ (by omega) (by omega)) (hB _)
    refine ⟨_, Iz, X2, ?_, ?_, hc.cue hv ?_ ?_ ?_ d5 ?_, iv2, ?_, ?_, ?_⟩
    · rw [m4_moveCue, hX.1.2.1, nn_s, hcue, nn_s, if_neg (by simp), w1, nn_s, if_neg (by decide), nn_s, e20, if_pos (by rw [h0]; rfl), hc.2.1.1, if_pos (by rw [nI_leI (by omega) (by omega)]; exact h4), rm, nn_s, ← eI, lt_e, xr, hX.1.2.1, nn_s, rs, nn_s]
    · rw [eI]
      have := (hC a (by omega)).2.1
      exact Fr.rfl.pF (by omega) (by omega)
    · intro a' j; rw [eI]; rfl
    · intro f a' hf h97'; rw [eI, gF_f (by omega)]
    · rw [h97, ins_5, c5, show S 5 - 1 + 1 = S 5 by omega]
    · intro j h1 h2
      rw [ins_far (by rw [c5]; exact hrn) (by omega) h1 h2]
      exact cf j h1 h2
    · rw [c5]; exact xc2
    · intro f a'; rw [xr2, xr]
    · intro a' j h1; rw [xq2 a' j h1, xq a' j h1]
  · by_cases h0 : S (8 + 5 * a + 4) = 0
    · have h4 : ¬ S 4 ≤ t := fun q => hq ⟨h0, q⟩
      rw [m4_moveCue, hX.1.2.1, nn_s, hcue, nn_s, if_neg (by simp), w1, nn_s, if_neg (by decide), nn_s, e20, if_pos (by rw [h0]; rfl), hc.2.1.1, if_neg (by rw [nI_leI (by omega) (by omega)]; exact h4)]
      rfl
    · rw [m4_moveCue, hX.1.2.1, nn_s, hcue, nn_s, if_neg (by simp), w1, nn_s, if_neg (by decide), nn_s, e20, if_neg (by rw [L0, nI_eq (by omega) (by omega)]; exact h0)]
      rfl
theorem k_move (hfl : 10000 ≤ fl) (hL : LG len b) (h : Cl I X b S K) {a t : Nat} (ha : a < S 5) (ht : t ≤ 999) : (S (8 + 5 * a + 4) = 0 ∧ S 4 ≤ t → Did (m8_move fl len X I b (nI a) (nI t)) I b (mvS S a t) K (nI (mvV S a t))) ∧ (¬ (S (8 + 5 * a + 4) = 0 ∧ S 4 ≤ t) → Did (m8_move fl len X I b (nI a) (nI t)) I b S K (-5)) := by
  obtain ⟨sg, W, n, h⟩ := h
  obtain ⟨I1, rh, fo1, hh⟩ := r_hold hfl hL h
  obtain ⟨x128, p0, hX, hN, hC, hv, hc⟩ := hh.at hL
  have h5 := hv.m6.1
  obtain ⟨a1, a2⟩ := o_mvC (fl := fl) (len := len) hfl hX hN hC hv hc ha ht
  refine ⟨fun hq => ?_, fun hq => ?_⟩
  · have hrn := rkS_le (clS S a) t (S 5 - 1)
    obtain ⟨I2, X2, I3, X3, e8, er, fo, hcl⟩ := (a1 hq).done hfl hL hh (by unfold mvV; omega)
    refine ⟨I3, X3, ?_, fo1.trans fo, hcl⟩
    rw [m8_move, rh, nn_s, x128, nn_s, e8, nn_s]
    simp only
    rw [er, nn_s]
  · refine ⟨I1, X, ?_, fo1, sg, W, n, hh⟩
    rw [m8_move, rh, nn_s, x128, nn_s, a2 hq, nn_s]
    simp only
    rw [q_recneg (by decide), nn_s]
theorem k_moveB (hfl : 10000 ≤ fl) (hL : LG len b) (h : Cl I X b S K) {a : Nat} {z : Int32} (ha : a < S 5) (hz : ¬ (nI 0 ≤ z ∧ z ≤ nI 999)) : Did (m8_move fl len X I b (nI a) z) I b S K (-2) := by
  obtain ⟨sg, W, n, h⟩ := h
  obtain ⟨I1, rh, fo1, hh⟩ := r_hold hfl hL h
  obtain ⟨x128, p0, hX, hN, hC, hv, hc⟩ := hh.at hL
  have hcue := q_cue (fl := fl) (len := len) hX hN hC hv.m6.1 hc.2.1.2.1 ha
  refine ⟨I1, X, ?_, fo1, sg, W, n, hh⟩
  have e : m4_moveCue fl len X I1 (sg 0) (nI a) z = some (-2, I1, X) := by
    rw [m4_moveCue, hX.1.2.1, nn_s, hcue, nn_s, if_neg (by simp), L0, L999, q_within0 hz, nn_s, if_pos (by decide)]
  rw [m8_move, rh, nn_s, x128, nn_s, e, nn_s]
  simp only
  rw [q_recneg (by decide), nn_s]
theorem k_move0 (hfl : 10000 ≤ fl) (hL : LG len b) (h : Cl I X b S K) {z : Int32} (h0 : S 5 = 0) : Did (m8_move fl len X I b (nI 0) z) I b S K (-1) := by
  obtain ⟨sg, W, n, h⟩ := h
  obtain ⟨I1, rh, fo1, hh⟩ := r_hold hfl hL h
  obtain ⟨x128, p0, hX, hN, hC, hv, hc⟩ := hh.at hL
  refine ⟨I1, X, ?_, fo1, sg, W, n, hh⟩
  have e : m4_moveCue fl len X I1 (sg 0) (nI 0) z = some (-1, I1, X) := by
    rw [m4_moveCue, hX.1.2.1, nn_s, q_cue0 hc.2.1.2.1 (Or.inr ⟨by decide, by rw [h0]; exact Int32.le_refl _⟩), nn_s, if_pos rfl]
  rw [m8_move, rh, nn_s, x128, nn_s, e, nn_s]
  simp only
  rw [q_recneg (by decide), nn_s]
end CB
