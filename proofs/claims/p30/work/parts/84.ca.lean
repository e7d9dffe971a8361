/-! ===== the class between two calls (no reference) ===== -/
section CA
variable {fl : Nat} {len : Nat → Nat} {X X2 : Xm} {I I1 I2 : Im} {p b : Nat} {S S' : Nat → Nat} {K K' n : Nat} {w w' : Nat → Nat} {sg : Nat → Nat} {W : Nat → Nat → Nat}
def RC (I : Im) (X : Xm) (b : Nat) (sg : Nat → Nat) (W : Nat → Nat → Nat) (S : Nat → Nat) (K n : Nat) : Prop := XG X b sg W ∧ Iv S K ∧ Cs I (sg 0) S K (W (sg 0)) ∧ n ≤ 6 ∧ gF I 131 b = nI n
/-- nothing outside the mixer's cells changes -/
def Fo (b : Nat) (I I1 : Im) : Prop := ∀ a, (a < b ∨ b + 799 ≤ a) → (∀ f, gF I1 f a = gF I f a) ∧ ∀ j, gA I1 a j = gA I a j
def Cl (I : Im) (X : Xm) (b : Nat) (S : Nat → Nat) (K : Nat) : Prop := ∃ sg W n, RC I X b sg W S K n
/-- a call that changes: what it answers, and what the mixer stands for then -/
def Did (e : Option (Int32 × Im × Xm)) (I : Im) (b : Nat) (S : Nat → Nat) (K : Nat) (v : Int32) : Prop := ∃ I1 X1, e = some (v, I1, X1) ∧ Fo b I I1 ∧ Cl I1 X1 b S K
theorem Fo.rfl : Fo b I I := fun _ _ => ⟨fun _ => Eq.refl _, fun _ => Eq.refl _⟩
theorem Fo.trans (h : Fo b I I1) (h2 : Fo b I1 I2) : Fo b I I2 := fun a ha => ⟨fun f => ((h2 a ha).1 f).trans ((h a ha).1 f), fun j => ((h2 a ha).2 j).trans ((h a ha).2 j)⟩
theorem Fr.o (h : Fr p I I1) (hp : isP b p) : Fo b I I1 := fun a ha => h a (by have := hp.in; omega)
theorem r_hold (hfl : 10000 ≤ fl) (hL : LG len b) (h : RC I X b sg W S K n) : ∃ I1, m8_holdState fl len X I b = some I1 ∧ Fo b I I1 ∧ RC I1 X b sg W S K n := by
  obtain ⟨hX, hv, hc, hn, h131⟩ := h
  have p0 := hX.2.2.2.1 0 (by omega)
  have p1 := hX.2.2.2.1 (n + 1) (by omega)
  have hne : sg (n + 1) ≠ sg 0 := fun q => by have := hX.2.2.2.2.1 (n + 1) (by omega) 0 (by omega) q; omega
  obtain ⟨x1, x2⟩ := hX.2.2.2.2.2.1 _ p0.p
  obtain ⟨y1, y2⟩ := hX.2.2.2.2.2.1 _ p1.p
  obtain ⟨I1, r, f, c⟩ := q_copy (fl := fl) (len := len) hfl y1 (hL.2.2 _ p1.p) y2 x1 (hL.2.2 _ p0.p) x2 (p1.p.apart p0.p hne) hv hc
  refine ⟨I1, ?_, f.o p1.p, hX, hv, hc.apart x2 hv (p1.p.apart p0.p hne) f, hn, by rw [(f b (by have := p1.p.in; omega)).1]; exact h131⟩
  rw [m8_holdState, h131, if_neg (nI_nneg (by omega)), hX.1.2.2.1, nn_s, hL.1.1, if_neg (by rw [nI_leI (by omega) (by omega)]; omega), ck_inb _ (by omega) (by omega), nI_clamp (by omega), hX.2.1 n (by omega), nn_s, hX.1.1, nn_s, r, nn_s]
  rfl
theorem r_rec (hfl : 10000 ≤ fl) (hL : LG len b) (h : RC I X b sg W S K n) (hf2 : Fr (sg 0) I I2) (hc2 : Cs I2 (sg 0) S' K' w') (hv2 : Iv S' K') (hxR : ∀ f a, gR X2 f a = gR X f a) (hxQ : ∀ a j, a ≠ sg 0 + 3 → gQ X2 a j = gQ X a j) (hxC : XC X2 (sg 0) w') {v : Nat} (hv : v < 2 ^ 31) :
    ∃ I3 X3, m8_recorded fl len X2 I2 b (nI v) = some (nI v, I3, X3) ∧ Fo b I I3 ∧ Cl I3 X3 b S' K' := by
  obtain ⟨hX, -, -, hn, h131⟩ := h
  have p0 := hX.2.2.2.1 0 (by omega)
  have i0 := p0.p.in
  have x130 : gR X2 130 b = some (b + 145) := by rw [hxR]; exact hX.1.2.2.1
  obtain ⟨I3, X3, r8, r131, rF, rA, xR, xQ, xH⟩ := q_record (fl := fl) (len := len) (X := X2) (I := I2) (sg := sg) (n := n) hfl hL x130 (fun i hi => by rw [hxQ _ _ (by omega)]; exact hX.2.1 i hi) hn (by rw [(hf2 b (by omega)).1]; exact h131) hv
  have xR' : ∀ f a, gR X3 f a = gR X f a := fun f a => (xR f a).trans (hxR f a)
  have qX3 : ∀ a j, a ≠ b + 145 → a ≠ sg 0 + 3 → gQ X3 a j = gQ X a j := fun a j h1 h2 => by rw [xQ a j h1, hxQ a j h2]
  have inj := hX.2.2.2.2.1
  obtain ⟨Wz, hz0, hz1⟩ : ∃ Wz : Nat → Nat → Nat, Wz (sg 0) = w' ∧ ∀ a, a ≠ sg 0 → Wz a = W a := ⟨fun a => if a = sg 0 then w' else W a, if_pos rfl, fun a ha => if_neg ha⟩
  refine ⟨I3, X3, r8, fun a ha => ⟨fun f => by rw [rF f a (Or.inr (by omega))]; exact (hf2 a (by omega)).1 f, fun j => by rw [rA a j]; exact (hf2 a (by omega)).2 j⟩, sgN sg n, Wz, nxN n, ⟨⟨?_, ?_, ?_, ?_, ?_, ?_, ?_, ?_⟩, xH, fun i hi => ?_, fun i hi => ?_, sgN_inj inj, fun a ha => ⟨?_, ?_⟩, trivial⟩, hv2, ?_, ?_, r131⟩
  · rw [xR', sgN_0]; exact hX.1.1
  · rw [xR']; exact hX.1.2.1
  · rw [xR']; exact hX.1.2.2.1
  · rw [xR']; exact hX.1.2.2.2.1
  · rw [xR']; exact hX.1.2.2.2.2.1
  · rw [xR']; exact hX.1.2.2.2.2.2.1
  · rw [xR']; exact hX.1.2.2.2.2.2.2.1
  · rw [xR']; exact hX.1.2.2.2.2.2.2.2
  · rw [qX3 _ _ (by omega) (by omega)]; exact hX.2.2.1 i hi
  · obtain ⟨j, hj, e⟩ := sgN_e (sg := sg) (n := n) hi
    rw [e]; exact hX.2.2.2.1 j hj
  · have ia := ha.in
    refine (hX.2.2.2.2.2.1 a ha).1.to xR' fun c j h1 h2 => qX3 c j (by omega) ?_
    by_cases ea : a = sg 0
    · omega
    · have := ha.apart p0.p ea; omega
  · have ia := ha.in
    by_cases ea : a = sg 0
    · rw [ea, hz0]
      intro c hc
      rw [xQ _ _ (by omega)]
      exact hxC c hc
    · rw [hz1 a ea]
      intro c hc
      have := ha.apart p0.p ea
      rw [qX3 _ _ (by omega) (by omega)]
      exact (hX.2.2.2.2.2.1 a ha).2 c hc
  · rw [sgN_0, hz0]
    exact hc2.same2 hxC hv2.m6.1 hv2.m6.2 fun c h1 h2 => ⟨fun f _ => rF f c (Or.inr (by omega)), fun j => rA c j⟩
  · unfold nxN; split <;> omega
/-- the play that is there -/
theorem RC.at (h : RC I X b sg W S K n) (hL : LG len b) : gR X 128 b = some (sg 0) ∧ isP b (sg 0) ∧ XS X (sg 0) ∧ LN len (sg 0) ∧ XC X (sg 0) (W (sg 0)) ∧ Iv S K ∧ Cs I (sg 0) S K (W (sg 0)) := by
  have p0 := h.1.2.2.2.1 0 (by omega)
  obtain ⟨hX, hC⟩ := h.1.2.2.2.2.2.1 _ p0.p
  exact ⟨h.1.1.1, p0.p, hX, hL.2.2 _ p0.p, hC, h.2.1, h.2.2.1⟩
/-! set, goal -/
theorem k_set (hfl : 10000 ≤ fl) (hL : LG len b) (h : Cl I X b S K) {k v : Nat} (hk : k < 4) (v1 : loN k ≤ v) (v2 : v ≤ hiN k) : Did (m8_set fl len X I b (nI k) (nI v)) I b (upN S k v) K (nI (S k)) := by
  obtain ⟨sg, W, n, h⟩ := h
  obtain ⟨I1, rh, fo1, h1⟩ := r_hold hfl hL h
  obtain ⟨x128, p0, hX, hN, hC, hv, hc⟩ := h1.at hL
  have i0 := p0.in
  obtain ⟨lo, hi⟩ := lo_hi hk
  have hS := hv.2.2.2.2.2.2.2.2 k
  obtain ⟨I3, X3, r8, fo3, hr⟩ := r_rec (v := S k) (X2 := X) (S' := upN S k v) (I2 := pA I1 (sg 0 + 1) k (nI v)) hfl hL h1 (Fr.rfl.pA (by omega) (by omega)) (hc.set hv hk) (hv.set hk v1 v2) (fun _ _ => rfl) (fun _ _ _ => rfl) hC (by omega)
  refine ⟨I3, X3, ?_, fo1.trans fo3, hr⟩
  rw [m8_set, rh, nn_s, x128, nn_s, m4_changeSetting, if_neg (nI_nneg (by omega)), hX.1.1, nn_s, hN.1.1, if_neg (by rw [nI_leI (by omega) (by omega)]; omega), L4, if_pos (by rw [nI_ltI (by omega) (by omega)]; omega), if_neg (by rw [nI_leI (by omega) (by omega)]; omega), ck_inb _ (by omega) (by omega), ck_inb _ (by omega) (by omega), nI_clamp (by omega), lo, hi, q_within1 ⟨by rw [nI_leI (by unfold loN; split <;> omega) (by unfold hiN at v2; split at v2 <;> (try split at v2) <;> (try split at v2) <;> omega)]; exact v1, by rw [nI_leI (by unfold hiN at v2; split at v2 <;> (try split at v2) <;> (try split at v2) <;> omega) (by unfold hiN; split <;> (try split) <;> (try split) <;> omega)]; exact v2⟩, nn_s, if_neg (by decide), ck_inb _ (by omega) (by omega), hc.1 k hk, lt_e, lt_e, nn_s]
  simp only
  rw [r8, nn_s]
theorem k_goal (hfl : 10000 ≤ fl) (hL : LG len b) (h : Cl I X b S K) {k v : Nat} (hk : k < 4) (v2 : v ≤ 100) : Did (m8_goal fl len X I b (nI k) (nI v)) I b (upN S (216 + 2 * k + 1) v) K (nI (S (216 + 2 * k + 1))) := by
  obtain ⟨sg, W, n, h⟩ := h
  obtain ⟨I1, rh, fo1, h1⟩ := r_hold hfl hL h
  obtain ⟨x128, p0, hX, hN, hC, hv, hc⟩ := h1.at hL
  have i0 := p0.in
  have hS := hv.2.2.2.2.2.2.2.2 (216 + 2 * k + 1)
  obtain ⟨I3, X3, r8, fo3, hr⟩ := r_rec (v := S (216 + 2 * k + 1)) (X2 := X) (S' := upN S (216 + 2 * k + 1) v) (I2 := pF I1 1 (sg 0 + 68 + k) (nI v)) hfl hL h1 (Fr.rfl.pF (by omega) (by omega)) (hc.goal hv hk) (hv.goal hk v2) (fun _ _ => rfl) (fun _ _ _ => rfl) hC (by omega)
  refine ⟨I3, X3, ?_, fo1.trans fo3, hr⟩
  rw [m8_goal, rh, nn_s, x128, nn_s, m4_putGoal, q_chan hX hN hk, nn_s, if_neg (by simp), q_within1 ⟨by rw [L0, nI_leI (by omega) (by omega)]; omega, by rw [L100, nI_leI (by omega) (by omega)]; omega⟩, nn_s, if_neg (by decide), nn_s, (hc.2.2.2.2.2.2.2 k hk).2, lt_e, lt_e, nn_s]
  simp only
  rw [r8, nn_s]
/-! sound -/
theorem k_sound (hfl : 10000 ≤ fl) (hL : LG len b) (h : Cl I X b S K) {r a c : Nat} (hr : r < 4) (ha : 1 ≤ a ∧ a ≤ 60) (hcc : 1 ≤ c ∧ c ≤ 99) : (S (128 + 4 * r + 3) < 6 → Did (m8_sound fl len X I b (nI r) (nI a) (nI c)) I b (sndS S r a c) K (nI (S (128 + 4 * r + 3)))) ∧ (¬ S (128 + 4 * r + 3) < 6 → Did (m8_sound fl len X I b (nI r) (nI a) (nI c)) I b S K (-4)) := by
  obtain ⟨sg, W, n, h⟩ := h
  obtain ⟨I1, rh, fo1, h1⟩ := r_hold hfl hL h
  obtain ⟨x128, p0, hX, hN, hC, hv, hc⟩ := h1.at hL
  have i0 := p0.in
  have hm6 := hv.m6.2 r hr
  have w1 : m8_within fl len X I1 (nI a) (1 : Int32) (60 : Int32) = some (1 : Int32) := q_within1 ⟨by rw [L1, nI_leI (by omega) (by omega)]; exact ha.1, by rw [L60, nI_leI (by omega) (by omega)]; exact ha.2⟩
  have w2 : m8_within fl len X I1 (nI c) (1 : Int32) (99 : Int32) = some (1 : Int32) := q_within1 ⟨by rw [L1, nI_leI (by omega) (by omega)]; exact hcc.1, by rw [L99, nI_leI (by omega) (by omega)]; exact hcc.2⟩
  have hc0 := hc
  obtain ⟨d1, d2, d5, d6, d7, d8, d9, d10⟩ := hc
  have hRR := d9 r hr
  have hRR0 := hRR
  obtain ⟨⟨e1, e2, e3, e4⟩, e5⟩ := hRR
  obtain ⟨z1, z2, z3⟩ := hX.2.1 r hr
  generalize hp : sg 0 = p at *
  refine ⟨fun hm => ?_, fun hm => ?_⟩
  · obtain ⟨s1, s2, s3, s4⟩ := sndS_at (S := S) (a := a) (c := c) hr hm
    have hg : ∀ j, (j < 128 ∨ 216 ≤ j) → sndS S r a c j = S j := fun j hj => sndS_far hr hm (by omega) (by omega) (by omega) (by omega)
    have htl := q_tape (fl := fl) (len := len) (X := X) (I := I1) hX hN hr hRR0 hm6
    obtain ⟨I2, eI2⟩ : ∃ y, y = pF (pF (pF (pF (pF I1 114 (p + 36 + 8 * r + 2 + S (128 + 4 * r + 3)) (nI (begS S r (S (128 + 4 * r + 3))))) 112 (p + 36 + 8 * r + 2 + S (128 + 4 * r + 3)) (nI a)) 113 (p + 36 + 8 * r + 2 + S (128 + 4 * r + 3)) (nI c)) 115 (p + 36 + 8 * r + 2 + S (128 + 4 * r + 3)) (nI 0)) 81 (p + 36 + 8 * r) (nI (S (128 + 4 * r + 3) + 1)) := ⟨_, rfl⟩
    have g : ∀ f x, f ≠ 81 → (f < 112 ∨ 115 < f) → gF I2 f x = gF I1 f x := fun f x h1 h2 => by rw [eI2, gF_f h1, gF_f (by omega), gF_f (by omega), gF_f (by omega), gF_f (by omega)]
    have ga : ∀ x j, gA I2 x j = gA I1 x j := fun x j => by rw [eI2]; rfl
    have go : ∀ f x, x ≠ p + 36 + 8 * r → x ≠ p + 36 + 8 * r + 2 + S (128 + 4 * r + 3) → gF I2 f x = gF I1 f x := fun f x h1 h2 => by rw [eI2, gF_a h1, gF_a h2, gF_a h2, gF_a h2, gF_a h2]
    have h67 := h67_le hv
    have fr2 : Fr p I1 I2 := by
      rw [eI2]
      exact ((((Fr.rfl.pF (by omega) (by omega)).pF (by omega) (by omega)).pF (by omega) (by omega)).pF (by omega) (by omega)).pF (by omega) (by omega)
    have c2 : Cs I2 p (sndS S r a c) K (W p) := by
      refine ⟨d1.to (fun j => ga _ j) (fun j hj => hg j (by omega)), d2.to (g _ _ (by omega) (by omega)) (g _ _ (by omega) (by omega)) (g _ _ (by omega) (by omega)) (hg 4 (by omega)) (hg 5 (by omega)), d5.to (fun f x h1 h2 => g f x (by omega) (by omega)) (hg 5 (by omega)) hv.m6.1 (fun j _ _ => hg j (by omega)), d6.to (g _ _ (by omega) (by omega)) (fun x j _ _ => ga x j) (hg 6 (by omega)) h67.1 (fun j _ _ => hg j (by omega)), d7.to (g _ _ (by omega) (by omega)) (fun j => ga _ j) (hg 7 (by omega)) h67.2 (fun j _ _ => hg j (by omega)), d8.to (fun j => ga _ j) (hg 4 (by omega)) (fun j _ => hg j (by omega)), fun r' hr' => ?_, d10.to (fun f x h1 => g f x (by omega) (by omega)) (fun j _ _ => hg j (by omega))⟩
      by_cases er : r' = r
      · subst er
        refine ⟨⟨?_, ?_, ?_, ?_⟩, fun k hk => ?_⟩
        · rw [eI2, gF_s, s4]
        · rw [g _ _ (by omega) (by omega), sndS_far hr hm (by omega) (by omega) (by omega) (by omega)]; exact e2
        · rw [g _ _ (by omega) (by omega), sndS_far hr hm (by omega) (by omega) (by omega) (by omega)]; exact e3
        · rw [g _ _ (by omega) (by omega), sndS_far hr hm (by omega) (by omega) (by omega) (by omega)]; exact e4
        · rw [s4] at hk
          have eb : ∀ k, k ≤ S (128 + 4 * r' + 3) → begS (sndS S r' a c) r' k = begS S r' k := fun k hk => begS_congr fun j hj => sndS_far hr hm (by omega) (by omega) (by omega) (by omega)
          by_cases ek : k = S (128 + 4 * r' + 3)
          · rw [ek, s1, s2, s3, eb _ (Nat.le_refl _), eI2]
            refine ⟨?_, ?_, ?_, ?_⟩
            · rw [gF_f (by omega), gF_f (by omega), gF_f (by omega), gF_s]
            · rw [gF_f (by omega), gF_f (by omega), gF_s]
            · rw [gF_f (by omega), gF_f (by omega), gF_f (by omega), gF_f (by omega), gF_s]
            · rw [gF_f (by omega), gF_s]
          · rw [go _ _ (by omega) (by omega), go _ _ (by omega) (by omega), go _ _ (by omega) (by omega), go _ _ (by omega) (by omega), eb k (by omega), sndS_far (j := 144 + 3 * (6 * r' + k)) hr hm (by omega) (by omega) (by omega) (by omega), sndS_far (j := 144 + 3 * (6 * r' + k) + 1) hr hm (by omega) (by omega) (by omega) (by omega), sndS_far (j := 144 + 3 * (6 * r' + k) + 2) hr hm (by omega) (by omega) (by omega) (by omega)]
            exact e5 k (by omega)
      · exact (d9 r' hr').to hr' (hv.m6.2 r' hr') (fun f _ _ => go f _ (by omega) (by omega)) (fun f k _ _ hk => go f _ (by omega) (by omega)) (fun j _ _ => sndS_far hr hm (by omega) (by omega) (by omega) (by omega)) (fun j _ _ => sndS_far hr hm (by omega) (by omega) (by omega) (by omega))
    obtain ⟨I3, X3, r8, fo3, hr3⟩ := r_rec (v := S (128 + 4 * r + 3)) (X2 := X) (S' := sndS S r a c) (w' := W p) (I2 := I2) hfl hL h1 (by rw [hp]; exact fr2) (by rw [hp]; exact c2) (hv.snd hr hm ha hcc) (fun _ _ => rfl) (fun _ _ _ => rfl) (by rw [hp]; exact hC) (by omega)
    refine ⟨I3, X3, ?_, fo1.trans fo3, hr3⟩
    have r4 : m4_addSound fl len X I1 p (nI r) (nI a) (nI c) = some (nI (S (128 + 4 * r + 3)), I2) := by
      rw [m4_addSound, q_reel hX hN hr, nn_s, if_neg (by simp), w1, nn_s, if_neg (by decide), w2, nn_s, if_neg (by decide), nn_s, m5_appendSound, e1, if_neg (nI_nneg (by omega)), z2, nn_s, hN.2 r hr, if_pos (by rw [nI_ltI (by omega) (by omega)]; omega), ck_inb _ (by omega) (by omega), nI_clamp (by omega), z3 _ (by omega), nn_s, htl, nn_s, lt_e, lt_e, lt_e, lt_e]
      rw [gF_f (f := 115) (g := 81) (by omega), gF_f (f := 113) (g := 81) (by omega), gF_f (f := 112) (g := 81) (by omega), gF_f (f := 114) (g := 81) (by omega), e1, L1, nI_add, L0, ← eI2, lt_e, nn_s]
      simp only
      rw [eI2, gF_s, nI_sub (by omega), Nat.add_sub_cancel]
    rw [m8_sound, rh, nn_s, x128, nn_s, r4, nn_s]
    simp only
    rw [r8, nn_s]
  · refine ⟨I1, X, ?_, fo1, sg, W, n, h1⟩
    have r4 : m4_addSound fl len X I1 p (nI r) (nI a) (nI c) = some (-4, I1) := by
      rw [m4_addSound, q_reel hX hN hr, nn_s, if_neg (by simp), w1, nn_s, if_neg (by decide), w2, nn_s, if_neg (by decide), nn_s, m5_appendSound, e1, if_neg (nI_nneg (by omega)), z2, nn_s, hN.2 r hr, if_neg (by rw [nI_ltI (by omega) (by omega)]; omega)]
      rfl
    rw [m8_sound, rh, nn_s, x128, nn_s, r4, nn_s]
    simp only
    rw [q_recneg (by decide), nn_s]
/-! begin, pass -/
theorem k_begin (hfl : 10000 ≤ fl) (hL : LG len b) (h : Cl I X b S K) : Did (m8_begin fl len X I b) I b (bgS S) 0 (nI (S 4)) := by
  obtain ⟨sg, W, n, h⟩ := h
  obtain ⟨I1, rh, fo1, h1⟩ := r_hold hfl hL h
  obtain ⟨x128, p0, hX, hN, hC, hv, hc⟩ := h1.at hL
  have h4 := hv.2.1.1
  obtain ⟨I2, r8, f2, c2⟩ := q_begin (fl := fl) (len := len) hfl hX hN hC hv hc
  obtain ⟨I3, X3, rr, fo3, hr⟩ := r_rec (v := S 4) (X2 := X) hfl hL h1 f2 c2 hv.begin (fun _ _ => rfl) (fun _ _ _ => rfl) hC (by omega)
  refine ⟨I3, X3, ?_, fo1.trans fo3, hr⟩
  rw [m8_begin, rh, nn_s, x128, nn_s, r8, nn_s]
  simp only
  rw [rr, nn_s]
theorem k_pass (hfl : 10000 ≤ fl) (hL : LG len b) (h : Cl I X b S K) {s : Nat} (x1 : 1 ≤ s) (x2 : s ≤ 200) (hs : S 4 + s ≤ 1200) : Did (m8_pass fl len X I b (nI s)) I b (nP s S K).1 (nP s S K).2.1 (nI (nP s S K).2.2) := by
  obtain ⟨sg, W, n, h⟩ := h
  obtain ⟨I1, rh, fo1, h1⟩ := r_hold hfl hL h
  obtain ⟨x128, p0, hX, hN, hC, hv, hc⟩ := h1.at hL
  have h4 := hv.2.1.1
  have w1 : m8_within fl len X I1 (nI s) (1 : Int32) (200 : Int32) = some (1 : Int32) := q_within1 ⟨by rw [L1, nI_leI (by omega) (by omega)]; exact x1, by rw [L200, nI_leI (by omega) (by omega)]; exact x2⟩
  have hi := Iv.passes s S K hv hs
  have hms := msd_nP s S K hv hs
  have h48 := msd_le hi
  obtain ⟨I2, f2, c2, r2⟩ := q_seconds (fl := fl) (len := len) hfl hX hN hC (nI (msd S)) s x2 s 0 fl S K I1 (by omega) (by omega) hv hc hs
  obtain ⟨I3, X3, rr, fo3, hr⟩ := r_rec (v := (nP s S K).2.2) (X2 := X) hfl hL h1 f2 c2 hi (fun _ _ => rfl) (fun _ _ _ => rfl) hC (by omega)
  refine ⟨I3, X3, ?_, fo1.trans fo3, hr⟩
  have r8 : m4_runSeconds fl len X I1 (sg 0) (nI s) = some (nI (nP s S K).2.2, I2) := by
    rw [m4_runSeconds, w1, nn_s, if_neg (by decide), hc.2.1.1, nI_add, L1200, if_pos (by rw [nI_leI (by omega) (by omega)]; exact hs), hX.1.2.1, nn_s, q_missed hfl hX hN hC hv hc, nn_s, show m4_runSeconds_39 fl len X fl I1 (sg 0) (nI s) (nI (msd S)) (0 : Int32) (sg 0 + 2) = m4_runSeconds_39 fl len X fl I1 (sg 0) (nI s) (nI (msd S)) (nI 0) (sg 0 + 2) from rfl, r2, nI_sub (by omega), hms, Nat.add_sub_cancel_left]
  rw [m8_pass, rh, nn_s, x128, nn_s, r8, nn_s]
  simp only
  rw [rr, nn_s]
end CA
