/-! ===== a change on both sides ===== -/
section RF
variable {fl : Nat} {len : Nat → Nat} {X X2 : Xm} {I I1 I2 : Im} {p b : Nat} {S S' : Nat → Nat} {K K' n t : Nat} {w w' : Nat → Nat} {sg : Nat → Nat} {W : Nat → Nat → Nat} {Hs Ss : Nat → Nat → Nat} {Hk Sk sv tx : Nat → Nat}
theorem Cs.same2 (h : Cs I p S K w) (hC : XC X p w) (h5 : S 5 ≤ 24) (hm : ∀ r, r < 4 → S (128 + 4 * r + 3) ≤ 6) (hI : ∀ a, p ≤ a → a < p + 72 → (∀ f, f < 128 → gF I1 f a = gF I f a) ∧ ∀ j, gA I1 a j = gA I a j) : Cs I1 p S K w := by
  obtain ⟨d1, d2, d5, d6, d7, d8, d9, d10⟩ := h
  have g : ∀ f a, p ≤ a → a < p + 72 → f < 128 → gF I1 f a = gF I f a := fun f a h1 h2 h3 => (hI a h1 h2).1 f h3
  refine ⟨fun j hj => ?_, ?_, fun c hc => ?_, ⟨?_, fun d hd => ?_⟩, ⟨?_, fun j hj => ?_⟩, fun j hj => ?_, fun r hr => ⟨⟨?_, ?_, ?_, ?_⟩, fun k hk => ?_⟩, fun ch hch => ?_⟩
  · rw [(hI _ (by omega) (by omega)).2]; exact d1 j hj
  · unfold D2
    rw [g 72 p (by omega) (by omega) (by decide), g 97 (p + 2) (by omega) (by omega) (by decide), g 98 (p + 2) (by omega) (by omega) (by decide)]; exact d2
  · obtain ⟨-, h2, -⟩ := hC c (by omega)
    rw [g 16 _ (by omega) (by omega) (by decide), g 17 _ (by omega) (by omega) (by decide), g 18 _ (by omega) (by omega) (by decide), g 19 _ (by omega) (by omega) (by decide), g 20 _ (by omega) (by omega) (by decide)]; exact d5 c hc
  · rw [g 35 _ (by omega) (by omega) (by decide)]; exact d6.1
  · rw [(hI (p + 31) (by omega) (by omega)).2, (hI (p + 32) (by omega) (by omega)).2, (hI (p + 33) (by omega) (by omega)).2]; exact d6.2 d hd
  · rw [g 70 _ (by omega) (by omega) (by decide)]; exact d7.1
  · rw [(hI (p + 34) (by omega) (by omega)).2]; exact d7.2 j hj
  · rw [(hI (p + 35) (by omega) (by omega)).2]; exact d8 j hj
  · rw [g 81 _ (by omega) (by omega) (by decide)]; exact (d9 r hr).1.1
  · rw [g 82 _ (by omega) (by omega) (by decide)]; exact (d9 r hr).1.2.1
  · rw [g 83 _ (by omega) (by omega) (by decide)]; exact (d9 r hr).1.2.2.1
  · rw [g 84 _ (by omega) (by omega) (by decide)]; exact (d9 r hr).1.2.2.2
  · have hm6 := hm r hr
    rw [g 112 _ (by omega) (by omega) (by decide), g 113 _ (by omega) (by omega) (by decide), g 114 _ (by omega) (by omega) (by decide), g 115 _ (by omega) (by omega) (by decide)]
    exact (d9 r hr).2 k hk
  · rw [g 0 _ (by omega) (by omega) (by decide), g 1 _ (by omega) (by omega) (by decide)]; exact d10 ch hch
theorem XS.to (h : XS X p) (hR : ∀ f a, gR X2 f a = gR X f a) (hQ : ∀ a j, p + 28 ≤ a → a < p + 72 → gQ X2 a j = gQ X a j) : XS X2 p := by
  obtain ⟨⟨a1, a2, a3, a4, a5, a6, a7, a8, a9, a10, a11⟩, h2, h3⟩ := h
  refine ⟨⟨by rw [hR]; exact a1, by rw [hR]; exact a2, by rw [hR]; exact a3, by rw [hR]; exact a4, by rw [hR]; exact a5, by rw [hR]; exact a6, by rw [hR]; exact a7, by rw [hR]; exact a8, by rw [hR]; exact a9, by rw [hR]; exact a10, by rw [hR]; exact a11⟩, fun r hr => ?_, fun ch hc => ?_⟩
  · obtain ⟨c1, c2, c3⟩ := h2 r hr
    exact ⟨by rw [hQ _ _ (by omega) (by omega)]; exact c1, by rw [hR]; exact c2, fun k hk => by rw [hQ _ _ (by omega) (by omega)]; exact c3 k hk⟩
  · rw [hQ _ _ (by omega) (by omega)]; exact h3 ch hc
theorem sgN_0 : sgN sg n 0 = sg 0 := by
  unfold sgN
  by_cases h : n = 6
  · rw [if_pos h, if_pos rfl]
  · rw [if_neg h]
theorem sgN_e {i : Nat} (hi : i < 8) : ∃ j, j < 8 ∧ sgN sg n i = sg j := by
  unfold sgN
  by_cases h : n = 6
  · rw [if_pos h]
    by_cases h0 : i = 0
    · rw [if_pos h0]; exact ⟨0, by omega, rfl⟩
    · rw [if_neg h0]
      by_cases h7 : i = 7
      · rw [if_pos h7]; exact ⟨1, by omega, rfl⟩
      · rw [if_neg h7]; exact ⟨i + 1, by omega, rfl⟩
  · rw [if_neg h]; exact ⟨i, hi, rfl⟩
theorem sgN_inj (hi : ∀ i, i < 8 → ∀ j, j < 8 → sg i = sg j → i = j) : ∀ i, i < 8 → ∀ j, j < 8 → sgN sg n i = sgN sg n j → i = j := by
  intro i h1 j h2 he
  unfold sgN at he
  by_cases h : n = 6
  · simp only [if_pos h] at he
    have e : ∀ k, k < 8 → (if k = 0 then sg 0 else if k = 7 then sg 1 else sg (k + 1)) = sg (if k = 0 then 0 else if k = 7 then 1 else k + 1) := by
      intro k _
      split
      · rfl
      · split <;> rfl
    rw [e i h1, e j h2] at he
    have := hi _ (by split <;> first | omega | (split <;> omega)) _ (by split <;> first | omega | (split <;> omega)) he
    by_cases a0 : i = 0
    · rw [if_pos a0] at this
      by_cases c0 : j = 0
      · omega
      · rw [if_neg c0] at this
        split at this <;> omega
    · rw [if_neg a0] at this
      by_cases c0 : j = 0
      · rw [if_pos c0] at this
        split at this <;> omega
      · rw [if_neg c0] at this
        by_cases a7 : i = 7
        · rw [if_pos a7] at this
          split at this <;> omega
        · rw [if_neg a7] at this
          split at this <;> omega
  · simp only [if_neg h] at he
    exact hi i h1 j h2 he
theorem change (hfl : 10000 ≤ fl) (hL : LG len b) (h : RelW I X b sg W S K n Hs Hk sv Ss Sk t tx) (hf : Fr (sg (n + 1)) I I1) (hc1 : Cs I1 (sg (n + 1)) S K (W (sg (n + 1))))
    (hf2 : ∀ a, (a < sg 0 ∨ sg 0 + 72 ≤ a) → a ≠ b + 148 → a ≠ b + 150 → (∀ f, gF I2 f a = gF I1 f a) ∧ ∀ j, gA I2 a j = gA I1 a j) (hc2 : Cs I2 (sg 0) S' K' w') (hv2 : Iv S' K') (hxR : ∀ f a, gR X2 f a = gR X f a) (hxQ : ∀ a j, a ≠ sg 0 + 3 → gQ X2 a j = gQ X a j) (hxC : XC X2 (sg 0) w') {v : Nat} (hv : v < 2 ^ 31) :
    ∃ I3 X3 I4, m8_recorded fl len X2 I2 b (nI v) = some (nI v, I3, X3) ∧ m9_changes fl len X3 I3 (b + 799) = some I4 ∧ (∀ j, gA I4 (b + 799 + 1) j = nI (S j)) ∧ (∀ f a, f ≠ 131 → f ≠ 149 → gF I4 f a = gF I2 f a) ∧ (∀ a j, a ≠ b + 801 → gA I4 a j = gA I2 a j) ∧ (∀ f a, gR X3 f a = gR X f a) ∧ gF I4 150 (b + 799) = nI 0 ∧
      ∀ (I5 : Im) (t' : Nat) (tx' : Nat → Nat), (∀ f a, f ≠ 150 → f ≠ 152 → f ≠ 153 → f ≠ 154 → gF I5 f a = gF I4 f a) → (∀ a j, a ≠ b + 800 → a ≠ b + 806 → gA I5 a j = gA I4 a j) → (∀ j, gA I5 (b + 799 + 1) j = nI (S' j)) → gF I5 150 (b + 799) = nI 0 → RT I5 b t' tx' → ∃ sg' W' n' Hs' Hk', RelW I5 X3 b sg' W' S' K' n' Hs' Hk' sv Ss Sk t' tx' := by
  obtain ⟨hX, hC, hH, hS, hT⟩ := h
  have hn := hH.1.1
  have p0 := hX.2.2.2.1 0 (by omega)
  have p1 := hX.2.2.2.1 (n + 1) (by omega)
  have i0 := p0.p.in
  have i1 := p1.p.in
  have nt0 := p0.nt
  have nt1 := p1.nt
  -- outside the plays
  have o1 : ∀ a, a ≤ b ∨ b + 799 ≤ a ∨ (b + 145 ≤ a ∧ a < b + 151) → (∀ f, gF I1 f a = gF I f a) ∧ ∀ j, gA I1 a j = gA I a j := fun a ha => hf a (by omega)
  have o2 : ∀ a, a ≤ b ∨ b + 799 ≤ a ∨ (b + 145 ≤ a ∧ a < b + 148) → (∀ f, gF I2 f a = gF I f a) ∧ ∀ j, gA I2 a j = gA I a j := fun a ha => by
    obtain ⟨x1, x2⟩ := hf2 a (by omega) (by omega) (by omega)
    obtain ⟨y1, y2⟩ := o1 a (by omega)
    exact ⟨fun f => (x1 f).trans (y1 f), fun j => (x2 j).trans (y2 j)⟩
  have x130 : gR X2 130 b = some (b + 145) := by rw [hxR]; exact hX.1.2.2.1
  obtain ⟨I3, X3, r8, r131, rF, rA, xR, xQ, xH⟩ := q_record (fl := fl) (len := len) (X := X2) (I := I2) (sg := sg) (n := n) hfl hL x130 (fun i hi => by rw [hxQ _ _ (by omega)]; exact hX.2.1 i hi) hn (by rw [(o2 b (by omega)).1]; exact hH.1.2.1) hv
  have xR' : ∀ f a, gR X3 f a = gR X f a := fun f a => (xR f a).trans (hxR f a)
  have m := hX.2.2.2.2.2.2
  obtain ⟨I4, r9, cF, cA, c149, c149o, cN, cO⟩ := p_changes (fl := fl) (len := len) (X := X3) (I := I3) (b := b) (n := n) hfl (by rw [xR']; exact m.1) (by rw [xR']; exact m.2.1) hL.2.1.1 hL.2.1.2.1 hn (by rw [rF _ _ (by omega), (o2 _ (by omega)).1]; exact hH.1.2.2.1) (by rw [rF _ _ (by omega), (o2 _ (by omega)).1]; exact hH.1.2.2.2)
  have gF4 : ∀ f a, f ≠ 131 → f ≠ 149 → gF I4 f a = gF I2 f a := fun f a h1 h2 => by rw [cF f a h2, rF f a (Or.inl h1)]
  have gA4 : ∀ a j, a ≠ b + 801 → gA I4 a j = gA I2 a j := fun a j ha => by rw [cA a j ha, rA]
  have s4 : ∀ j, gA I4 (b + 799 + 1) j = nI (S j) := fun j => by rw [gA4 _ _ (by omega), (o2 _ (by omega)).2]; exact hC.2.2 j
  refine ⟨I3, X3, I4, r8, r9, s4, gF4, gA4, xR', by rw [gF4 _ _ (by omega) (by omega), (o2 _ (by omega)).1]; exact hH.1.2.2.2, fun I5 t' tx' f5 a5 s5 r5 hT5 => ?_⟩
  -- all cells of plays, behind it
  have e5 : ∀ a, b + 1 ≤ a → a < b + 799 → (∀ f, f < 128 → gF I5 f a = gF I2 f a) ∧ ∀ j, gA I5 a j = gA I2 a j := fun a h1 h2 =>
    ⟨fun f hf' => by rw [f5 f a (by omega) (by omega) (by omega) (by omega), gF4 f a (by omega) (by omega)], fun j => by rw [a5 a j (by omega) (by omega), gA4 a j (by omega)]⟩
  have keep : ∀ a S K, isP b a → a ≠ sg 0 → Iv S K → Cs I1 a S K (W a) → Cs I5 a S K (W a) := fun a S K ha hne hv' hc => by
    have ia := ha.in
    have ap := ha.apart p0.p hne
    refine hc.same2 (hX.2.2.2.2.2.1 a ha).2 hv'.m6.1 hv'.m6.2 fun c h1 h2 => ?_
    obtain ⟨z1, z2⟩ := e5 c (by omega) (by omega)
    obtain ⟨y1, y2⟩ := hf2 c (by omega) (by omega) (by omega)
    exact ⟨fun f hf' => (z1 f hf').trans (y1 f), fun j => (z2 j).trans (y2 j)⟩
  have keep0 : ∀ a S K, isP b a → a ≠ sg 0 → a ≠ sg (n + 1) → Iv S K → Cs I a S K (W a) → Cs I5 a S K (W a) := fun a S K ha h0 h1 hv' hc =>
    keep a S K ha h0 hv' (hc.apart (hX.2.2.2.2.2.1 _ ha).2 hv' (p1.p.apart ha (Ne.symm h1)) hf)
  have inj := hX.2.2.2.2.1
  have ne0 : ∀ i, i < 8 → i ≠ 0 → sg i ≠ sg 0 := fun i hi h0 q => h0 (inj i hi 0 (by omega) q)
  have ne1 : ∀ i, i < 8 → i ≠ n + 1 → sg i ≠ sg (n + 1) := fun i hi h0 q => h0 (inj i hi (n + 1) (by omega) q)
  have qX3 : ∀ a j, a ≠ b + 145 → a ≠ sg 0 + 3 → gQ X3 a j = gQ X a j := fun a j h1 h2 => by rw [xQ a j h1, hxQ a j h2]
  have past : ∀ i, i < 6 → ∀ j, j < 1620 → gA I3 (b + 801) (1620 * i + j) = gA I (b + 801) (1620 * i + j) := fun i _ j _ => by rw [rA, (o2 _ (by omega)).2]
  obtain ⟨Wz, hz0, hz1⟩ : ∃ Wz : Nat → Nat → Nat, Wz (sg 0) = w' ∧ ∀ a, a ≠ sg 0 → Wz a = W a := ⟨fun a => if a = sg 0 then w' else W a, if_pos rfl, fun a ha => if_neg ha⟩
  refine ⟨sgN sg n, Wz, nxN n, fun i => if i = nxN n - 1 then S else Hs (if n = 6 then i + 1 else i), fun i => if i = nxN n - 1 then K else Hk (if n = 6 then i + 1 else i), ⟨⟨?_, ?_, ?_, ?_, ?_, ?_, ?_, ?_⟩, xH, fun i hi => ?_, fun i hi => ?_, sgN_inj inj, fun a ha => ⟨?_, ?_⟩, ?_⟩, ⟨hv2, ?_, s5⟩, ⟨⟨?_, ?_, ?_, r5⟩, fun i hi => ?_⟩, fun i hi => ⟨(hS i hi).1, ?_, ?_, fun hv' => ⟨((hS i hi).2.2.2 hv').1, ?_, fun j hj => ?_⟩⟩, hT5⟩
  · rw [xR', sgN_0]; exact hX.1.1
  · rw [xR']; exact hX.1.2.1
  · rw [xR']; exact hX.1.2.2.1
  · rw [xR']; exact hX.1.2.2.2.1
  · rw [xR']; exact hX.1.2.2.2.2.1
  · rw [xR']; exact hX.1.2.2.2.2.2.1
  · rw [xR']; exact hX.1.2.2.2.2.2.2.1
  · rw [xR']; exact hX.1.2.2.2.2.2.2.2
  · rw [qX3 _ _ (by omega) (by omega)]; exact hX.2.2.1 i hi
  · obtain ⟨j, hj, e⟩ := sgN_e (sg := sg) (n := n) hi
    rw [e]; exact hX.2.2.2.1 j hj
  · have ia := ha.in
    refine (hX.2.2.2.2.2.1 a ha).1.to xR' fun c j h1 h2 => qX3 c j (by omega) ?_
    by_cases ea : a = sg 0
    · omega
    · have := ha.apart p0.p ea; omega
  · have ia := ha.in
    by_cases ea : a = sg 0
    · rw [ea, hz0]
      intro c hc
      rw [xQ _ _ (by omega)]
      exact hxC c hc
    · rw [hz1 a ea]
      intro c hc
      have := ha.apart p0.p ea
      rw [qX3 _ _ (by omega) (by omega)]
      exact (hX.2.2.2.2.2.1 a ha).2 c hc
  · obtain ⟨m1, m2, m3, m4, m5, m6, m7⟩ := m
    exact ⟨by rw [xR']; exact m1, by rw [xR']; exact m2, by rw [xR']; exact m3, by rw [xR']; exact m4, by rw [xR']; exact m5, by rw [xR']; exact m6, by rw [xR']; exact m7⟩
  · rw [sgN_0, hz0]
    exact hc2.same2 hxC hv2.m6.1 hv2.m6.2 fun c h1 h2 => e5 c (by omega) (by omega)
  · unfold nxN; split <;> omega
  · rw [f5 _ _ (by omega) (by omega) (by omega) (by omega), cF _ _ (by omega)]; exact r131
  · rw [f5 _ _ (by omega) (by omega) (by omega) (by omega)]; exact c149
  · by_cases el : i = nxN n - 1
    · simp only [if_pos el]
      have es : sgN sg n (i + 1) = sg (n + 1) := by
        unfold sgN
        unfold nxN at el hi
        by_cases h6 : n = 6
        · rw [if_pos h6] at el hi
          rw [if_pos h6, if_neg (by omega), if_neg (by omega)]
          congr 1
          omega
        · rw [if_neg h6] at el hi
          rw [if_neg h6]
          congr 1
          omega
      rw [es, hz1 _ (ne0 (n + 1) (by omega) (by omega))]
      refine ⟨hC.1, keep _ _ _ p1.p (ne0 (n + 1) (by omega) (by omega)) hC.1 hc1, fun j hj => ?_⟩
      rw [a5 _ _ (by omega) (by omega), el, cN j hj, rA, (o2 _ (by omega)).2]
      exact hC.2.2 j
    · simp only [if_neg el]
      obtain ⟨i', ei'⟩ : ∃ i', i' = if n = 6 then i + 1 else i := ⟨_, rfl⟩
      have hi' : i' < n := by
        rw [ei']
        unfold nxN at el hi
        by_cases h6 : n = 6
        · rw [if_pos h6] at el hi ⊢; omega
        · rw [if_neg h6] at el hi ⊢; omega
      have es : sgN sg n (i + 1) = sg (i' + 1) := by
        unfold sgN
        rw [ei']
        unfold nxN at el hi
        by_cases h6 : n = 6
        · rw [if_pos h6] at el hi
          rw [if_pos h6, if_neg (by omega), if_neg (by omega), if_pos h6]
        · rw [if_neg h6, if_neg h6]
      rw [es, ← ei', hz1 _ (ne0 (i' + 1) (by omega) (by omega))]
      obtain ⟨k1, k2, k3⟩ := hH.2 i' hi'
      refine ⟨k1, keep0 _ _ _ (hX.2.2.2.1 (i' + 1) (by omega)).p (ne0 (i' + 1) (by omega) (by omega)) (ne1 (i' + 1) (by omega) (by omega)) k1 k2, fun j hj => ?_⟩
      rw [a5 _ _ (by omega) (by omega), cO i (by omega) j hj, ← ei', past i' (by omega) j hj]
      exact k3 j hj
  · rw [a5 _ _ (by omega) (by omega), gA4 _ _ (by omega), (o2 _ (by omega)).2]; exact (hS i hi).2.1
  · rw [a5 _ _ (by omega) (by omega), gA4 _ _ (by omega), (o2 _ (by omega)).2]; exact (hS i hi).2.2.1
  · rw [hz1 _ (by omega)]
    exact keep0 _ _ _ (by unfold isP; omega) (by omega) (by omega) ((hS i hi).2.2.2 hv').1 ((hS i hi).2.2.2 hv').2.1
  · rw [a5 _ _ (by omega) (by omega), gA4 _ _ (by omega), (o2 _ (by omega)).2]; exact ((hS i hi).2.2.2 hv').2.2 j hj
theorem change1 (hfl : 10000 ≤ fl) (hL : LG len b) (h : RelW I X b sg W S K n Hs Hk sv Ss Sk t tx) (hf : Fr (sg (n + 1)) I I1) (hc1 : Cs I1 (sg (n + 1)) S K (W (sg (n + 1)))) (hf2 : Fr (sg 0) I1 I2) (hc2 : Cs I2 (sg 0) S' K' w') (hv2 : Iv S' K') (hxR : ∀ f a, gR X2 f a = gR X f a) (hxQ : ∀ a j, a ≠ sg 0 + 3 → gQ X2 a j = gQ X a j) (hxC : XC X2 (sg 0) w') {v : Nat} (hv : v < 2 ^ 31) :
    ∃ I3 X3 I4, m8_recorded fl len X2 I2 b (nI v) = some (nI v, I3, X3) ∧ m9_changes fl len X3 I3 (b + 799) = some (mS I4 (b + 799 + 1) S) ∧ gR X3 144 (b + 799) = some (b + 799 + 1) ∧ Rel b (mS I4 (b + 799 + 1) S') X3 ∧ (∀ j, gA I3 (b + 799 + 1) j = nI (S j)) := by
  obtain ⟨I3, X3, I4, r8, r9, s4, f4, a4, xR, r150, fin⟩ := change hfl hL h hf hc1 (fun a h1 _ _ => hf2 a h1) hc2 hv2 hxR hxQ hxC hv
  have hX := h.1
  have hH := h.2.2.1
  have hT := h.2.2.2.2
  have hn := hH.1.1
  have p0 := hX.2.2.2.1 0 (by omega)
  have p1 := hX.2.2.2.1 (n + 1) (by omega)
  have i0 := p0.p.in
  have i1 := p1.p.in
  have o2 : ∀ a, b + 145 ≤ a ∧ a < b + 151 ∨ b + 799 ≤ a → (∀ f, gF I2 f a = gF I f a) ∧ ∀ j, gA I2 a j = gA I a j := fun a ha => by
    obtain ⟨x1, x2⟩ := hf2 a (by omega)
    obtain ⟨y1, y2⟩ := hf a (by omega)
    exact ⟨fun f => (x1 f).trans (y1 f), fun j => (x2 j).trans (y2 j)⟩
  have eI := mS_self s4
  obtain ⟨J3, Y3, hr, -, hA3, -⟩ : ∃ I3' X3', m8_recorded fl len X2 I2 b (nI v) = some (nI v, I3', X3') ∧ gF I3' 131 b = nI (nxN n) ∧ (∀ a j, gA I3' a j = gA I2 a j) ∧ True := by
    obtain ⟨J3, Y3, a1, a2, -, a4, -⟩ := q_record (fl := fl) (len := len) (X := X2) (I := I2) (sg := sg) (n := n) hfl hL (by rw [hxR]; exact hX.1.2.2.1) (fun i hi => by rw [hxQ _ _ (by omega)]; exact hX.2.1 i hi) hn (by rw [(hf2 b (by omega)).1, (hf b (by omega)).1]; exact hH.1.2.1) hv
    exact ⟨J3, Y3, a1, a2, a4, trivial⟩
  have eJ : J3 = I3 := by
    rw [r8] at hr
    have := (Prod.mk.inj (Prod.mk.inj (Option.some.inj hr)).2).1
    exact this.symm
  refine ⟨I3, X3, I4, r8, by rw [eI]; exact r9, by rw [xR]; exact hX.2.2.2.2.2.2.1, ?_, fun j => by rw [← eJ, hA3, (o2 _ (by omega)).2]; exact h.2.1.2.2 j⟩
  have rt : RT (mS I4 (b + 799 + 1) S') b t tx := by
    refine ⟨⟨hT.1.1, ?_, ?_⟩, fun j hj => ⟨(hT.2 j hj).1, ?_, ?_⟩⟩
    · rw [gF_mS, f4 _ _ (by omega) (by omega), (o2 _ (by omega)).1]; exact hT.1.2.1
    · rw [gF_mS, f4 _ _ (by omega) (by omega), (o2 _ (by omega)).1]; exact hT.1.2.2
    · rw [gA_mS_ne (by omega), a4 _ _ (by omega), (o2 _ (by omega)).2]; exact (hT.2 j hj).2.1
    · rw [gA_mS_ne (by omega), a4 _ _ (by omega), (o2 _ (by omega)).2]; exact (hT.2 j hj).2.2
  obtain ⟨sg', W', n', Hs', Hk', hR⟩ := fin (mS I4 (b + 799 + 1) S') t tx (fun f a _ _ _ _ => gF_mS _ _ _ _ _) (fun a j ha _ => gA_mS_ne (by omega)) (fun j => gA_mS _ _ _ _) (by rw [gF_mS]; exact r150) rt
  exact ⟨sg', W', S', K', n', Hs', Hk', sv, Ss, Sk, t, tx, hR⟩
end RF
