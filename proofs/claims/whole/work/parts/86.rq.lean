section RQ
variable {S T T' U U' : Nat → Nat} {K : Nat}
theorem np_of {j : Nat} (a : j ≠ 0) (b : j < 128 ∨ 144 ≤ j ∨ j % 4 ≠ 0) : ¬ plc j := fun c => by unfold plc at c; omega
theorem hreS_congr (h : ∀ j, ¬ plc j → T' j = T j) : ∀ r, r ≤ 4 → hreS T' r = hreS T r
  | 0, _ => rfl
  | r + 1, hr => by
    show hreS T' r + _ = hreS T r + _
    rw [hreS_congr h r (by omega), h (128 + 4 * r + 1) (np_of (by omega) (by omega)), h (144 + 3 * (6 * r + (T (128 + 4 * r + 1) - 1)) + 1) (np_of (by omega) (by omega))]
    unfold giveS
    rw [h (216 + 2 * r) (np_of (by omega) (by omega))]
theorem hdoS_congr (h : ∀ j, ¬ plc j → T' j = T j) : ∀ d, hdoS T' d = hdoS T d
  | 0 => rfl
  | d + 1 => by
    show hdoS T' d + _ = hdoS T d + _
    rw [hdoS_congr h d, h (224 + 3 * d) (np_of (by omega) (by omega)), h (224 + 3 * d + 1) (np_of (by omega) (by omega))]
    unfold giveS
    rw [h (216 + 2 * T (224 + 3 * d)) (np_of (by omega) (by omega))]
theorem hearS_congr (h : ∀ j, ¬ plc j → T' j = T j) : hearS T' = hearS T := by
  unfold hearS
  rw [hreS_congr h 4 (Nat.le_refl _), h 6 (np_of (by omega) (by omega)), hdoS_congr h]
theorem QW.mids (h : QW T T') (hv : Iv T K) : QW (midS T) (midS T') := by
  have e4 := h.1 4 (np_of (by omega) (by omega))
  have f : ∀ j, ¬ plc j → fadC T' 4 j = fadC T 4 j := fun j hj => by
    unfold fadC
    rw [h.1 j hj, h.1 2 (np_of (by omega) (by omega))]
    by_cases hc : 216 ≤ j ∧ j < 216 + 2 * 4 ∧ j % 2 = 0
    · rw [if_pos hc, if_pos hc, h.1 (j + 1) (np_of (by omega) (by omega))]
    · rw [if_neg hc, if_neg hc]
  refine h.to hv (fun j hj => ?_) (fun j hj => ?_) (fun j hj => ?_)
  · unfold midS
    rw [upN_ne (by omega), fadC_far (by omega)]
  · unfold midS
    rw [upN_ne (by omega), fadC_far (by omega)]
  · unfold midS
    rw [e4, hearS_congr f]
    unfold upN
    rw [f j (np_of (by omega) (by omega))]
theorem QW.ends (h : QW T T') (hv : Iv T K) (hv' : Iv T' K) : QW (endS T) (endS T') := by
  obtain ⟨h1, h2, h3⟩ := id h
  have h5 := hv.m6.1
  have h6 := (h67_le hv).1
  have h6' := (h67_le hv').1
  have e6 := h1 6 (np_of (by omega) (by omega))
  have e4 := h1 4 (np_of (by omega) (by omega))
  have far : ∀ j, j ≠ 4 → j ≠ 6 → (j < 128 ∨ (144 ≤ j ∧ j < 224) ∨ 296 ≤ j ∨ (128 ≤ j ∧ j < 144 ∧ j % 4 = 3)) → endS T j = T j ∧ endS T' j = T' j := fun j a b c => ⟨endS_far h6 a b c, endS_far h6' a b c⟩
  refine ⟨fun j hj => ?_, by rw [(far 0 (by omega) (by omega) (by omega)).1, (far 0 (by omega) (by omega) (by omega)).2]; exact h2, fun r hr => ?_⟩
  · by_cases j4 : j = 4
    · rw [j4, endS_4 h6, endS_4 h6', e4]
    · by_cases jd : j = 6 ∨ (224 ≤ j ∧ j < 296)
      · unfold endS
        rw [upN_ne j4, upN_ne j4, e6]
        refine faF_congr (T 6) 0 0 (relC T 4) (relC T' 4) (Nat.le_refl _) (by omega) (fun i a b => ?_) j jd
        rw [relC_far (by omega), relC_far (by omega)]
        exact h1 i (np_of (by omega) (by omega))
      · by_cases jr : 128 ≤ j ∧ j < 144 ∧ j % 4 ≠ 3
        · obtain ⟨r, hr, e⟩ : ∃ r, r < 4 ∧ (j = 128 + 4 * r + 1 ∨ j = 128 + 4 * r + 2) := ⟨(j - 128) / 4, by omega, by unfold plc at hj; omega⟩
          obtain ⟨-, a2, a3⟩ := endS_r (S := T) h6 hr
          obtain ⟨-, b2, b3⟩ := endS_r (S := T') h6' hr
          have q1 := h1 (128 + 4 * r + 1) (np_of (by omega) (by omega))
          have q2 := h1 (128 + 4 * r + 2) (np_of (by omega) (by omega))
          rcases e with e | e
          · rw [e, a2, b2]; unfold rP; rw [q1, q2]
          · rw [e, a3, b3]; unfold rL; rw [q1, q2]
        · rw [(far j j4 (by omega) (by omega)).1, (far j j4 (by omega) (by omega)).2]
          exact h1 j hj
  · obtain ⟨a1, a2, a3⟩ := endS_r (S := T) h6 hr
    obtain ⟨b1, b2, b3⟩ := endS_r (S := T') h6' hr
    have q1 := h1 (128 + 4 * r + 1) (np_of (by omega) (by omega))
    have q2 := h1 (128 + 4 * r + 2) (np_of (by omega) (by omega))
    have eP : rP T' r = rP T r := by unfold rP; rw [q1, q2]
    have eO : T (128 + 4 * r + 1) ≠ 0 → rO T' r = rO T r := fun hp => by
      unfold rO
      rw [q1, if_neg hp, if_neg hp, (h3 r hr).1 hp]
    rw [a1, a2, b1]
    refine ⟨fun hp => ?_, fun hp c hx => ?_⟩
    · have hT : T (128 + 4 * r + 1) ≠ 0 := fun q => hp (by unfold rP; rw [if_pos q])
      unfold rC
      rw [eP, if_neg hp, if_neg hp]
      exact eO hT
    · have es5 : endS T 5 = T 5 := (far 5 (by omega) (by omega) (by omega)).1
      have ex : nxF (endS T) r (endS T 5) 0 = nxF T r (T 5) 0 := by
        rw [es5]
        exact nxF_iff fun i _ hi => by rw [(far (8 + 5 * i + 4) (by omega) (by omega) (by omega)).1, (far (8 + 5 * i + 1) (by omega) (by omega) (by omega)).1, (far (8 + 5 * i + 2) (by omega) (by omega) (by omega)).1]
      have ex' : nxF T' r (T' 5) 0 = nxF T r (T 5) 0 := by
        rw [h1 5 (np_of (by omega) (by omega))]
        exact nxF_iff fun i _ hi => by rw [h1 (8 + 5 * i + 4) (np_of (by omega) (by omega)), h1 (8 + 5 * i + 1) (np_of (by omega) (by omega)), h1 (8 + 5 * i + 2) (np_of (by omega) (by omega))]
      rw [ex] at hx
      have h6c := nx_ok hv hr hx
      have hc := (nxF_some hx).2.1
      rw [(far (8 + 5 * c + 3) (by omega) (by omega) (by omega)).1, begS_congr (S := T) (S' := endS T) (fun j hj => (far _ (by omega) (by omega) (by omega)).1)]
      have ebg : begS T' r (T (8 + 5 * c + 3)) = begS T r (T (8 + 5 * c + 3)) := begS_congr (fun j hj => h1 _ (np_of (by omega) (by omega)))
      have et : ∀ p, tgS T r p = begS T r (T (8 + 5 * c + 3)) := fun p => by unfold tgS; rw [hx]
      have et' : ∀ p, tgS T' r p = begS T r (T (8 + 5 * c + 3)) := fun p => by
        unfold tgS
        rw [ex', hx]
        show begS T' r (T' (8 + 5 * c + 3)) = _
        rw [h1 (8 + 5 * c + 3) (np_of (by omega) (by omega)), ebg]
      unfold rC
      rw [eP, if_pos hp, if_pos hp, et, et']
      refine dst_near ?_ h2
      by_cases hT : T (128 + 4 * r + 1) = 0
      · unfold rO
        rw [q1, if_pos hT, if_pos hT]
        exact (h3 r hr).2 hT c hx
      · rw [eO hT]
        exact Nat.le_refl _
theorem QW.pass (h : QW T T') (hv : Iv T K) (hv' : Iv T' K) (hm : passM T K = 0) : passM T' K = 0 ∧ passK T' K = passK T K ∧ QW (passS T K) (passS T' K) := by
  have hKn := hv.2.1.2.1
  have e5 := h.1 5 (np_of (by omega) (by omega))
  obtain ⟨c1, c2, c3, c4⟩ := Iv.come (T 5 - K) K T 0 (by omega) hv
  obtain ⟨d1, d2, d3, d4⟩ := Iv.come (T' 5 - K) K T' 0 (by omega) hv'
  rw [e5] at d1 d2 d3 d4
  unfold passM at hm
  obtain ⟨g1, g2, g3⟩ := QW_cK (T 5 - K) K T T' 0 0 h hv hv' (by omega) hm
  unfold passM passK passS
  rw [e5]
  rw [g2] at d1
  exact ⟨g1, g2, (g3.mids c1).ends c1.mids d1.mids⟩
theorem QW.run : ∀ (j : Nat) (T T' : Nat → Nat) (K : Nat), QW T T' → Iv T K → Iv T' K → T 4 + j ≤ 1200 → (nP j T K).2.2 = 0 → rd tcm j T K → rd tcm j T' K ∧ (nP j T' K).2.2 = 0
  | 0, T, T', K, h, hv, hv', h4, hm, hr => by
    refine ⟨?_, rfl⟩
    have e5 := h.1 5 (np_of (by omega) (by omega))
    unfold rd tcm at hr ⊢
    omega
  | j + 1, T, T', K, h, hv, hv', h4, hm, hr => by
    have e5 := h.1 5 (np_of (by omega) (by omega))
    have e4 := h.1 4 (np_of (by omega) (by omega))
    have hm : passM T K + (nP j (passS T K) (passK T K)).2.2 = 0 := hm
    obtain ⟨m0, k0, q0⟩ := h.pass hv hv' (by omega)
    obtain ⟨a, a4, a5⟩ := hv.pass (by omega)
    obtain ⟨b, b4, b5⟩ := hv'.pass (by omega)
    rw [k0] at b
    obtain ⟨r1, r2⟩ := QW.run j _ _ _ q0 a b (by omega) (by omega) hr.2
    have ht : tcm T' K := by have := hr.1; unfold tcm at this ⊢; omega
    refine ⟨⟨ht, by rw [k0]; exact r1⟩, ?_⟩
    show passM T' K + (nP j (passS T' K) (passK T' K)).2.2 = 0
    rw [m0, k0, r2]
theorem rd_one {G : (Nat → Nat) → Nat → Prop} : ∀ (j j' : Nat) (S : Nat → Nat) (K : Nat), rd G j S K → rd G j' S K → j = j'
  | 0, 0, _, _, _, _ => rfl
  | 0, j' + 1, S, K, h1, h2 => absurd h2.1 h1
  | j + 1, 0, S, K, h1, h2 => absurd h1.1 h2
  | j + 1, j' + 1, S, K, h1, h2 => by rw [rd_one j j' _ _ h1.2 h2.2]
/-- with this winding none is missed -/
def noM (S : Nat → Nat) (K v : Nat) : Prop := ∃ j, rd tcm j (upN S 0 v) K ∧ S 4 + j ≤ 1200 ∧ (nP j (upN S 0 v) K).2.2 = 0
theorem Iv.wind (h : Iv S K) {v : Nat} (h1 : 1 ≤ v) (h2 : v ≤ 20) : Iv (upN S 0 v) K := h.set (k := 0) (by omega) (by unfold loN; rw [if_neg (by omega)]; exact h1) (by unfold hiN; rw [if_pos rfl]; exact h2)
theorem noM_up (h : Iv S K) {v v' : Nat} (h1 : 1 ≤ v) (h2 : v ≤ v') (h3 : v' ≤ 20) (hn : noM S K v) : noM S K v' := by
  obtain ⟨j, a1, a2, a3⟩ := hn
  have hQ : QW (upN S 0 v) (upN S 0 v') := by
    refine ⟨fun j hj => ?_, by rw [upN_eq, upN_eq]; exact h2, fun r hr => ⟨fun _ => ?_, fun _ c hx => ?_⟩⟩
    · have : j ≠ 0 := fun e => hj (Or.inl e)
      rw [upN_ne this, upN_ne this]
    · rw [upN_ne (by omega), upN_ne (by omega)]
    · rw [upN_ne (S := S) (v := v') (j := 128 + 4 * r) (by omega), upN_ne (S := S) (v := v) (j := 128 + 4 * r) (by omega)]
      exact Nat.le_refl _
  obtain ⟨b1, b2⟩ := QW.run j _ _ K hQ (h.wind h1 (by omega)) (h.wind (by omega) h3) (by rw [upN_ne (by omega)]; exact a2) a3 a1
  exact ⟨j, b1, a2, b2⟩
/-- up to here some are missed, behind it none -/
theorem noM_at (h : Iv S K) : ∀ n, n ≤ 20 → ∃ L, L ≤ n ∧ ∀ v, 1 ≤ v → v ≤ n → (noM S K v ↔ L < v)
  | 0, _ => ⟨0, Nat.le_refl _, fun v h1 h2 => by omega⟩
  | n + 1, hn => by
    obtain ⟨L, hL, hP⟩ := noM_at h n (by omega)
    by_cases hp : noM S K (n + 1)
    · refine ⟨L, by omega, fun v h1 h2 => ?_⟩
      by_cases e : v = n + 1
      · rw [e]
        exact ⟨fun _ => by omega, fun _ => hp⟩
      · exact hP v h1 (by omega)
    · have hLn : L = n := by
        by_cases e : L = n
        · exact e
        · exact absurd (noM_up h (v := n) (v' := n + 1) (by omega) (by omega) hn ((hP n (by omega) (Nat.le_refl _)).mpr (by omega))) hp
      refine ⟨n + 1, Nat.le_refl _, fun v h1 h2 => ?_⟩
      by_cases e : v = n + 1
      · rw [e]
        exact ⟨fun q => absurd q hp, fun q => by omega⟩
      · rw [hP v h1 (by omega)]
        omega
variable {fl : Nat} {len : Nat → Nat} {X X1 : Xm} {I I1 I2 I3 : Im} {p q b : Nat} {w w' : Nat → Nat}
theorem q_missesWith {sg W S K n Hs Hk sv Ss Sk t tx} (hfl : 10000 ≤ fl) (hL : LG len b) (h : RelW I X b sg W S K n Hs Hk sv Ss Sk t tx) {v : Nat} (h1 : 1 ≤ v) (h2 : v ≤ 20) : ∃ I1 z, m8_missesWith fl len X I b (nI v) = some (z, I1) ∧ Fr (b + 73) I I1 ∧ (noM S K v → z = 0) ∧ (¬ noM S K v → z = 1) := by
  obtain ⟨I1, rt, ft, ct, xt, nt, xct⟩ := RelW.tryIt hfl hL h
  have hv := h.2.1.1
  have hvw := hv.wind h1 h2
  have hc := ct.set hv (k := 0) (v := v) (by omega)
  obtain ⟨j, hj, h4j⟩ := rd_ex (G := tcm) (fun S K hi hg => gon_lt hi (tcm_gon hg)) 1200 _ K hvw (by omega)
  obtain ⟨I2, f2, c2, r2⟩ := q_missedIn (fl := fl) (len := len) (b := b) hfl xt nt xct h.1.1.2.1 hvw hc h4j hj
  have h4j' : S 4 + j ≤ 1200 := by rw [upN_ne (by omega)] at h4j; exact h4j
  have h48 := msd_le (Iv.passes j _ K hvw h4j)
  have hm := msd_nP j _ K hvw h4j
  refine ⟨I2, if (nP j (upN S 0 v) K).2.2 = 0 then 0 else 1, ?_, (ft.trans (Fr.rfl.pA (by omega) (by omega))).trans f2, fun hn => ?_, fun hn => ?_⟩
  · rw [m8_missesWith, h.1.1.2.1, nn_s, h.1.1.1, nn_s, rt, nn_s, xt.1.1, nn_s, nt.1.1, L0, ck_inb _ (by omega) (by omega), nI_clamp (by omega), lt_e, r2, nn_s]
    simp only
    by_cases h0 : (nP j (upN S 0 v) K).2.2 = 0
    · rw [if_pos (by rw [h0]; decide), if_pos h0, m8_missesWith_33]; exact ck_isbl0 _
    · rw [if_neg (by rw [nI_leI (by omega) (by omega)]; omega), if_neg h0, m8_missesWith_33, ck_isbl1]
  · obtain ⟨j', a1, a2, a3⟩ := hn
    rw [rd_one j j' _ _ hj a1, if_pos a3]
  · rw [if_neg fun q => hn ⟨j, hj, h4j', q⟩]
theorem nP_far : ∀ (j : Nat) (S : Nat → Nat) (K : Nat), Iv S K → S 4 + j ≤ 1200 → ∀ i, 1620 ≤ i → (nP j S K).1 i = S i
  | 0, _, _, _, _, _, _ => rfl
  | j + 1, S, K, h, h4, i, hi => by
    obtain ⟨a, e4, e5⟩ := h.pass (by omega)
    show (nP j (passS S K) (passK S K)).1 i = S i
    rw [nP_far j _ _ a (by omega) i hi]
    exact (pass_row h (by omega)).2.1 i (by omega) (by omega)
theorem p_leastWind (hfl : 10000 ≤ fl) (hL : LG len b) (h144 : gR X 144 (b + 799) = some (b + 799 + 1)) (h148 : gR X 148 (b + 799) = some (b + 804)) (hv : Iv S K) {L : Nat} (hL20 : L ≤ 20) (hP : ∀ v, 1 ≤ v → v ≤ 20 → (noM S K v ↔ L < v)) : ∀ (i v n : Nat) (I : Im), v + i = 21 → 1 ≤ v → v ≤ L + 1 → i < n → (∀ j, gA I (b + 799 + 1) j = nI (S j)) → ∃ I1, m9_leastWind_2 fl len X n I (b + 799) (nI v) = some (if L < 20 then nI (L + 1) else -6, I1) ∧ (∀ f a, gF I1 f a = gF I f a) ∧ ∀ a j, a ≠ b + 804 → gA I1 a j = gA I a j := by
  have hl : len (b + 799 + 1) = 1620 := hL.2.1.1
  intro i
  induction i with
  | zero =>
    intro v n I hi h1 hv1 hn hM
    obtain ⟨n, rfl⟩ : ∃ n', n = n' + 1 := ⟨n - 1, by omega⟩
    refine ⟨I, ?_, fun _ _ => rfl, fun _ _ _ => rfl⟩
    show m9_leastWind_2b fl len X (m9_leastWind_2 fl len X n) _ _ _ = _
    rw [m9_leastWind_2b, L0, p_most (by omega), nn_s, if_pos (by rw [nI_ltI (by unfold hiN; rw [if_pos rfl]; omega) (by omega)]; unfold hiN; rw [if_pos rfl]; omega), if_neg (by omega)]
  | succ i ih =>
    intro v n I hi h1 hv1 hn hM
    obtain ⟨n, rfl⟩ : ∃ n', n = n' + 1 := ⟨n - 1, by omega⟩
    have hvw := hv.wind h1 (show v ≤ 20 by omega)
    have u4 : upN S 0 v 4 = S 4 := upN_ne (by omega)
    obtain ⟨j, hj, h4j⟩ := rd_ex (G := gon) (fun S K hi hg => gon_lt hi hg) 1200 _ K hvw (by omega)
    obtain ⟨j', hj', h4j'⟩ := rd_ex (G := tcm) (fun S K hi hg => gon_lt hi (tcm_gon hg)) 1200 _ K hvw (by omega)
    have em := rd_m j j' _ K hvw h4j hj hj'
    have h48 := msd_le (Iv.passes j _ K hvw h4j)
    have hm := msd_nP j _ K hvw h4j
    have hrow := aside_row (I := I) hM
    have ep := p_playsRest (fl := fl) (len := len) (X := X) (I := cpR I (b + 804) 0 (b + 800) 1620) (q := b + 799) hfl h144 hl j fl _ K 0 (by omega) hvw h4j hj
    rw [Nat.zero_add] at ep
    have hfar := nP_far j _ K hvw h4j
    generalize hT : (nP j (upN S 0 v) K).1 = T at ep hfar
    obtain ⟨J, eJ⟩ : ∃ J, J = cpR (mS (cpR I (b + 804) 0 (b + 800) 1620) (b + 799 + 1) T) (b + 800) 0 (b + 804) 1620 := ⟨_, rfl⟩
    have jF : ∀ f a, gF J f a = gF I f a := fun f a => by rw [eJ, gF_cpR, gF_mS, gF_cpR]
    have jA : ∀ a j, a ≠ b + 804 → gA J a j = gA I a j := fun a k ha => by
      rw [eJ]
      by_cases e : a = b + 799 + 1
      · rw [e, show b + 799 + 1 = b + 800 from rfl, gA_cpR]
        by_cases hk : k < 1620
        · rw [if_pos (by omega), gA_mS_ne (by omega), gA_cpR, if_pos (by omega)]
          rfl
        · rw [if_neg (by omega), show b + 800 = b + 799 + 1 from rfl, gA_mS, hM, hfar k (by omega), upN_ne (by omega)]
      · rw [gA_cpR_ne e, gA_mS_ne e, gA_cpR_ne ha]
    have step : m9_leastWind_2 fl len X (n + 1) I (b + 799) (nI v) = if nI (nP j (upN S 0 v) K).2.2 = 0 then some (nI v, J) else m9_leastWind_2 fl len X n J (b + 799) (nI (v + 1)) := by
      show m9_leastWind_2b fl len X (m9_leastWind_2 fl len X n) _ _ _ = _
      rw [m9_leastWind_2b, show m9_most fl len X I (0 : Int32) = m9_most fl len X I (nI 0) from rfl, p_most (by omega), nn_s, if_neg (by rw [nI_ltI (by unfold hiN; rw [if_pos rfl]; omega) (by omega)]; unfold hiN; rw [if_pos rfl]; omega), p_aside hfl h144 h148 hl hL.2.1.2.2.2.2.1, nn_s, h144, nn_s, hl, show (0 : Int32) = nI 0 from rfl, ck_inb _ (by omega) (by omega), nI_clamp (by omega), hrow, pA_mS, lt_e, m9_playsRest, show (0 : Int32) = nI 0 from rfl, ep, nn_s]
      simp only
      rw [p_back hfl h144 h148 hl hL.2.1.2.2.2.2.1, nn_s, ← eJ, L1, nI_add, lt_e]
    rw [step]
    have hiff : noM S K v ↔ (nP j (upN S 0 v) K).2.2 = 0 := by
      rw [em]
      exact ⟨fun ⟨j2, a1, a2, a3⟩ => by rw [rd_one j' j2 _ _ hj' a1]; exact a3, fun a => ⟨j', hj', by omega, a⟩⟩
    by_cases h0 : (nP j (upN S 0 v) K).2.2 = 0
    · have := (hP v h1 (by omega)).mp (hiff.mpr h0)
      refine ⟨J, ?_, jF, jA⟩
      rw [if_pos (by rw [h0]; rfl), if_pos (by omega), show v = L + 1 by omega]
    · have hnl : ¬ L < v := fun q => h0 (hiff.mp ((hP v h1 (by omega)).mpr q))
      obtain ⟨I1, r, g1, g2⟩ := ih (v + 1) n J (by omega) (by omega) (by omega) (by omega) (fun k => by rw [jA _ _ (by omega)]; exact hM k)
      refine ⟨I1, ?_, fun f a => by rw [g1, jF], fun a k ha => by rw [g2 a k ha, jA a k ha]⟩
      rw [if_neg (by rw [L0, nI_eq (by omega) (by omega)]; exact h0), r]
theorem st_leastWind (hfl : 10000 ≤ fl) (hL : LG len b) : St_leastWind fl len b (b + 799) (Rel b) := by
  intro I X ⟨sg, W, S, K, n, Hs, Hk, sv, Ss, Sk, t, tx, h⟩
  have hv := h.2.1.1
  have m := h.1.2.2.2.2.2.2
  obtain ⟨L, hL20, hP⟩ := noM_at hv 20 (Nat.le_refl _)
  have step : ∀ (fu x s : Nat) (I0 : Im), 1 ≤ s → s ≤ 16 → x ≤ L → L < x + 2 * s → Fr (b + 73) I I0 → ∃ I1 x', m8_leastWind_5 fl len X (fu + 1) I0 b (nI x) (nI s) = m8_leastWind_5 fl len X fu I1 b (nI x') (nI (s / 2)) ∧ Fr (b + 73) I I1 ∧ x' ≤ L ∧ L < x' + s := by
    intro fu x s I0 hs hs16 hx hxL hf
    have h0 := h.trial hf
    have hdiv : ∀ I x, m8_leastWind_32 fl len X (m8_leastWind_5 fl len X fu) I b (nI x) (nI s) = m8_leastWind_5 fl len X fu I b (nI x) (nI (s / 2)) := fun I x => by
      rw [m8_leastWind_32, L2, nI_div (by omega) (by omega), lt_e]
    have start : m8_leastWind_5 fl len X (fu + 1) I0 b (nI x) (nI s) = if nI 20 < nI (x + s) then m8_leastWind_32 fl len X (m8_leastWind_5 fl len X fu) I0 b (nI x) (nI s) else nn (m8_missesWith fl len X I0 b (nI (x + s))) fun z => if z.1 = 0 then m8_leastWind_32 fl len X (m8_leastWind_5 fl len X fu) z.2 b (nI x) (nI s) else m8_leastWind_32 fl len X (m8_leastWind_5 fl len X fu) z.2 b (nI (x + s)) (nI s) := by
      show m8_leastWind_5b fl len X (m8_leastWind_5 fl len X fu) _ _ _ _ = _
      rw [m8_leastWind_5b, if_neg (by rw [L0, nI_leI (by omega) (by omega)]; omega), nI_add, lt_e, L0, ck_inb _ (by omega) (by omega), nI_clamp (by omega)]
      rfl
    rw [start]
    by_cases h20 : 20 < x + s
    · rw [if_pos (by rw [nI_ltI (by omega) (by omega)]; exact h20), hdiv]
      exact ⟨I0, x, rfl, hf, hx, by omega⟩
    · obtain ⟨I1, z, e, f1, z0, z1⟩ := q_missesWith (v := x + s) hfl hL h0 (by omega) (by omega)
      rw [if_neg (by rw [nI_ltI (by omega) (by omega)]; exact h20), e, nn_s]
      simp only
      by_cases hq : L < x + s
      · rw [z0 ((hP (x + s) (by omega) (by omega)).mpr hq), if_pos rfl, hdiv]
        exact ⟨I1, x, rfl, hf.trans f1, hx, hq⟩
      · rw [z1 (fun q => hq ((hP (x + s) (by omega) (by omega)).mp q)), if_neg (by decide), hdiv]
        exact ⟨I1, x + s, rfl, hf.trans f1, by omega, by omega⟩
  obtain ⟨fu, hfu⟩ : ∃ fu, fl = fu + 6 := ⟨fl - 6, by omega⟩
  obtain ⟨I1, x1, r1, f1, a1, b1⟩ := step (fu + 5) 0 16 I (by omega) (by omega) (by omega) (by omega) Fr.rfl
  obtain ⟨I2, x2, r2, f2, a2, b2⟩ := step (fu + 4) x1 8 I1 (by omega) (by omega) a1 (by omega) f1
  obtain ⟨I3, x3, r3, f3, a3, b3⟩ := step (fu + 3) x2 4 I2 (by omega) (by omega) a2 (by omega) f2
  obtain ⟨I4, x4, r4, f4, a4, b4⟩ := step (fu + 2) x3 2 I3 (by omega) (by omega) a3 (by omega) f3
  obtain ⟨I5, x5, r5, f5, a5, b5⟩ := step (fu + 1) x4 1 I4 (by omega) (by omega) a4 (by omega) f4
  have ex5 : x5 = L := by omega
  have h5 := h.trial f5
  obtain ⟨J, r9, g1, g2⟩ := p_leastWind (fl := fl) (len := len) hfl hL m.1 m.2.2.2.2.1 hv hL20 hP 20 1 fl I5 (by omega) (by omega) (by omega) (by omega) h5.2.1.2.2
  refine ⟨if L < 20 then nI (L + 1) else -6, I5, J, ?_, ?_, ?_⟩
  · have e0 : m8_leastWind fl len X I b = m8_leastWind_5 fl len X (fu + 5 + 1) I b (nI 0) (nI 16) := by rw [m8_leastWind, show fu + 5 + 1 = fl by omega]; rfl
    rw [e0, r1]
    show m8_leastWind_5 fl len X (fu + 4 + 1) I1 b (nI x1) (nI 8) = _
    rw [r2]
    show m8_leastWind_5 fl len X (fu + 3 + 1) I2 b (nI x2) (nI 4) = _
    rw [r3]
    show m8_leastWind_5 fl len X (fu + 2 + 1) I3 b (nI x3) (nI 2) = _
    rw [r4]
    show m8_leastWind_5 fl len X (fu + 1 + 1) I4 b (nI x4) (nI 1) = _
    rw [r5]
    show m8_leastWind_5b fl len X (m8_leastWind_5 fl len X fu) I5 b (nI x5) (nI 0) = _
    rw [m8_leastWind_5b, if_pos (by decide), L0, ck_inb _ (by omega) (by omega), nI_clamp (by omega), ex5, show mostS.getD 0 (nI 0) = nI 20 from rfl]
    by_cases hq : L < 20
    · rw [if_pos (by rw [nI_ltI (by omega) (by omega)]; exact hq), if_pos hq, m8_leastWind_56, L1, nI_add]
    · rw [if_neg (by rw [nI_ltI (by omega) (by omega)]; exact hq), if_neg hq, m8_leastWind_56]
  · rw [m9_leastWind]
    exact r9
  · refine Rel.of (h5.fr fun a ha => ⟨fun f _ _ _ _ _ => g1 f a, fun j => g2 a j ?_⟩)
    unfold sp at ha
    omega
end RQ
