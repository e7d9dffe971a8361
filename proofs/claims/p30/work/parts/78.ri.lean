/-! ===== cues come in, go out, and are moved: the reference ===== -/
theorem nI_m1 {m : Nat} (h : 1 ≤ m) : nI m + (-1) = nI (m - 1) := by
  rw [← nI_sub h]
  exact (Int32.sub_eq_add_neg (nI m) (nI 1)).symm
theorem nI_m1n {m : Nat} (h : 1 ≤ m) : nI m + -nI 1 = nI (m - 1) := nI_m1 h
/-- the rank behind all cues of a second, and of those ahead of it -/
def rkS (S : Nat → Nat) (t : Nat) : Nat → Nat
  | 0 => 0
  | k + 1 => if S (8 + 5 * k) ≤ t then k + 1 else rkS S t k
def shO (S : Nat → Nat) (lo hi : Nat) : Nat → Nat := fun j => if lo + 5 ≤ j ∧ j < hi + 5 then S (j - 5) else S j
def shC (S : Nat → Nat) (lo hi : Nat) : Nat → Nat := fun j => if lo ≤ j ∧ j < hi then S (j + 5) else S j
def opS (S : Nat → Nat) (r : Nat) : Nat → Nat := upN (shO S (8 + 5 * r) (8 + 5 * S 5)) 5 (S 5 + 1)
def clS (S : Nat → Nat) (c : Nat) : Nat → Nat := shC (upN S 5 (S 5 - 1)) (8 + 5 * c) (8 + 5 * (S 5 - 1))
def insS (S : Nat → Nat) (r t kd wh v : Nat) : Nat → Nat := upN (upN (upN (upN (upN (opS S r) (8 + 5 * r + 0) t) (8 + 5 * r + 1) kd) (8 + 5 * r + 2) wh) (8 + 5 * r + 3) v) (8 + 5 * r + 4) 0
theorem rkS_le (S : Nat → Nat) (t : Nat) : ∀ k, rkS S t k ≤ k
  | 0 => Nat.le_refl _
  | k + 1 => by
    have := rkS_le S t k
    unfold rkS
    split <;> omega
theorem rkS_hi {S : Nat → Nat} {t : Nat} : ∀ {k c : Nat}, rkS S t k ≤ c → c < k → t < S (8 + 5 * c)
  | 0, c, _, h => absurd h (Nat.not_lt_zero _)
  | k + 1, c, h1, h2 => by
    unfold rkS at h1
    split at h1
    · omega
    · rename_i hn
      by_cases e : c = k
      · subst e; omega
      · exact rkS_hi h1 (by omega)
theorem rkS_lo {S : Nat → Nat} {t : Nat} : ∀ {k : Nat}, rkS S t k ≠ 0 → S (8 + 5 * (rkS S t k - 1)) ≤ t
  | 0, h => absurd rfl h
  | k + 1, h => by
    unfold rkS at h ⊢
    split
    · rename_i hn; rw [Nat.add_sub_cancel]; exact hn
    · rename_i hn
      rw [if_neg hn] at h
      exact rkS_lo h
theorem IvC.mon {S : Nat → Nat} {K c : Nat} (h : IvC S K) : ∀ d, c + d < S 5 → S (8 + 5 * c) ≤ S (8 + 5 * (c + d))
  | 0, _ => Nat.le_refl _
  | d + 1, hd => Nat.le_trans (h.mon d (by omega)) (h.2 (c + d) (by omega))
theorem IvC.le {S : Nat → Nat} {K c d : Nat} (h : IvC S K) (h1 : c ≤ d) (h2 : d < S 5) : S (8 + 5 * c) ≤ S (8 + 5 * d) := by
  have := h.mon (c := c) (d - c) (by omega)
  rwa [show c + (d - c) = d by omega] at this
theorem rkS_K {S : Nat → Nat} {K t n : Nat} (hs : ∀ c, c < K → S (8 + 5 * c) ≤ t) : ∀ {k : Nat}, K ≤ k → K ≤ rkS S t k
  | 0, h => by unfold rkS; omega
  | k + 1, h => by
    unfold rkS
    split
    · exact h
    · rename_i hn
      refine rkS_K (n := n) hs ?_
      by_cases e : K = k + 1
      · exact absurd (hs k (by omega)) hn
      · omega
section RI
variable {S : Nat → Nat} {K : Nat}
theorem ins_5 {r t kd wh v : Nat} : insS S r t kd wh v 5 = S 5 + 1 := by
  unfold insS opS
  rw [upN_ne (by omega), upN_ne (by omega), upN_ne (by omega), upN_ne (by omega), upN_ne (by omega), upN_eq]
theorem ins_far {r t kd wh v j : Nat} (hr : r ≤ S 5) (hn : S 5 < 24) (h5 : j ≠ 5) (hj : j < 8 ∨ 128 ≤ j) : insS S r t kd wh v j = S j := by
  unfold insS opS shO
  rw [upN_ne (by omega), upN_ne (by omega), upN_ne (by omega), upN_ne (by omega), upN_ne (by omega), upN_ne h5, if_neg (by omega)]
theorem ins_lo {r t kd wh v c f : Nat} (hc : c < r) (hf : f < 5) : insS S r t kd wh v (8 + 5 * c + f) = S (8 + 5 * c + f) := by
  unfold insS opS shO
  rw [upN_ne (by omega), upN_ne (by omega), upN_ne (by omega), upN_ne (by omega), upN_ne (by omega), upN_ne (by omega), if_neg (by omega)]
theorem ins_hi {r t kd wh v c f : Nat} (hc : r < c) (hn : c ≤ S 5) (hf : f < 5) : insS S r t kd wh v (8 + 5 * c + f) = S (8 + 5 * (c - 1) + f) := by
  unfold insS opS shO
  rw [upN_ne (by omega), upN_ne (by omega), upN_ne (by omega), upN_ne (by omega), upN_ne (by omega), upN_ne (by omega), if_pos (by omega)]
  congr 1
  omega
theorem ins_at {r t kd wh v : Nat} : insS S r t kd wh v (8 + 5 * r) = t ∧ insS S r t kd wh v (8 + 5 * r + 1) = kd ∧ insS S r t kd wh v (8 + 5 * r + 2) = wh ∧ insS S r t kd wh v (8 + 5 * r + 3) = v ∧ insS S r t kd wh v (8 + 5 * r + 4) = 0 := by
  unfold insS
  refine ⟨?_, ?_, ?_, ?_, ?_⟩
  · rw [upN_ne (by omega), upN_ne (by omega), upN_ne (by omega), upN_ne (by omega), Nat.add_zero, upN_eq]
  · rw [upN_ne (by omega), upN_ne (by omega), upN_ne (by omega), upN_eq]
  · rw [upN_ne (by omega), upN_ne (by omega), upN_eq]
  · rw [upN_ne (by omega), upN_eq]
  · rw [upN_eq]
theorem cl_5 {c : Nat} : clS S c 5 = S 5 - 1 := by
  unfold clS shC
  rw [if_neg (by omega), upN_eq]
theorem cl_far {c j : Nat} (hn : S 5 ≤ 24) (h5 : j ≠ 5) (hj : j < 8 ∨ 128 ≤ j) : clS S c j = S j := by
  unfold clS shC
  rw [if_neg (by omega), upN_ne h5]
theorem cl_lo {a c f : Nat} (hc : c < a) (hf : f < 5) : clS S a (8 + 5 * c + f) = S (8 + 5 * c + f) := by
  unfold clS shC
  rw [if_neg (by omega), upN_ne (by omega)]
theorem cl_hi {a c f : Nat} (hc : a ≤ c) (hn : c + 1 < S 5) (hf : f < 5) : clS S a (8 + 5 * c + f) = S (8 + 5 * (c + 1) + f) := by
  unfold clS shC
  rw [if_pos (by omega), upN_ne (by omega)]
  congr 1
  omega
theorem okV.to {S' : Nat → Nat} {kd a v : Nat} (h : okV S kd a v) (hm : ∀ r, r < 4 → S' (128 + 4 * r + 3) = S (128 + 4 * r + 3)) : okV S' kd a v :=
  ⟨h.1, h.2.1, fun h0 => by rw [hm a (by have := h.2.1; omega)]; exact h.2.2.1 h0, h.2.2.2⟩
theorem Iv.ins (h : Iv S K) {r t kd wh v : Nat} (hn : S 5 < 24) (ht : t ≤ 999) (h4 : S 4 ≤ t) (hr : r = rkS S t (S 5)) (hv : okV S kd wh v) (hb : v < 1000000) : Iv (insS S r t kd wh v) K := by
  obtain ⟨iA, iB, iC, iR, iS, iH, iD, iP, iN⟩ := h
  have hrn : r ≤ S 5 := by rw [hr]; exact rkS_le S t _
  have hf : ∀ j, j ≠ 5 → (j < 8 ∨ 128 ≤ j) → insS S r t kd wh v j = S j := fun j h1 h2 => ins_far hrn hn h1 h2
  have hKr : K ≤ r := by
    rw [hr]
    exact rkS_K (n := 0) (fun c hc => Nat.le_trans ((iC.1 c (by have := iB.2.1; omega)).2.2.2.2.1 hc) h4) iB.2.1
  have hlo : ∀ c, c < r → S (8 + 5 * c) ≤ t := fun c hc => by
    have h1 := rkS_lo (S := S) (t := t) (k := S 5) (by omega)
    rw [← hr] at h1
    exact Nat.le_trans (iC.le (by omega) (by omega)) h1
  have hhi : ∀ c, r ≤ c → c < S 5 → t < S (8 + 5 * c) := fun c h1 h2 => rkS_hi (by rw [← hr]; exact h1) h2
  have hm : ∀ r', r' < 4 → insS S r t kd wh v (128 + 4 * r' + 3) = S (128 + 4 * r' + 3) := fun r' hr' => hf _ (by omega) (by omega)
  refine ⟨iA.to fun j hj => hf j (by omega) (by omega), ⟨by rw [hf 4 (by omega) (by omega)]; exact iB.1, by rw [ins_5]; omega, by rw [ins_5]; omega⟩, ⟨fun c hc => ?_, fun c hc => ?_⟩, iR.to (fun j _ _ => hf j (by omega) (by omega)) (hf 4 (by omega) (by omega)), iS.to (fun j _ _ => hf j (by omega) (by omega)) hm (fun r hr => (iR r hr).1) (Nat.le_refl K), iH.to (fun j _ _ => hf j (by omega) (by omega)), iD.to (fun j _ _ => hf j (by omega) (by omega)) (hf 4 (by omega) (by omega)) (hf 6 (by omega) (by omega)) (by have := iD.1; have := iB.2; omega) (Nat.le_refl K), iP.to (fun j _ => hf _ (by omega) (by omega)) (fun j _ _ => hf j (by omega) (by omega)) (hf 7 (by omega) (by omega)) hm, fun j => ?_⟩
  · rw [ins_5] at hc
    rw [hf 4 (by omega) (by omega)]
    rcases Nat.lt_trichotomy c r with hc1 | hc1 | hc1
    · have hh := iC.1 c (by omega)
      have e0 := ins_lo (S := S) (r := r) (t := t) (kd := kd) (wh := wh) (v := v) (c := c) (f := 0) hc1 (by omega)
      rw [Nat.add_zero] at e0
      rw [e0, ins_lo hc1 (by omega), ins_lo hc1 (by omega), ins_lo hc1 (by omega), ins_lo hc1 (by omega)]
      exact ⟨hh.1, hh.2.1.to hm, hh.2.2⟩
    · obtain ⟨a0, a1, a2, a3, a4⟩ := ins_at (S := S) (r := r) (t := t) (kd := kd) (wh := wh) (v := v)
      rw [hc1, a0, a1, a2, a3, a4]
      exact ⟨ht, hv.to hm, by omega, ⟨fun _ => hKr, fun _ => rfl⟩, fun q => by omega, fun _ => h4⟩
    · have hh := iC.1 (c - 1) (by omega)
      have e0 := ins_hi (S := S) (r := r) (t := t) (kd := kd) (wh := wh) (v := v) (c := c) (f := 0) hc1 (by omega) (by omega)
      rw [Nat.add_zero, Nat.add_zero] at e0
      rw [e0, ins_hi hc1 (by omega) (by omega), ins_hi hc1 (by omega) (by omega), ins_hi hc1 (by omega) (by omega), ins_hi hc1 (by omega) (by omega)]
      refine ⟨hh.1, hh.2.1.to hm, hh.2.2.1, ?_, fun q => by omega, fun q => hh.2.2.2.2.2 (by omega)⟩
      rw [hh.2.2.2.1]
      omega
  · rw [ins_5] at hc
    have e0 : ∀ c, c < r → insS S r t kd wh v (8 + 5 * c) = S (8 + 5 * c) := fun c h1 => ins_lo (f := 0) h1 (by omega)
    have e1 : ∀ c, r < c → c ≤ S 5 → insS S r t kd wh v (8 + 5 * c) = S (8 + 5 * (c - 1)) := fun c h1 h2 => ins_hi (f := 0) h1 h2 (by omega)
    have e2 : insS S r t kd wh v (8 + 5 * r) = t := ins_at.1
    by_cases h1 : c + 1 < r
    · rw [e0 c (by omega), e0 (c + 1) h1]; exact iC.2 c (by omega)
    · by_cases h2 : c + 1 = r
      · rw [e0 c (by omega), h2, e2]; exact hlo c (by omega)
      · by_cases h3 : c = r
        · rw [e1 (c + 1) (by omega) (by omega), h3, e2, Nat.add_sub_cancel]
          exact Nat.le_of_lt (hhi r (Nat.le_refl _) (by omega))
        · rw [e1 c (by omega) (by omega), e1 (c + 1) (by omega) (by omega), Nat.add_sub_cancel]
          have := iC.2 (c - 1) (by omega)
          rwa [show c - 1 + 1 = c by omega] at this
  · have hk := hv.1
    have hw := hv.2.1
    unfold insS opS
    refine ((((Bn.up (Bn.up ?_ ?_) ?_).up ?_).up ?_).up ?_).up ?_ j <;> try omega
    intro j
    unfold shO
    split
    · exact iN _
    · exact iN _
theorem Iv.cl (h : Iv S K) {a : Nat} (ha : a < S 5) (hK : K ≤ a) : Iv (clS S a) K := by
  obtain ⟨iA, iB, iC, iR, iS, iH, iD, iP, iN⟩ := h
  have h5 := iB.2.2
  have hf : ∀ j, j ≠ 5 → (j < 8 ∨ 128 ≤ j) → clS S a j = S j := fun j h1 h2 => cl_far h5 h1 h2
  have hm : ∀ r', r' < 4 → clS S a (128 + 4 * r' + 3) = S (128 + 4 * r' + 3) := fun r' hr' => hf _ (by omega) (by omega)
  refine ⟨iA.to fun j hj => hf j (by omega) (by omega), ⟨by rw [hf 4 (by omega) (by omega)]; exact iB.1, by rw [cl_5]; omega, by rw [cl_5]; omega⟩, ⟨fun c hc => ?_, fun c hc => ?_⟩, iR.to (fun j _ _ => hf j (by omega) (by omega)) (hf 4 (by omega) (by omega)), iS.to (fun j _ _ => hf j (by omega) (by omega)) hm (fun r hr => (iR r hr).1) (Nat.le_refl K), iH.to (fun j _ _ => hf j (by omega) (by omega)), iD.to (fun j _ _ => hf j (by omega) (by omega)) (hf 4 (by omega) (by omega)) (hf 6 (by omega) (by omega)) (by have := iD.1; have := iB.2; omega) (Nat.le_refl K), iP.to (fun j _ => hf _ (by omega) (by omega)) (fun j _ _ => hf j (by omega) (by omega)) (hf 7 (by omega) (by omega)) hm, fun j => ?_⟩
  · rw [cl_5] at hc
    rw [hf 4 (by omega) (by omega)]
    by_cases hc1 : c < a
    · have hh := iC.1 c (by omega)
      have e0 := cl_lo (S := S) (a := a) (c := c) (f := 0) hc1 (by omega)
      rw [Nat.add_zero] at e0
      rw [e0, cl_lo hc1 (by omega), cl_lo hc1 (by omega), cl_lo hc1 (by omega), cl_lo hc1 (by omega)]
      exact ⟨hh.1, hh.2.1.to hm, hh.2.2⟩
    · have hh := iC.1 (c + 1) (by omega)
      have hc1 : a ≤ c := by omega
      have e0 := cl_hi (S := S) (a := a) (c := c) (f := 0) hc1 (by omega) (by omega)
      rw [Nat.add_zero, Nat.add_zero] at e0
      rw [e0, cl_hi hc1 (by omega) (by omega), cl_hi hc1 (by omega) (by omega), cl_hi hc1 (by omega) (by omega), cl_hi hc1 (by omega) (by omega)]
      refine ⟨hh.1, hh.2.1.to hm, hh.2.2.1, ?_, fun q => by omega, fun q => hh.2.2.2.2.2 (by omega)⟩
      rw [hh.2.2.2.1]
      omega
  · rw [cl_5] at hc
    have e0 : ∀ c, c < a → clS S a (8 + 5 * c) = S (8 + 5 * c) := fun c h1 => cl_lo (f := 0) h1 (by omega)
    have e1 : ∀ c, a ≤ c → c + 1 < S 5 → clS S a (8 + 5 * c) = S (8 + 5 * (c + 1)) := fun c h1 h2 => cl_hi (f := 0) h1 h2 (by omega)
    by_cases h1 : c + 1 < a
    · rw [e0 c (by omega), e0 (c + 1) h1]; exact iC.2 c (by omega)
    · by_cases h2 : c + 1 = a
      · rw [e0 c (by omega), e1 (c + 1) (by omega) (by omega)]
        exact Nat.le_trans (iC.2 c (by omega)) (iC.2 (c + 1) (by omega))
      · rw [e1 c (by omega) (by omega), e1 (c + 1) (by omega) (by omega)]
        exact iC.2 (c + 1) (by omega)
  · unfold clS shC
    have b5 : Bn (upN S 5 (S 5 - 1)) := iN.up (by omega)
    split
    · exact b5 _
    · exact b5 _
variable {fl : Nat} {len : Nat → Nat} {X : Xm} {I : Im} {q : Nat}
end RI
