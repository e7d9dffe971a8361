/-! ===== the calls that ask ===== -/
section RC
variable {fl : Nat} {len : Nat → Nat} {X : Xm} {I : Im} {b : Nat}
theorem zlit5 (z : Int32) : z = nI 0 ∨ z = nI 1 ∨ z = nI 2 ∨ z = nI 3 ∨ z = nI 4 ∨ bad 5 z := by
  rcases zc z 5 (by omega) with ⟨k, hk, rfl⟩ | h
  · have : k = 0 ∨ k = 1 ∨ k = 2 ∨ k = 3 ∨ k = 4 := by omega
    rcases this with rfl | rfl | rfl | rfl | rfl
    · exact Or.inl rfl
    · exact Or.inr (Or.inl rfl)
    · exact Or.inr (Or.inr (Or.inl rfl))
    · exact Or.inr (Or.inr (Or.inr (Or.inl rfl)))
    · exact Or.inr (Or.inr (Or.inr (Or.inr (Or.inl rfl))))
  · exact Or.inr (Or.inr (Or.inr (Or.inr (Or.inr h))))
theorem bad_ne {z : Int32} {n k : Nat} (h : bad n z) (hk : k < n) (hn : n < 10000) : ¬ z = nI k := by
  rintro rfl
  rcases h with h | ⟨-, h⟩
  · exact nI_nneg (by omega) h
  · rw [nI_leI (by omega) (by omega)] at h; omega
theorem begS_tape {S : Nat → Nat} {r n : Nat} (hn : n ≠ 0) : begS S r n = begS S r (n - 1) + S (144 + 3 * (6 * r + (n - 1))) := by
  obtain ⟨m, rfl⟩ : ∃ m, n = m + 1 := ⟨n - 1, by omega⟩
  rfl
theorem q_tape {p r : Nat} {S : Nat → Nat} (hX : XS X p) (hN : LN len p) (hr : r < 4) (h : RR I p S r) (hm : S (128 + 4 * r + 3) ≤ 6) : m5_tapeLength fl len X I (p + 36 + 8 * r) = some (nI (begS S r (S (128 + 4 * r + 3)))) := by
  obtain ⟨⟨a1, a2, a3, a4⟩, a5⟩ := h
  unfold m5_tapeLength m5_tapeLength_28
  by_cases h0 : S (128 + 4 * r + 3) = 0
  · rw [a1, h0, q_snd0 hX hN hr (n := 0) (by omega) (by rw [a1, h0]) (Or.inl (by decide)), nn_s, if_pos (by first | rfl | decide)]
    rfl
  · obtain ⟨c1, c2, c3, c4⟩ := a5 (S (128 + 4 * r + 3) - 1) (by omega)
    rw [a1, L1, nI_sub (by omega), q_snd hX hN hr hm a1 (by omega), nn_s, if_neg (by simp), nn_s, c3, c1, nI_add, begS_tape h0]
theorem q_sAt {p r k : Nat} {S : Nat → Nat} (hX : XS X p) (hN : LN len p) (hr : r < 4) (h : RR I p S r) (hm : S (128 + 4 * r + 3) ≤ 6) (hk : k < S (128 + 4 * r + 3)) : m4_soundAt fl len X I p (nI r) (nI k) = some (some (p + 36 + 8 * r + 2 + k)) := by
  rw [m4_soundAt, q_reel hX hN hr, nn_s, if_neg (by simp), nn_s, q_snd hX hN hr hm h.1.1 hk, nn_s]
  rfl
theorem q_sAt0 {p r : Nat} {z : Int32} {S : Nat → Nat} (hX : XS X p) (hN : LN len p) (hr : r < 4) (h : RR I p S r) (hm : S (128 + 4 * r + 3) ≤ 6) (hk : bad (S (128 + 4 * r + 3)) z) : m4_soundAt fl len X I p (nI r) z = some none := by
  rw [m4_soundAt, q_reel hX hN hr, nn_s, if_neg (by simp), nn_s, q_snd0 hX hN hr hm h.1.1 hk, nn_s]
  rfl
theorem q_sAt00 {p : Nat} {r z : Int32} (hX : XS X p) (hN : LN len p) (hr : bad 4 r) : m4_soundAt fl len X I p r z = some none := by
  rw [m4_soundAt, q_reel0 hX hN hr, nn_s, if_pos (by first | rfl | decide)]
  rfl
end RC
