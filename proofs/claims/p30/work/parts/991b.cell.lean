/-! ===== the law's cell of the script ===== -/
noncomputable def ckp {β : Type} (c : Prop) (k : Option β) : Option β := @ite _ c (Classical.propDecidable c) k none
theorem ckp_some {β : Type} {c : Prop} {k : Option β} {r : β} (h : ckp c k = some r) : c ∧ k = some r := by
  unfold ckp at h
  by_cases hc : c
  · exact ⟨hc, by rw [if_pos hc] at h; exact h⟩
  · rw [if_neg hc] at h; exact absurd h (by simp)
theorem ckp_go {β : Type} {c : Prop} (k : Option β) (hc : c) : ckp c k = k := by
  unfold ckp; rw [if_pos hc]
theorem ck_go {β : Type} {c : Prop} [Decidable c] (k : Option β) (hc : c) : ck c k = k := by unfold ck; rw [if_pos hc]
theorem W_sl {p : Program} {l : Launch} {e : Env} {R : Room} {s : State} {m : MethodId} {args : Array Value} {below : List Frame} {meth : Method} {c : Code} {H : Heap} {locs : List Loc} {cells slots slots2 : Nat} {Q : State → Prop} {g : JFrame} (h : slots = slots2) (kk : W p l e R s m args below meth c H locs cells slots2 Q g) : W p l e R s m args below meth c H locs cells slots Q g := by rw [h]; exact kk
def cellF (L : Nat) (xs : Nat → Int32) (z : Int32) : Int32 := if nI L ≤ z then 40503 * (z + 3) else xs z.toNatClampNeg
theorem hy9_cell : yL_cell.cls = RL ∧ yL_cell.cls ≠ "java/lang/invoke/MethodHandle" ∧ yL_cell.cls ≠ "java/lang/invoke/VarHandle" ∧ (parseMethodDescriptor yL_cell.desc).map (fun d => d.parameters.length) = some 2 := ⟨rfl, by decide +kernel, by decide +kernel, by decide +kernel⟩
set_option maxHeartbeats 4000000 in
set_option maxRecDepth 100000 in
theorem c9_cell (l : Launch) (E : EN) (G : GM) (I : Im) (X : Xm) (z : Int32) (hz0 : inb z 1000 = true) {sc : Int32 → Int32} (hLe : (eS E).2 ≤ 260) (hsc : sc = cellF (eS E).2 (eXs E)) : MT l yL_cell cL_cell 2 (some .int) ({ frames := 0, cells := 0, slots := 0, locals := 0 } : Room) E G I X [.ref (eS E).1, .int z] (QI E G (sc z) I X) 0 0 := by
  refine Met.ofW (cc := cL_cell) (maxL := 2) (ret := (some .int)) (by decide +kernel) rfl ?_
  intro p e s m args below meth c s₁ B hml hv
  obtain ⟨rfl, hw0, hSE⟩ := hv
  have C0 : CX p s m ([.ref (eS E).1, .int z] : List Value).toArray meth c E cL_cell RL 2 := ⟨B.exec, B.bytes, hml, findClass_of_methodNamed B.named, fun w hw => atoms_spec (ws := WS yL_cell cL_cell 2 (some .int)) B.pre w (List.mem_cons_of_mem _ hw), B.notSynchronized, hSE⟩
  have hz : s.heap.size + 0 ≤ eB E + G.1 := Nat.le_of_eq hw0.2.1
  have hw : WD E G I X s.heap s.heap [] := ⟨hw0, va_S.rf⟩
  have hr := B.returns
  have hx := C0.1; have hb := C0.2.1; have hml := C0.2.2.1; have hown := C0.2.2.2.1; have hts := C0.2.2.2.2.1
  have hT : va_T .int (eS E).1 (eS E).2 (fun j => .int (eXs E j)) (eA E) s s.heap := hSE.2.2.2.2.2.2.2
  have hl := lv_entry ([.ref (eS E).1, .int z]) (n := 2) (Nat.le_of_ble_eq_true rfl)
  rw [lg_entry_eq]
  generalize (lg_sl ([.ref (eS E).1, .int z]) ++ List.replicate (2 - (lg_sl ([.ref (eS E).1, .int z])).length) Slot.unset).toArray = ls at hl ⊢
  have hl : lv_has ls 2 [(0, .ref (eS E).1), (1, .int z)] := hl
  refine lv_iload_n hx hb dL_cell_0 rfl (lv_at hl 1 rfl) ?_
  refine lv_aload_n hx hb dL_cell_1 rfl (lv_at hl 0 rfl) ?_
  refine va_tlen hx hb hT hw.2 rfl dL_cell_2 ?_
  refine lv_icmp_ge (tgt := 12) hx hb dL_cell_3 (by decide) (fun hc => ?_) (fun hc => ?_)
  · have hv : sc z = 40503 * (z + 3) := by rw [hsc]; unfold cellF; rw [if_pos (show nI (eS E).2 ≤ z from hc)]
    refine lv_ldc (v := (40503 : Int32)) hx hb hown (hts _ wd419) dL_cell_12 ?_
    refine lv_iload_n hx hb dL_cell_14 rfl (lv_at hl 1 rfl) ?_
    refine lv_iconst (v := (3 : Int32)) hx hb dL_cell_15 (by decide) ?_
    refine lv_iadd hx hb dL_cell_16 ?_
    refine lv_imul hx hb dL_cell_17 ?_
    rw [← hv]
    exact x_iret C0 hr hw dL_cell_18
  · have hv : eXs E z.toNatClampNeg = sc z := by rw [hsc]; unfold cellF; rw [if_neg (show ¬ nI (eS E).2 ≤ z from hc)]
    have hin : vp_in z (eS E).2 := by
      have h0 := vp_in_iff.mp (inb_in hz0)
      have h1 : ¬ nI (eS E).2 ≤ z := hc
      rw [Int32.le_iff_toInt_le, nI_toInt (by omega)] at h1
      exact vp_in_iff.mpr ⟨h0.1, by omega⟩
    refine lv_aload_n hx hb dL_cell_6 rfl (lv_at hl 0 rfl) ?_
    refine lv_iload_n hx hb dL_cell_7 rfl (lv_at hl 1 rfl) ?_
    refine va_ti hx hb hT hw.2 hin (by rw [hv]) dL_cell_8 ?_
    refine lv_goto (tgt := 18) hx hb dL_cell_9 (by decide) ?_
    exact x_iret C0 hr hw dL_cell_18
