noncomputable def m9_areCues_320 (fl : Nat) (len : Nat → Nat) (X : Xm) (I : Im) (zs0 : Int32) : Option (Int32 × Im) :=
  ck (isbl zs0 = true) <|
  some (zs0, I)
set_option maxHeartbeats 4000000 in
set_option maxRecDepth 100000 in
theorem w9_areCues_320 {p : Program} {l : Launch} {e : Env} {s : State} {m : MethodId} {args : Array Value} {below : List Frame} {meth : Method} {c : Code} {E : EN} {G : GM} {X : Xm} (C0 : CX p s m args meth c E cL_areCues RL 7) (hr : meth.sig.returnType = (some .boolean)) (hz : s.heap.size + 1 ≤ eB E + G.1) {rr : Int32 × Im} (fl : Nat) : ∀ (I : Im) (H : Heap) (locs : List Loc) (ls : Array Slot) (zs0 : Int32) , WD E G I X s.heap H locs → lv_has ls 7 [] → m9_areCues_320 fl G.2.2 X I zs0 = some rr → W p l e ({ frames := 6, cells := 1, slots := 4, locals := 134 } : Room) s m args below meth c H locs 1 4 (MQ below (QI E G rr.1 rr.2 X) args s 1 4 (eA E)) (F0 m 320 ls [.int zs0]) := by
  intro I H locs ls zs0 hw hl hf
  unfold m9_areCues_320 at hf
  have hx := C0.1; have hb := C0.2.1; have hml := C0.2.2.1; have hown := C0.2.2.2.1; have hts := C0.2.2.2.2.1
  obtain ⟨zhn1, hf⟩ := ck_some hf
  obtain rfl := Option.some.inj hf
  exact x_zret C0 hr (isbl_nar zhn1) hw dL_areCues_320
noncomputable def m9_areCues_319 (fl : Nat) (len : Nat → Nat) (X : Xm) (I : Im) : Option (Int32 × Im) :=
  m9_areCues_320 fl len X I (0 : Int32)
set_option maxHeartbeats 4000000 in
set_option maxRecDepth 100000 in
theorem w9_areCues_319 {p : Program} {l : Launch} {e : Env} {s : State} {m : MethodId} {args : Array Value} {below : List Frame} {meth : Method} {c : Code} {E : EN} {G : GM} {X : Xm} (C0 : CX p s m args meth c E cL_areCues RL 7) (hr : meth.sig.returnType = (some .boolean)) (hz : s.heap.size + 1 ≤ eB E + G.1) {rr : Int32 × Im} (fl : Nat) : ∀ (I : Im) (H : Heap) (locs : List Loc) (ls : Array Slot) , WD E G I X s.heap H locs → lv_has ls 7 [] → m9_areCues_319 fl G.2.2 X I = some rr → W p l e ({ frames := 6, cells := 1, slots := 4, locals := 134 } : Room) s m args below meth c H locs 1 4 (MQ below (QI E G rr.1 rr.2 X) args s 1 4 (eA E)) (F0 m 319 ls []) := by
  intro I H locs ls hw hl hf
  unfold m9_areCues_319 at hf
  have hx := C0.1; have hb := C0.2.1; have hml := C0.2.2.1; have hown := C0.2.2.2.1; have hts := C0.2.2.2.2.1
  refine lv_iconst (v := (0 : Int32)) hx hb dL_areCues_319 (by decide) ?_
  exact w9_areCues_320 C0 hr hz fl I _ _ _ (0 : Int32) hw (lv_sub hl [] rfl) hf
noncomputable def m9_areCues_192 (fl : Nat) (len : Nat → Nat) (X : Xm) (I : Im) (zx0 : Nat) (zx1 : Nat) (zx4 : Nat) (zx5 : Int32) : Option (Int32 × Im) :=
  if zx5 = 0 then
    m9_areCues_319 fl len X I
  else
    nn (m8_count fl len X I zx0 (0 : Int32)) fun zv2 =>
    ck (inb (4 : Int32) (len zx1) = true) <|
    if zv2 = (gA I zx1 ((4 : Int32)).toNatClampNeg) then
      nn (m8_count fl len X I zx0 (1 : Int32)) fun zv6 =>
      ck (inb (5 : Int32) (len zx1) = true) <|
      if zv6 = (gA I zx1 ((5 : Int32)).toNatClampNeg) then
        nn (m8_count fl len X I zx0 (2 : Int32)) fun zv10 =>
        ck (inb (0 : Int32) (len zx4) = true) <|
        if zv10 = (gA I zx4 ((0 : Int32)).toNatClampNeg) then
          nn (m8_count fl len X I zx0 (3 : Int32)) fun zv14 =>
          ck (inb (1 : Int32) (len zx4) = true) <|
          if zv14 = (gA I zx4 ((1 : Int32)).toNatClampNeg) then
            nn (m8_count fl len X I zx0 (4 : Int32)) fun zv18 =>
            ck (inb (2 : Int32) (len zx4) = true) <|
            if zv18 = (gA I zx4 ((2 : Int32)).toNatClampNeg) then
              nn (m8_count fl len X I zx0 (5 : Int32)) fun zv22 =>
              ck (inb (3 : Int32) (len zx4) = true) <|
              if zv22 = (gA I zx4 ((3 : Int32)).toNatClampNeg) then
                nn (m8_count fl len X I zx0 (9 : Int32)) fun zv26 =>
                ck (inb (0 : Int32) (len zx1) = true) <|
                if zv26 = (gA I zx1 ((0 : Int32)).toNatClampNeg) then
                  nn (m8_count fl len X I zx0 (10 : Int32)) fun zv30 =>
                  ck (inb (1 : Int32) (len zx1) = true) <|
                  if zv30 = (gA I zx1 ((1 : Int32)).toNatClampNeg) then
                    nn (m8_count fl len X I zx0 (11 : Int32)) fun zv34 =>
                    ck (inb (2 : Int32) (len zx1) = true) <|
                    if zv34 = (gA I zx1 ((2 : Int32)).toNatClampNeg) then
                      nn (m8_count fl len X I zx0 (12 : Int32)) fun zv38 =>
                      ck (inb (3 : Int32) (len zx1) = true) <|
                      if zv38 = (gA I zx1 ((3 : Int32)).toNatClampNeg) then
                        m9_areCues_320 fl len X I (1 : Int32)
                      else
                        m9_areCues_319 fl len X I
                    else
                      m9_areCues_319 fl len X I
                  else
                    m9_areCues_319 fl len X I
                else
                  m9_areCues_319 fl len X I
              else
                m9_areCues_319 fl len X I
            else
              m9_areCues_319 fl len X I
          else
            m9_areCues_319 fl len X I
        else
          m9_areCues_319 fl len X I
      else
        m9_areCues_319 fl len X I
    else
      m9_areCues_319 fl len X I
set_option maxHeartbeats 4000000 in
set_option maxRecDepth 100000 in
theorem w9_areCues_192 {p : Program} {l : Launch} {e : Env} {s : State} {m : MethodId} {args : Array Value} {below : List Frame} {meth : Method} {c : Code} {E : EN} {G : GM} {X : Xm} (C0 : CX p s m args meth c E cL_areCues RL 7) (hr : meth.sig.returnType = (some .boolean)) (hz : s.heap.size + 1 ≤ eB E + G.1) {rr : Int32 × Im} (fl : Nat) : ∀ (I : Im) (H : Heap) (locs : List Loc) (ls : Array Slot) (zx0 : Nat) (zx1 : Nat) (zx4 : Nat) (zx5 : Int32) (zt0 : okA E G 8 zx0) (zt1 : okA E G 11 zx1) (zt4 : okA E G 11 zx4), WD E G I X s.heap H locs → lv_has ls 7 [(0, .ref zx0), (1, .ref zx1), (4, .ref zx4), (5, .int zx5)] → m9_areCues_192 fl G.2.2 X I zx0 zx1 zx4 zx5 = some rr → W p l e ({ frames := 6, cells := 1, slots := 4, locals := 134 } : Room) s m args below meth c H locs 1 4 (MQ below (QI E G rr.1 rr.2 X) args s 1 4 (eA E)) (F0 m 192 ls []) := by
  intro I H locs ls zx0 zx1 zx4 zx5 zt0 zt1 zt4 hw hl hf
  unfold m9_areCues_192 at hf
  have hx := C0.1; have hb := C0.2.1; have hml := C0.2.2.1; have hown := C0.2.2.2.1; have hts := C0.2.2.2.2.1
  refine lv_iload hx hb dL_areCues_192 (lv_at hl 3 rfl) ?_
  refine lv_if_eq (tgt := 319) hx hb dL_areCues_194 (by decide) (fun zc1 => ?_) (fun zc1 => ?_)
  · have hf := ite_t hf zc1
    exact w9_areCues_319 C0 hr hz fl I _ _ _ hw (lv_sub hl [] rfl) hf
  · have hf := ite_f hf zc1
    refine lv_aload_n hx hb dL_areCues_197 rfl (lv_at hl 0 rfl) ?_
    refine lv_iconst (v := (0 : Int32)) hx hb dL_areCues_198 (by decide) ?_
    obtain ⟨zv2, ze3, hf⟩ := nn_some hf
    refine x_ci (r := zv2) (I1 := I) (X1 := X) (x_runV (As := [.int (0 : Int32)]) (rest := []) C0 (c8_count l E G fl X I zx0 (0 : Int32) zt0 ze3) hw 8 zt0 (by decide) rfl wd74 wd435 wd436 wd437 wd107 ⟨rfl, rfl⟩ hy8_count ⟨Nat.le_of_ble_eq_true rfl, Nat.le_of_ble_eq_true rfl⟩ rfl hl.1 (Nat.le_of_ble_eq_true rfl) ⟨Nat.le_of_ble_eq_true rfl, Nat.le_of_ble_eq_true rfl⟩ dL_areCues_199) hw (fun H locs hw => ?_)
    refine lv_aload_n hx hb dL_areCues_202 rfl (lv_at hl 1 rfl) ?_
    refine lv_iconst (v := (4 : Int32)) hx hb dL_areCues_203 (by decide) ?_
    obtain ⟨zhb4, hf⟩ := ck_some hf
    refine x_iald C0 hw zt1 zhb4 dL_areCues_204 ?_
    refine lv_icmp_ne (tgt := 319) hx hb dL_areCues_205 (by decide) (fun zc5 => ?_) (fun zc5 => ?_)
    · have hf := ite_f hf zc5
      exact w9_areCues_319 C0 hr hz fl I _ _ _ hw (lv_sub hl [] rfl) hf
    · have hf := ite_t hf zc5
      refine lv_aload_n hx hb dL_areCues_208 rfl (lv_at hl 0 rfl) ?_
      refine lv_iconst (v := (1 : Int32)) hx hb dL_areCues_209 (by decide) ?_
      obtain ⟨zv6, ze7, hf⟩ := nn_some hf
      refine x_ci (r := zv6) (I1 := I) (X1 := X) (x_runV (As := [.int (1 : Int32)]) (rest := []) C0 (c8_count l E G fl X I zx0 (1 : Int32) zt0 ze7) hw 8 zt0 (by decide) rfl wd74 wd435 wd436 wd437 wd107 ⟨rfl, rfl⟩ hy8_count ⟨Nat.le_of_ble_eq_true rfl, Nat.le_of_ble_eq_true rfl⟩ rfl hl.1 (Nat.le_of_ble_eq_true rfl) ⟨Nat.le_of_ble_eq_true rfl, Nat.le_of_ble_eq_true rfl⟩ dL_areCues_210) hw (fun H locs hw => ?_)
      refine lv_aload_n hx hb dL_areCues_213 rfl (lv_at hl 1 rfl) ?_
      refine lv_iconst (v := (5 : Int32)) hx hb dL_areCues_214 (by decide) ?_
      obtain ⟨zhb8, hf⟩ := ck_some hf
      refine x_iald C0 hw zt1 zhb8 dL_areCues_215 ?_
      refine lv_icmp_ne (tgt := 319) hx hb dL_areCues_216 (by decide) (fun zc9 => ?_) (fun zc9 => ?_)
      · have hf := ite_f hf zc9
        exact w9_areCues_319 C0 hr hz fl I _ _ _ hw (lv_sub hl [] rfl) hf
      · have hf := ite_t hf zc9
        refine lv_aload_n hx hb dL_areCues_219 rfl (lv_at hl 0 rfl) ?_
        refine lv_iconst (v := (2 : Int32)) hx hb dL_areCues_220 (by decide) ?_
        obtain ⟨zv10, ze11, hf⟩ := nn_some hf
        refine x_ci (r := zv10) (I1 := I) (X1 := X) (x_runV (As := [.int (2 : Int32)]) (rest := []) C0 (c8_count l E G fl X I zx0 (2 : Int32) zt0 ze11) hw 8 zt0 (by decide) rfl wd74 wd435 wd436 wd437 wd107 ⟨rfl, rfl⟩ hy8_count ⟨Nat.le_of_ble_eq_true rfl, Nat.le_of_ble_eq_true rfl⟩ rfl hl.1 (Nat.le_of_ble_eq_true rfl) ⟨Nat.le_of_ble_eq_true rfl, Nat.le_of_ble_eq_true rfl⟩ dL_areCues_221) hw (fun H locs hw => ?_)
        refine lv_aload hx hb dL_areCues_224 (lv_at hl 2 rfl) ?_
        refine lv_iconst (v := (0 : Int32)) hx hb dL_areCues_226 (by decide) ?_
        obtain ⟨zhb12, hf⟩ := ck_some hf
        refine x_iald C0 hw zt4 zhb12 dL_areCues_227 ?_
        refine lv_icmp_ne (tgt := 319) hx hb dL_areCues_228 (by decide) (fun zc13 => ?_) (fun zc13 => ?_)
        · have hf := ite_f hf zc13
          exact w9_areCues_319 C0 hr hz fl I _ _ _ hw (lv_sub hl [] rfl) hf
        · have hf := ite_t hf zc13
          refine lv_aload_n hx hb dL_areCues_231 rfl (lv_at hl 0 rfl) ?_
          refine lv_iconst (v := (3 : Int32)) hx hb dL_areCues_232 (by decide) ?_
          obtain ⟨zv14, ze15, hf⟩ := nn_some hf
          refine x_ci (r := zv14) (I1 := I) (X1 := X) (x_runV (As := [.int (3 : Int32)]) (rest := []) C0 (c8_count l E G fl X I zx0 (3 : Int32) zt0 ze15) hw 8 zt0 (by decide) rfl wd74 wd435 wd436 wd437 wd107 ⟨rfl, rfl⟩ hy8_count ⟨Nat.le_of_ble_eq_true rfl, Nat.le_of_ble_eq_true rfl⟩ rfl hl.1 (Nat.le_of_ble_eq_true rfl) ⟨Nat.le_of_ble_eq_true rfl, Nat.le_of_ble_eq_true rfl⟩ dL_areCues_233) hw (fun H locs hw => ?_)
          refine lv_aload hx hb dL_areCues_236 (lv_at hl 2 rfl) ?_
          refine lv_iconst (v := (1 : Int32)) hx hb dL_areCues_238 (by decide) ?_
          obtain ⟨zhb16, hf⟩ := ck_some hf
          refine x_iald C0 hw zt4 zhb16 dL_areCues_239 ?_
          refine lv_icmp_ne (tgt := 319) hx hb dL_areCues_240 (by decide) (fun zc17 => ?_) (fun zc17 => ?_)
          · have hf := ite_f hf zc17
            exact w9_areCues_319 C0 hr hz fl I _ _ _ hw (lv_sub hl [] rfl) hf
          · have hf := ite_t hf zc17
            refine lv_aload_n hx hb dL_areCues_243 rfl (lv_at hl 0 rfl) ?_
            refine lv_iconst (v := (4 : Int32)) hx hb dL_areCues_244 (by decide) ?_
            obtain ⟨zv18, ze19, hf⟩ := nn_some hf
            refine x_ci (r := zv18) (I1 := I) (X1 := X) (x_runV (As := [.int (4 : Int32)]) (rest := []) C0 (c8_count l E G fl X I zx0 (4 : Int32) zt0 ze19) hw 8 zt0 (by decide) rfl wd74 wd435 wd436 wd437 wd107 ⟨rfl, rfl⟩ hy8_count ⟨Nat.le_of_ble_eq_true rfl, Nat.le_of_ble_eq_true rfl⟩ rfl hl.1 (Nat.le_of_ble_eq_true rfl) ⟨Nat.le_of_ble_eq_true rfl, Nat.le_of_ble_eq_true rfl⟩ dL_areCues_245) hw (fun H locs hw => ?_)
            refine lv_aload hx hb dL_areCues_248 (lv_at hl 2 rfl) ?_
            refine lv_iconst (v := (2 : Int32)) hx hb dL_areCues_250 (by decide) ?_
            obtain ⟨zhb20, hf⟩ := ck_some hf
            refine x_iald C0 hw zt4 zhb20 dL_areCues_251 ?_
            refine lv_icmp_ne (tgt := 319) hx hb dL_areCues_252 (by decide) (fun zc21 => ?_) (fun zc21 => ?_)
            · have hf := ite_f hf zc21
              exact w9_areCues_319 C0 hr hz fl I _ _ _ hw (lv_sub hl [] rfl) hf
            · have hf := ite_t hf zc21
              refine lv_aload_n hx hb dL_areCues_255 rfl (lv_at hl 0 rfl) ?_
              refine lv_iconst (v := (5 : Int32)) hx hb dL_areCues_256 (by decide) ?_
              obtain ⟨zv22, ze23, hf⟩ := nn_some hf
              refine x_ci (r := zv22) (I1 := I) (X1 := X) (x_runV (As := [.int (5 : Int32)]) (rest := []) C0 (c8_count l E G fl X I zx0 (5 : Int32) zt0 ze23) hw 8 zt0 (by decide) rfl wd74 wd435 wd436 wd437 wd107 ⟨rfl, rfl⟩ hy8_count ⟨Nat.le_of_ble_eq_true rfl, Nat.le_of_ble_eq_true rfl⟩ rfl hl.1 (Nat.le_of_ble_eq_true rfl) ⟨Nat.le_of_ble_eq_true rfl, Nat.le_of_ble_eq_true rfl⟩ dL_areCues_257) hw (fun H locs hw => ?_)
              refine lv_aload hx hb dL_areCues_260 (lv_at hl 2 rfl) ?_
              refine lv_iconst (v := (3 : Int32)) hx hb dL_areCues_262 (by decide) ?_
              obtain ⟨zhb24, hf⟩ := ck_some hf
              refine x_iald C0 hw zt4 zhb24 dL_areCues_263 ?_
              refine lv_icmp_ne (tgt := 319) hx hb dL_areCues_264 (by decide) (fun zc25 => ?_) (fun zc25 => ?_)
              · have hf := ite_f hf zc25
                exact w9_areCues_319 C0 hr hz fl I _ _ _ hw (lv_sub hl [] rfl) hf
              · have hf := ite_t hf zc25
                refine lv_aload_n hx hb dL_areCues_267 rfl (lv_at hl 0 rfl) ?_
                refine lv_bipush (v := (9 : Int32)) hx hb dL_areCues_268 (by decide) ?_
                obtain ⟨zv26, ze27, hf⟩ := nn_some hf
                refine x_ci (r := zv26) (I1 := I) (X1 := X) (x_runV (As := [.int (9 : Int32)]) (rest := []) C0 (c8_count l E G fl X I zx0 (9 : Int32) zt0 ze27) hw 8 zt0 (by decide) rfl wd74 wd435 wd436 wd437 wd107 ⟨rfl, rfl⟩ hy8_count ⟨Nat.le_of_ble_eq_true rfl, Nat.le_of_ble_eq_true rfl⟩ rfl hl.1 (Nat.le_of_ble_eq_true rfl) ⟨Nat.le_of_ble_eq_true rfl, Nat.le_of_ble_eq_true rfl⟩ dL_areCues_270) hw (fun H locs hw => ?_)
                refine lv_aload_n hx hb dL_areCues_273 rfl (lv_at hl 1 rfl) ?_
                refine lv_iconst (v := (0 : Int32)) hx hb dL_areCues_274 (by decide) ?_
                obtain ⟨zhb28, hf⟩ := ck_some hf
                refine x_iald C0 hw zt1 zhb28 dL_areCues_275 ?_
                refine lv_icmp_ne (tgt := 319) hx hb dL_areCues_276 (by decide) (fun zc29 => ?_) (fun zc29 => ?_)
                · have hf := ite_f hf zc29
                  exact w9_areCues_319 C0 hr hz fl I _ _ _ hw (lv_sub hl [] rfl) hf
                · have hf := ite_t hf zc29
                  refine lv_aload_n hx hb dL_areCues_279 rfl (lv_at hl 0 rfl) ?_
                  refine lv_bipush (v := (10 : Int32)) hx hb dL_areCues_280 (by decide) ?_
                  obtain ⟨zv30, ze31, hf⟩ := nn_some hf
                  refine x_ci (r := zv30) (I1 := I) (X1 := X) (x_runV (As := [.int (10 : Int32)]) (rest := []) C0 (c8_count l E G fl X I zx0 (10 : Int32) zt0 ze31) hw 8 zt0 (by decide) rfl wd74 wd435 wd436 wd437 wd107 ⟨rfl, rfl⟩ hy8_count ⟨Nat.le_of_ble_eq_true rfl, Nat.le_of_ble_eq_true rfl⟩ rfl hl.1 (Nat.le_of_ble_eq_true rfl) ⟨Nat.le_of_ble_eq_true rfl, Nat.le_of_ble_eq_true rfl⟩ dL_areCues_282) hw (fun H locs hw => ?_)
                  refine lv_aload_n hx hb dL_areCues_285 rfl (lv_at hl 1 rfl) ?_
                  refine lv_iconst (v := (1 : Int32)) hx hb dL_areCues_286 (by decide) ?_
                  obtain ⟨zhb32, hf⟩ := ck_some hf
                  refine x_iald C0 hw zt1 zhb32 dL_areCues_287 ?_
                  refine lv_icmp_ne (tgt := 319) hx hb dL_areCues_288 (by decide) (fun zc33 => ?_) (fun zc33 => ?_)
                  · have hf := ite_f hf zc33
                    exact w9_areCues_319 C0 hr hz fl I _ _ _ hw (lv_sub hl [] rfl) hf
                  · have hf := ite_t hf zc33
                    refine lv_aload_n hx hb dL_areCues_291 rfl (lv_at hl 0 rfl) ?_
                    refine lv_bipush (v := (11 : Int32)) hx hb dL_areCues_292 (by decide) ?_
                    obtain ⟨zv34, ze35, hf⟩ := nn_some hf
                    refine x_ci (r := zv34) (I1 := I) (X1 := X) (x_runV (As := [.int (11 : Int32)]) (rest := []) C0 (c8_count l E G fl X I zx0 (11 : Int32) zt0 ze35) hw 8 zt0 (by decide) rfl wd74 wd435 wd436 wd437 wd107 ⟨rfl, rfl⟩ hy8_count ⟨Nat.le_of_ble_eq_true rfl, Nat.le_of_ble_eq_true rfl⟩ rfl hl.1 (Nat.le_of_ble_eq_true rfl) ⟨Nat.le_of_ble_eq_true rfl, Nat.le_of_ble_eq_true rfl⟩ dL_areCues_294) hw (fun H locs hw => ?_)
                    refine lv_aload_n hx hb dL_areCues_297 rfl (lv_at hl 1 rfl) ?_
                    refine lv_iconst (v := (2 : Int32)) hx hb dL_areCues_298 (by decide) ?_
                    obtain ⟨zhb36, hf⟩ := ck_some hf
                    refine x_iald C0 hw zt1 zhb36 dL_areCues_299 ?_
                    refine lv_icmp_ne (tgt := 319) hx hb dL_areCues_300 (by decide) (fun zc37 => ?_) (fun zc37 => ?_)
                    · have hf := ite_f hf zc37
                      exact w9_areCues_319 C0 hr hz fl I _ _ _ hw (lv_sub hl [] rfl) hf
                    · have hf := ite_t hf zc37
                      refine lv_aload_n hx hb dL_areCues_303 rfl (lv_at hl 0 rfl) ?_
                      refine lv_bipush (v := (12 : Int32)) hx hb dL_areCues_304 (by decide) ?_
                      obtain ⟨zv38, ze39, hf⟩ := nn_some hf
                      refine x_ci (r := zv38) (I1 := I) (X1 := X) (x_runV (As := [.int (12 : Int32)]) (rest := []) C0 (c8_count l E G fl X I zx0 (12 : Int32) zt0 ze39) hw 8 zt0 (by decide) rfl wd74 wd435 wd436 wd437 wd107 ⟨rfl, rfl⟩ hy8_count ⟨Nat.le_of_ble_eq_true rfl, Nat.le_of_ble_eq_true rfl⟩ rfl hl.1 (Nat.le_of_ble_eq_true rfl) ⟨Nat.le_of_ble_eq_true rfl, Nat.le_of_ble_eq_true rfl⟩ dL_areCues_306) hw (fun H locs hw => ?_)
                      refine lv_aload_n hx hb dL_areCues_309 rfl (lv_at hl 1 rfl) ?_
                      refine lv_iconst (v := (3 : Int32)) hx hb dL_areCues_310 (by decide) ?_
                      obtain ⟨zhb40, hf⟩ := ck_some hf
                      refine x_iald C0 hw zt1 zhb40 dL_areCues_311 ?_
                      refine lv_icmp_ne (tgt := 319) hx hb dL_areCues_312 (by decide) (fun zc41 => ?_) (fun zc41 => ?_)
                      · have hf := ite_f hf zc41
                        exact w9_areCues_319 C0 hr hz fl I _ _ _ hw (lv_sub hl [] rfl) hf
                      · have hf := ite_t hf zc41
                        refine lv_iconst (v := (1 : Int32)) hx hb dL_areCues_315 (by decide) ?_
                        refine lv_goto (tgt := 320) hx hb dL_areCues_316 (by decide) ?_
                        exact w9_areCues_320 C0 hr hz fl I _ _ _ (1 : Int32) hw (lv_sub hl [] rfl) hf
noncomputable def m9_areCues_169 (fl : Nat) (len : Nat → Nat) (X : Xm) (zr37 : Im → Nat → Nat → Nat → Nat → Nat → Int32 → Int32 → Option (Int32 × Im)) (I : Im) (zx0 : Nat) (zx1 : Nat) (zx2 : Nat) (zx3 : Nat) (zx4 : Nat) (zx6 : Int32) (zs0 : Int32) : Option (Int32 × Im) :=
  ck (inb zx6 (len zx3) = true) <|
  ck (inb ((gA I zx3 (zx6).toNatClampNeg) / (2048 : Int32)) (len zx4) = true) <|
  lt (pA I zx4 (((gA I zx3 (zx6).toNatClampNeg) / (2048 : Int32))).toNatClampNeg ((gA I zx4 (((gA I zx3 (zx6).toNatClampNeg) / (2048 : Int32))).toNatClampNeg) + (1 : Int32))) fun zI3 =>
  lt (zx6 + 1) fun zv4 =>
  zr37 zI3 zx0 zx1 zx2 zx3 zx4 zs0 zv4
set_option maxHeartbeats 4000000 in
set_option maxRecDepth 100000 in
theorem w9_areCues_169 {p : Program} {l : Launch} {e : Env} {s : State} {m : MethodId} {args : Array Value} {below : List Frame} {meth : Method} {c : Code} {E : EN} {G : GM} {X : Xm} (C0 : CX p s m args meth c E cL_areCues RL 7) (hr : meth.sig.returnType = (some .boolean)) (hz : s.heap.size + 1 ≤ eB E + G.1) {rr : Int32 × Im} (fl : Nat) (zr37 : Im → Nat → Nat → Nat → Nat → Nat → Int32 → Int32 → Option (Int32 × Im)) (zhr37 : ∀ (I : Im) (H : Heap) (locs : List Loc) (ls : Array Slot) (zx0 : Nat) (zx1 : Nat) (zx2 : Nat) (zx3 : Nat) (zx4 : Nat) (zx5 : Int32) (zx6 : Int32) (zt0 : okA E G 8 zx0) (zt1 : okA E G 11 zx1) (zt2 : okA E G 11 zx2) (zt3 : okA E G 11 zx3) (zt4 : okA E G 11 zx4), WD E G I X s.heap H locs → lv_has ls 7 [(0, .ref zx0), (1, .ref zx1), (2, .ref zx2), (3, .ref zx3), (4, .ref zx4), (5, .int zx5), (6, .int zx6)] → zr37 I zx0 zx1 zx2 zx3 zx4 zx5 zx6 = some rr → W p l e ({ frames := 6, cells := 1, slots := 4, locals := 134 } : Room) s m args below meth c H locs 1 4 (MQ below (QI E G rr.1 rr.2 X) args s 1 4 (eA E)) (F0 m 37 ls [])) : ∀ (I : Im) (H : Heap) (locs : List Loc) (ls : Array Slot) (zx0 : Nat) (zx1 : Nat) (zx2 : Nat) (zx3 : Nat) (zx4 : Nat) (zx6 : Int32) (zs0 : Int32) (zt0 : okA E G 8 zx0) (zt1 : okA E G 11 zx1) (zt2 : okA E G 11 zx2) (zt3 : okA E G 11 zx3) (zt4 : okA E G 11 zx4), WD E G I X s.heap H locs → lv_has ls 7 [(0, .ref zx0), (1, .ref zx1), (2, .ref zx2), (3, .ref zx3), (4, .ref zx4), (6, .int zx6)] → m9_areCues_169 fl G.2.2 X zr37 I zx0 zx1 zx2 zx3 zx4 zx6 zs0 = some rr → W p l e ({ frames := 6, cells := 1, slots := 4, locals := 134 } : Room) s m args below meth c H locs 1 4 (MQ below (QI E G rr.1 rr.2 X) args s 1 4 (eA E)) (F0 m 169 ls [.int zs0]) := by
  intro I H locs ls zx0 zx1 zx2 zx3 zx4 zx6 zs0 zt0 zt1 zt2 zt3 zt4 hw hl hf
  unfold m9_areCues_169 at hf
  have hx := C0.1; have hb := C0.2.1; have hml := C0.2.2.1; have hown := C0.2.2.2.1; have hts := C0.2.2.2.2.1
  refine lv_istore (lv' := [(5, .int zs0), (0, .ref zx0), (1, .ref zx1), (2, .ref zx2), (3, .ref zx3), (4, .ref zx4), (6, .int zx6)]) hx hb dL_areCues_169 hl (by decide) rfl (fun ls hl => ?_)
  refine lv_aload hx hb dL_areCues_171 (lv_at hl 5 rfl) ?_
  refine lv_aload_n hx hb dL_areCues_173 rfl (lv_at hl 4 rfl) ?_
  refine lv_iload hx hb dL_areCues_174 (lv_at hl 6 rfl) ?_
  obtain ⟨zhb1, hf⟩ := ck_some hf
  refine x_iald C0 hw zt3 zhb1 dL_areCues_176 ?_
  refine lv_sipush (v := (2048 : Int32)) hx hb dL_areCues_177 (by decide) ?_
  refine lv_idiv hx hb dL_areCues_180 (by decide) ?_
  refine lv_dup2_11 hx hb dL_areCues_181 rfl rfl ?_
  obtain ⟨zhb2, hf⟩ := ck_some hf
  refine x_iald C0 hw zt4 zhb2 dL_areCues_182 ?_
  refine lv_iconst (v := (1 : Int32)) hx hb dL_areCues_183 (by decide) ?_
  refine lv_iadd hx hb dL_areCues_184 ?_
  obtain ⟨zI3, ezI3⟩ : ∃ y : Im, y = pA I zx4 (((gA I zx3 (zx6).toNatClampNeg) / (2048 : Int32))).toNatClampNeg ((gA I zx4 (((gA I zx3 (zx6).toNatClampNeg) / (2048 : Int32))).toNatClampNeg) + (1 : Int32)) := ⟨_, rfl⟩
  have hf := lt_at hf ezI3
  refine x_iast C0 hz hw zt4 zhb2 dL_areCues_185 ezI3 (fun H locs hw => ?_)
  obtain ⟨zv4, ezv4⟩ : ∃ y : Int32, y = zx6 + 1 := ⟨_, rfl⟩
  have hf := lt_at hf ezv4
  refine lv_iinc (v := zv4) (lv' := [(6, .int zv4), (5, .int zs0), (0, .ref zx0), (1, .ref zx1), (2, .ref zx2), (3, .ref zx3), (4, .ref zx4)]) hx hb dL_areCues_186 hl (k := 6) rfl (by rw [ezv4]; rfl) (by decide) rfl (fun ls hl => ?_)
  refine lv_goto (tgt := 37) hx hb dL_areCues_189 (by decide) ?_
  exact zhr37 zI3 _ _ _ zx0 zx1 zx2 zx3 zx4 zs0 zv4 zt0 zt1 zt2 zt3 zt4 hw (lv_sub hl [2, 3, 4, 5, 6, 1, 0] rfl) hf
noncomputable def m9_areCues_168 (fl : Nat) (len : Nat → Nat) (X : Xm) (zr37 : Im → Nat → Nat → Nat → Nat → Nat → Int32 → Int32 → Option (Int32 × Im)) (I : Im) (zx0 : Nat) (zx1 : Nat) (zx2 : Nat) (zx3 : Nat) (zx4 : Nat) (zx6 : Int32) : Option (Int32 × Im) :=
  m9_areCues_169 fl len X zr37 I zx0 zx1 zx2 zx3 zx4 zx6 (0 : Int32)
set_option maxHeartbeats 4000000 in
set_option maxRecDepth 100000 in
theorem w9_areCues_168 {p : Program} {l : Launch} {e : Env} {s : State} {m : MethodId} {args : Array Value} {below : List Frame} {meth : Method} {c : Code} {E : EN} {G : GM} {X : Xm} (C0 : CX p s m args meth c E cL_areCues RL 7) (hr : meth.sig.returnType = (some .boolean)) (hz : s.heap.size + 1 ≤ eB E + G.1) {rr : Int32 × Im} (fl : Nat) (zr37 : Im → Nat → Nat → Nat → Nat → Nat → Int32 → Int32 → Option (Int32 × Im)) (zhr37 : ∀ (I : Im) (H : Heap) (locs : List Loc) (ls : Array Slot) (zx0 : Nat) (zx1 : Nat) (zx2 : Nat) (zx3 : Nat) (zx4 : Nat) (zx5 : Int32) (zx6 : Int32) (zt0 : okA E G 8 zx0) (zt1 : okA E G 11 zx1) (zt2 : okA E G 11 zx2) (zt3 : okA E G 11 zx3) (zt4 : okA E G 11 zx4), WD E G I X s.heap H locs → lv_has ls 7 [(0, .ref zx0), (1, .ref zx1), (2, .ref zx2), (3, .ref zx3), (4, .ref zx4), (5, .int zx5), (6, .int zx6)] → zr37 I zx0 zx1 zx2 zx3 zx4 zx5 zx6 = some rr → W p l e ({ frames := 6, cells := 1, slots := 4, locals := 134 } : Room) s m args below meth c H locs 1 4 (MQ below (QI E G rr.1 rr.2 X) args s 1 4 (eA E)) (F0 m 37 ls [])) : ∀ (I : Im) (H : Heap) (locs : List Loc) (ls : Array Slot) (zx0 : Nat) (zx1 : Nat) (zx2 : Nat) (zx3 : Nat) (zx4 : Nat) (zx6 : Int32) (zt0 : okA E G 8 zx0) (zt1 : okA E G 11 zx1) (zt2 : okA E G 11 zx2) (zt3 : okA E G 11 zx3) (zt4 : okA E G 11 zx4), WD E G I X s.heap H locs → lv_has ls 7 [(0, .ref zx0), (1, .ref zx1), (2, .ref zx2), (3, .ref zx3), (4, .ref zx4), (6, .int zx6)] → m9_areCues_168 fl G.2.2 X zr37 I zx0 zx1 zx2 zx3 zx4 zx6 = some rr → W p l e ({ frames := 6, cells := 1, slots := 4, locals := 134 } : Room) s m args below meth c H locs 1 4 (MQ below (QI E G rr.1 rr.2 X) args s 1 4 (eA E)) (F0 m 168 ls []) := by
  intro I H locs ls zx0 zx1 zx2 zx3 zx4 zx6 zt0 zt1 zt2 zt3 zt4 hw hl hf
  unfold m9_areCues_168 at hf
  have hx := C0.1; have hb := C0.2.1; have hml := C0.2.2.1; have hown := C0.2.2.2.1; have hts := C0.2.2.2.2.1
  refine lv_iconst (v := (0 : Int32)) hx hb dL_areCues_168 (by decide) ?_
  exact w9_areCues_169 C0 hr hz fl zr37 zhr37 I _ _ _ zx0 zx1 zx2 zx3 zx4 zx6 (0 : Int32) zt0 zt1 zt2 zt3 zt4 hw (lv_sub hl [0, 1, 2, 3, 4, 5] rfl) hf
noncomputable def m9_areCues_164 (fl : Nat) (len : Nat → Nat) (X : Xm) (zr37 : Im → Nat → Nat → Nat → Nat → Nat → Int32 → Int32 → Option (Int32 × Im)) (I : Im) (zx0 : Nat) (zx1 : Nat) (zx2 : Nat) (zx3 : Nat) (zx4 : Nat) (zx6 : Int32) : Option (Int32 × Im) :=
  m9_areCues_169 fl len X zr37 I zx0 zx1 zx2 zx3 zx4 zx6 (1 : Int32)
set_option maxHeartbeats 4000000 in
set_option maxRecDepth 100000 in
theorem w9_areCues_164 {p : Program} {l : Launch} {e : Env} {s : State} {m : MethodId} {args : Array Value} {below : List Frame} {meth : Method} {c : Code} {E : EN} {G : GM} {X : Xm} (C0 : CX p s m args meth c E cL_areCues RL 7) (hr : meth.sig.returnType = (some .boolean)) (hz : s.heap.size + 1 ≤ eB E + G.1) {rr : Int32 × Im} (fl : Nat) (zr37 : Im → Nat → Nat → Nat → Nat → Nat → Int32 → Int32 → Option (Int32 × Im)) (zhr37 : ∀ (I : Im) (H : Heap) (locs : List Loc) (ls : Array Slot) (zx0 : Nat) (zx1 : Nat) (zx2 : Nat) (zx3 : Nat) (zx4 : Nat) (zx5 : Int32) (zx6 : Int32) (zt0 : okA E G 8 zx0) (zt1 : okA E G 11 zx1) (zt2 : okA E G 11 zx2) (zt3 : okA E G 11 zx3) (zt4 : okA E G 11 zx4), WD E G I X s.heap H locs → lv_has ls 7 [(0, .ref zx0), (1, .ref zx1), (2, .ref zx2), (3, .ref zx3), (4, .ref zx4), (5, .int zx5), (6, .int zx6)] → zr37 I zx0 zx1 zx2 zx3 zx4 zx5 zx6 = some rr → W p l e ({ frames := 6, cells := 1, slots := 4, locals := 134 } : Room) s m args below meth c H locs 1 4 (MQ below (QI E G rr.1 rr.2 X) args s 1 4 (eA E)) (F0 m 37 ls [])) : ∀ (I : Im) (H : Heap) (locs : List Loc) (ls : Array Slot) (zx0 : Nat) (zx1 : Nat) (zx2 : Nat) (zx3 : Nat) (zx4 : Nat) (zx6 : Int32) (zt0 : okA E G 8 zx0) (zt1 : okA E G 11 zx1) (zt2 : okA E G 11 zx2) (zt3 : okA E G 11 zx3) (zt4 : okA E G 11 zx4), WD E G I X s.heap H locs → lv_has ls 7 [(0, .ref zx0), (1, .ref zx1), (2, .ref zx2), (3, .ref zx3), (4, .ref zx4), (6, .int zx6)] → m9_areCues_164 fl G.2.2 X zr37 I zx0 zx1 zx2 zx3 zx4 zx6 = some rr → W p l e ({ frames := 6, cells := 1, slots := 4, locals := 134 } : Room) s m args below meth c H locs 1 4 (MQ below (QI E G rr.1 rr.2 X) args s 1 4 (eA E)) (F0 m 164 ls []) := by
  intro I H locs ls zx0 zx1 zx2 zx3 zx4 zx6 zt0 zt1 zt2 zt3 zt4 hw hl hf
  unfold m9_areCues_164 at hf
  have hx := C0.1; have hb := C0.2.1; have hml := C0.2.2.1; have hown := C0.2.2.2.1; have hts := C0.2.2.2.2.1
  refine lv_iconst (v := (1 : Int32)) hx hb dL_areCues_164 (by decide) ?_
  refine lv_goto (tgt := 169) hx hb dL_areCues_165 (by decide) ?_
  exact w9_areCues_169 C0 hr hz fl zr37 zhr37 I _ _ _ zx0 zx1 zx2 zx3 zx4 zx6 (1 : Int32) zt0 zt1 zt2 zt3 zt4 hw (lv_sub hl [0, 1, 2, 3, 4, 5] rfl) hf
noncomputable def m9_areCues_37b (fl : Nat) (len : Nat → Nat) (X : Xm) (zr37 : Im → Nat → Nat → Nat → Nat → Nat → Int32 → Int32 → Option (Int32 × Im)) (I : Im) (zx0 : Nat) (zx1 : Nat) (zx2 : Nat) (zx3 : Nat) (zx4 : Nat) (zx5 : Int32) (zx6 : Int32) : Option (Int32 × Im) :=
  ck (inb (5 : Int32) (len zx1) = true) <|
  if (gA I zx1 ((5 : Int32)).toNatClampNeg) ≤ zx6 then
    m9_areCues_192 fl len X I zx0 zx1 zx4 zx5
  else
    if zx5 = 0 then
      m9_areCues_192 fl len X I zx0 zx1 zx4 zx5
    else
      nn (m8_ofCue fl len X I zx0 zx6 (0 : Int32)) fun zv4 =>
      ck (inb zx6 (len zx2) = true) <|
      if zv4 = (gA I zx2 (zx6).toNatClampNeg) then
        nn (m8_ofCue fl len X I zx0 zx6 (1 : Int32)) fun zv8 =>
        ck (inb zx6 (len zx3) = true) <|
        if zv8 = ((gA I zx3 (zx6).toNatClampNeg) - (gA I zx3 (zx6).toNatClampNeg) / (4 : Int32) * (4 : Int32)) then
          nn (m8_ofCue fl len X I zx0 zx6 (2 : Int32)) fun zv12 =>
          if zv12 = (((gA I zx3 (zx6).toNatClampNeg) / (4 : Int32)) - ((gA I zx3 (zx6).toNatClampNeg) / (4 : Int32)) / (4 : Int32) * (4 : Int32)) then
            nn (m8_ofCue fl len X I zx0 zx6 (3 : Int32)) fun zv15 =>
            if zv15 = (((gA I zx3 (zx6).toNatClampNeg) / (16 : Int32)) - ((gA I zx3 (zx6).toNatClampNeg) / (16 : Int32)) / (128 : Int32) * (128 : Int32)) then
              nn (m8_ofCue fl len X I zx0 zx6 (4 : Int32)) fun zv18 =>
              if zv18 = ((gA I zx3 (zx6).toNatClampNeg) / (2048 : Int32)) then
                if (gA I zx3 (zx6).toNatClampNeg) < (2048 : Int32) then
                  m9_areCues_164 fl len X zr37 I zx0 zx1 zx2 zx3 zx4 zx6
                else
                  nn (m8_becomes fl len X I zx0 zx6) fun ⟨zv22, zI23⟩ =>
                  if zv22 = ((gA zI23 zx3 (zx6).toNatClampNeg) / (2048 : Int32)) then
                    m9_areCues_164 fl len X zr37 zI23 zx0 zx1 zx2 zx3 zx4 zx6
                  else
                    m9_areCues_168 fl len X zr37 zI23 zx0 zx1 zx2 zx3 zx4 zx6
              else
                m9_areCues_168 fl len X zr37 I zx0 zx1 zx2 zx3 zx4 zx6
            else
              m9_areCues_168 fl len X zr37 I zx0 zx1 zx2 zx3 zx4 zx6
          else
            m9_areCues_168 fl len X zr37 I zx0 zx1 zx2 zx3 zx4 zx6
        else
          m9_areCues_168 fl len X zr37 I zx0 zx1 zx2 zx3 zx4 zx6
      else
        m9_areCues_168 fl len X zr37 I zx0 zx1 zx2 zx3 zx4 zx6
noncomputable def m9_areCues_37 (fl : Nat) (len : Nat → Nat) (X : Xm) (n : Nat) : Im → Nat → Nat → Nat → Nat → Nat → Int32 → Int32 → Option (Int32 × Im) :=
  Nat.rec (fun _ _ _ _ _ _ _ _ => none) (fun _ r => m9_areCues_37b fl len X r) n
set_option maxHeartbeats 4000000 in
set_option maxRecDepth 100000 in
theorem w9_areCues_37b {p : Program} {l : Launch} {e : Env} {s : State} {m : MethodId} {args : Array Value} {below : List Frame} {meth : Method} {c : Code} {E : EN} {G : GM} {X : Xm} (C0 : CX p s m args meth c E cL_areCues RL 7) (hr : meth.sig.returnType = (some .boolean)) (hz : s.heap.size + 1 ≤ eB E + G.1) {rr : Int32 × Im} (fl : Nat) (zr37 : Im → Nat → Nat → Nat → Nat → Nat → Int32 → Int32 → Option (Int32 × Im)) (zhr37 : ∀ (I : Im) (H : Heap) (locs : List Loc) (ls : Array Slot) (zx0 : Nat) (zx1 : Nat) (zx2 : Nat) (zx3 : Nat) (zx4 : Nat) (zx5 : Int32) (zx6 : Int32) (zt0 : okA E G 8 zx0) (zt1 : okA E G 11 zx1) (zt2 : okA E G 11 zx2) (zt3 : okA E G 11 zx3) (zt4 : okA E G 11 zx4), WD E G I X s.heap H locs → lv_has ls 7 [(0, .ref zx0), (1, .ref zx1), (2, .ref zx2), (3, .ref zx3), (4, .ref zx4), (5, .int zx5), (6, .int zx6)] → zr37 I zx0 zx1 zx2 zx3 zx4 zx5 zx6 = some rr → W p l e ({ frames := 6, cells := 1, slots := 4, locals := 134 } : Room) s m args below meth c H locs 1 4 (MQ below (QI E G rr.1 rr.2 X) args s 1 4 (eA E)) (F0 m 37 ls [])) : ∀ (I : Im) (H : Heap) (locs : List Loc) (ls : Array Slot) (zx0 : Nat) (zx1 : Nat) (zx2 : Nat) (zx3 : Nat) (zx4 : Nat) (zx5 : Int32) (zx6 : Int32) (zt0 : okA E G 8 zx0) (zt1 : okA E G 11 zx1) (zt2 : okA E G 11 zx2) (zt3 : okA E G 11 zx3) (zt4 : okA E G 11 zx4), WD E G I X s.heap H locs → lv_has ls 7 [(0, .ref zx0), (1, .ref zx1), (2, .ref zx2), (3, .ref zx3), (4, .ref zx4), (5, .int zx5), (6, .int zx6)] → m9_areCues_37b fl G.2.2 X zr37 I zx0 zx1 zx2 zx3 zx4 zx5 zx6 = some rr → W p l e ({ frames := 6, cells := 1, slots := 4, locals := 134 } : Room) s m args below meth c H locs 1 4 (MQ below (QI E G rr.1 rr.2 X) args s 1 4 (eA E)) (F0 m 37 ls []) := by
  intro I H locs ls zx0 zx1 zx2 zx3 zx4 zx5 zx6 zt0 zt1 zt2 zt3 zt4 hw hl hf
  unfold m9_areCues_37b at hf
  have hx := C0.1; have hb := C0.2.1; have hml := C0.2.2.1; have hown := C0.2.2.2.1; have hts := C0.2.2.2.2.1
  refine lv_iload hx hb dL_areCues_37 (lv_at hl 6 rfl) ?_
  refine lv_aload_n hx hb dL_areCues_39 rfl (lv_at hl 1 rfl) ?_
  refine lv_iconst (v := (5 : Int32)) hx hb dL_areCues_40 (by decide) ?_
  obtain ⟨zhb1, hf⟩ := ck_some hf
  refine x_iald C0 hw zt1 zhb1 dL_areCues_41 ?_
  refine lv_icmp_ge (tgt := 192) hx hb dL_areCues_42 (by decide) (fun zc2 => ?_) (fun zc2 => ?_)
  · have hf := ite_t hf zc2
    exact w9_areCues_192 C0 hr hz fl I _ _ _ zx0 zx1 zx4 zx5 zt0 zt1 zt4 hw (lv_sub hl [0, 1, 4, 5] rfl) hf
  · have hf := ite_f hf zc2
    refine lv_iload hx hb dL_areCues_45 (lv_at hl 5 rfl) ?_
    refine lv_if_eq (tgt := 192) hx hb dL_areCues_47 (by decide) (fun zc3 => ?_) (fun zc3 => ?_)
    · have hf := ite_t hf zc3
      exact w9_areCues_192 C0 hr hz fl I _ _ _ zx0 zx1 zx4 zx5 zt0 zt1 zt4 hw (lv_sub hl [0, 1, 4, 5] rfl) hf
    · have hf := ite_f hf zc3
      refine lv_aload_n hx hb dL_areCues_50 rfl (lv_at hl 0 rfl) ?_
      refine lv_iload hx hb dL_areCues_51 (lv_at hl 6 rfl) ?_
      refine lv_iconst (v := (0 : Int32)) hx hb dL_areCues_53 (by decide) ?_
      obtain ⟨zv4, ze5, hf⟩ := nn_some hf
      refine x_ci (r := zv4) (I1 := I) (X1 := X) (x_runV (As := [.int zx6, .int (0 : Int32)]) (rest := []) C0 (c8_ofCue l E G fl X I zx0 zx6 (0 : Int32) zt0 ze5) hw 8 zt0 (by decide) rfl wd68 wd429 wd430 wd431 wd107 ⟨rfl, rfl⟩ hy8_ofCue ⟨Nat.le_of_ble_eq_true rfl, Nat.le_of_ble_eq_true rfl⟩ rfl hl.1 (Nat.le_of_ble_eq_true rfl) ⟨Nat.le_of_ble_eq_true rfl, Nat.le_of_ble_eq_true rfl⟩ dL_areCues_54) hw (fun H locs hw => ?_)
      refine lv_aload_n hx hb dL_areCues_57 rfl (lv_at hl 2 rfl) ?_
      refine lv_iload hx hb dL_areCues_58 (lv_at hl 6 rfl) ?_
      obtain ⟨zhb6, hf⟩ := ck_some hf
      refine x_iald C0 hw zt2 zhb6 dL_areCues_60 ?_
      refine lv_icmp_ne (tgt := 168) hx hb dL_areCues_61 (by decide) (fun zc7 => ?_) (fun zc7 => ?_)
      · have hf := ite_f hf zc7
        exact w9_areCues_168 C0 hr hz fl zr37 zhr37 I _ _ _ zx0 zx1 zx2 zx3 zx4 zx6 zt0 zt1 zt2 zt3 zt4 hw (lv_sub hl [0, 1, 2, 3, 4, 6] rfl) hf
      · have hf := ite_t hf zc7
        refine lv_aload_n hx hb dL_areCues_64 rfl (lv_at hl 0 rfl) ?_
        refine lv_iload hx hb dL_areCues_65 (lv_at hl 6 rfl) ?_
        refine lv_iconst (v := (1 : Int32)) hx hb dL_areCues_67 (by decide) ?_
        obtain ⟨zv8, ze9, hf⟩ := nn_some hf
        refine x_ci (r := zv8) (I1 := I) (X1 := X) (x_runV (As := [.int zx6, .int (1 : Int32)]) (rest := []) C0 (c8_ofCue l E G fl X I zx0 zx6 (1 : Int32) zt0 ze9) hw 8 zt0 (by decide) rfl wd68 wd429 wd430 wd431 wd107 ⟨rfl, rfl⟩ hy8_ofCue ⟨Nat.le_of_ble_eq_true rfl, Nat.le_of_ble_eq_true rfl⟩ rfl hl.1 (Nat.le_of_ble_eq_true rfl) ⟨Nat.le_of_ble_eq_true rfl, Nat.le_of_ble_eq_true rfl⟩ dL_areCues_68) hw (fun H locs hw => ?_)
        refine lv_aload_n hx hb dL_areCues_71 rfl (lv_at hl 3 rfl) ?_
        refine lv_iload hx hb dL_areCues_72 (lv_at hl 6 rfl) ?_
        obtain ⟨zhb10, hf⟩ := ck_some hf
        refine x_iald C0 hw zt3 zhb10 dL_areCues_74 ?_
        refine lv_iconst (v := (4 : Int32)) hx hb dL_areCues_75 (by decide) ?_
        refine lv_irem hx hb dL_areCues_76 (by decide) ?_
        refine lv_icmp_ne (tgt := 168) hx hb dL_areCues_77 (by decide) (fun zc11 => ?_) (fun zc11 => ?_)
        · have hf := ite_f hf zc11
          exact w9_areCues_168 C0 hr hz fl zr37 zhr37 I _ _ _ zx0 zx1 zx2 zx3 zx4 zx6 zt0 zt1 zt2 zt3 zt4 hw (lv_sub hl [0, 1, 2, 3, 4, 6] rfl) hf
        · have hf := ite_t hf zc11
          refine lv_aload_n hx hb dL_areCues_80 rfl (lv_at hl 0 rfl) ?_
          refine lv_iload hx hb dL_areCues_81 (lv_at hl 6 rfl) ?_
          refine lv_iconst (v := (2 : Int32)) hx hb dL_areCues_83 (by decide) ?_
          obtain ⟨zv12, ze13, hf⟩ := nn_some hf
          refine x_ci (r := zv12) (I1 := I) (X1 := X) (x_runV (As := [.int zx6, .int (2 : Int32)]) (rest := []) C0 (c8_ofCue l E G fl X I zx0 zx6 (2 : Int32) zt0 ze13) hw 8 zt0 (by decide) rfl wd68 wd429 wd430 wd431 wd107 ⟨rfl, rfl⟩ hy8_ofCue ⟨Nat.le_of_ble_eq_true rfl, Nat.le_of_ble_eq_true rfl⟩ rfl hl.1 (Nat.le_of_ble_eq_true rfl) ⟨Nat.le_of_ble_eq_true rfl, Nat.le_of_ble_eq_true rfl⟩ dL_areCues_84) hw (fun H locs hw => ?_)
          refine lv_aload_n hx hb dL_areCues_87 rfl (lv_at hl 3 rfl) ?_
          refine lv_iload hx hb dL_areCues_88 (lv_at hl 6 rfl) ?_
          refine x_iald C0 hw zt3 zhb10 dL_areCues_90 ?_
          refine lv_iconst (v := (4 : Int32)) hx hb dL_areCues_91 (by decide) ?_
          refine lv_idiv hx hb dL_areCues_92 (by decide) ?_
          refine lv_iconst (v := (4 : Int32)) hx hb dL_areCues_93 (by decide) ?_
          refine lv_irem hx hb dL_areCues_94 (by decide) ?_
          refine lv_icmp_ne (tgt := 168) hx hb dL_areCues_95 (by decide) (fun zc14 => ?_) (fun zc14 => ?_)
          · have hf := ite_f hf zc14
            exact w9_areCues_168 C0 hr hz fl zr37 zhr37 I _ _ _ zx0 zx1 zx2 zx3 zx4 zx6 zt0 zt1 zt2 zt3 zt4 hw (lv_sub hl [0, 1, 2, 3, 4, 6] rfl) hf
          · have hf := ite_t hf zc14
            refine lv_aload_n hx hb dL_areCues_98 rfl (lv_at hl 0 rfl) ?_
            refine lv_iload hx hb dL_areCues_99 (lv_at hl 6 rfl) ?_
            refine lv_iconst (v := (3 : Int32)) hx hb dL_areCues_101 (by decide) ?_
            obtain ⟨zv15, ze16, hf⟩ := nn_some hf
            refine x_ci (r := zv15) (I1 := I) (X1 := X) (x_runV (As := [.int zx6, .int (3 : Int32)]) (rest := []) C0 (c8_ofCue l E G fl X I zx0 zx6 (3 : Int32) zt0 ze16) hw 8 zt0 (by decide) rfl wd68 wd429 wd430 wd431 wd107 ⟨rfl, rfl⟩ hy8_ofCue ⟨Nat.le_of_ble_eq_true rfl, Nat.le_of_ble_eq_true rfl⟩ rfl hl.1 (Nat.le_of_ble_eq_true rfl) ⟨Nat.le_of_ble_eq_true rfl, Nat.le_of_ble_eq_true rfl⟩ dL_areCues_102) hw (fun H locs hw => ?_)
            refine lv_aload_n hx hb dL_areCues_105 rfl (lv_at hl 3 rfl) ?_
            refine lv_iload hx hb dL_areCues_106 (lv_at hl 6 rfl) ?_
            refine x_iald C0 hw zt3 zhb10 dL_areCues_108 ?_
            refine lv_bipush (v := (16 : Int32)) hx hb dL_areCues_109 (by decide) ?_
            refine lv_idiv hx hb dL_areCues_111 (by decide) ?_
            refine lv_sipush (v := (128 : Int32)) hx hb dL_areCues_112 (by decide) ?_
            refine lv_irem hx hb dL_areCues_115 (by decide) ?_
            refine lv_icmp_ne (tgt := 168) hx hb dL_areCues_116 (by decide) (fun zc17 => ?_) (fun zc17 => ?_)
            · have hf := ite_f hf zc17
              exact w9_areCues_168 C0 hr hz fl zr37 zhr37 I _ _ _ zx0 zx1 zx2 zx3 zx4 zx6 zt0 zt1 zt2 zt3 zt4 hw (lv_sub hl [0, 1, 2, 3, 4, 6] rfl) hf
            · have hf := ite_t hf zc17
              refine lv_aload_n hx hb dL_areCues_119 rfl (lv_at hl 0 rfl) ?_
              refine lv_iload hx hb dL_areCues_120 (lv_at hl 6 rfl) ?_
              refine lv_iconst (v := (4 : Int32)) hx hb dL_areCues_122 (by decide) ?_
              obtain ⟨zv18, ze19, hf⟩ := nn_some hf
              refine x_ci (r := zv18) (I1 := I) (X1 := X) (x_runV (As := [.int zx6, .int (4 : Int32)]) (rest := []) C0 (c8_ofCue l E G fl X I zx0 zx6 (4 : Int32) zt0 ze19) hw 8 zt0 (by decide) rfl wd68 wd429 wd430 wd431 wd107 ⟨rfl, rfl⟩ hy8_ofCue ⟨Nat.le_of_ble_eq_true rfl, Nat.le_of_ble_eq_true rfl⟩ rfl hl.1 (Nat.le_of_ble_eq_true rfl) ⟨Nat.le_of_ble_eq_true rfl, Nat.le_of_ble_eq_true rfl⟩ dL_areCues_123) hw (fun H locs hw => ?_)
              refine lv_aload_n hx hb dL_areCues_126 rfl (lv_at hl 3 rfl) ?_
              refine lv_iload hx hb dL_areCues_127 (lv_at hl 6 rfl) ?_
              refine x_iald C0 hw zt3 zhb10 dL_areCues_129 ?_
              refine lv_sipush (v := (2048 : Int32)) hx hb dL_areCues_130 (by decide) ?_
              refine lv_idiv hx hb dL_areCues_133 (by decide) ?_
              refine lv_icmp_ne (tgt := 168) hx hb dL_areCues_134 (by decide) (fun zc20 => ?_) (fun zc20 => ?_)
              · have hf := ite_f hf zc20
                exact w9_areCues_168 C0 hr hz fl zr37 zhr37 I _ _ _ zx0 zx1 zx2 zx3 zx4 zx6 zt0 zt1 zt2 zt3 zt4 hw (lv_sub hl [0, 1, 2, 3, 4, 6] rfl) hf
              · have hf := ite_t hf zc20
                refine lv_aload_n hx hb dL_areCues_137 rfl (lv_at hl 3 rfl) ?_
                refine lv_iload hx hb dL_areCues_138 (lv_at hl 6 rfl) ?_
                refine x_iald C0 hw zt3 zhb10 dL_areCues_140 ?_
                refine lv_sipush (v := (2048 : Int32)) hx hb dL_areCues_141 (by decide) ?_
                refine lv_icmp_lt (tgt := 164) hx hb dL_areCues_144 (by decide) (fun zc21 => ?_) (fun zc21 => ?_)
                · have hf := ite_t hf zc21
                  exact w9_areCues_164 C0 hr hz fl zr37 zhr37 I _ _ _ zx0 zx1 zx2 zx3 zx4 zx6 zt0 zt1 zt2 zt3 zt4 hw (lv_sub hl [0, 1, 2, 3, 4, 6] rfl) hf
                · have hf := ite_f hf zc21
                  refine lv_aload_n hx hb dL_areCues_147 rfl (lv_at hl 0 rfl) ?_
                  refine lv_iload hx hb dL_areCues_148 (lv_at hl 6 rfl) ?_
                  obtain ⟨⟨zv22, zI23⟩, ze24, hf⟩ := nn_some hf
                  refine x_ci (r := zv22) (I1 := zI23) (X1 := X) (x_runV (As := [.int zx6]) (rest := []) C0 (c8_becomes l E G fl X I zx0 zx6 zt0 ze24) hw 8 zt0 (by decide) rfl wd76 wd432 wd433 wd434 wd107 ⟨rfl, rfl⟩ hy8_becomes ⟨Nat.le_of_ble_eq_true rfl, Nat.le_of_ble_eq_true rfl⟩ rfl hl.1 (Nat.le_of_ble_eq_true rfl) ⟨Nat.le_of_ble_eq_true rfl, Nat.le_of_ble_eq_true rfl⟩ dL_areCues_150) hw (fun H locs hw => ?_)
                  refine lv_aload_n hx hb dL_areCues_153 rfl (lv_at hl 3 rfl) ?_
                  refine lv_iload hx hb dL_areCues_154 (lv_at hl 6 rfl) ?_
                  refine x_iald C0 hw zt3 zhb10 dL_areCues_156 ?_
                  refine lv_sipush (v := (2048 : Int32)) hx hb dL_areCues_157 (by decide) ?_
                  refine lv_idiv hx hb dL_areCues_160 (by decide) ?_
                  refine lv_icmp_ne (tgt := 168) hx hb dL_areCues_161 (by decide) (fun zc25 => ?_) (fun zc25 => ?_)
                  · have hf := ite_f hf zc25
                    exact w9_areCues_168 C0 hr hz fl zr37 zhr37 zI23 _ _ _ zx0 zx1 zx2 zx3 zx4 zx6 zt0 zt1 zt2 zt3 zt4 hw (lv_sub hl [0, 1, 2, 3, 4, 6] rfl) hf
                  · have hf := ite_t hf zc25
                    exact w9_areCues_164 C0 hr hz fl zr37 zhr37 zI23 _ _ _ zx0 zx1 zx2 zx3 zx4 zx6 zt0 zt1 zt2 zt3 zt4 hw (lv_sub hl [0, 1, 2, 3, 4, 6] rfl) hf
theorem w9_areCues_37 {p : Program} {l : Launch} {e : Env} {s : State} {m : MethodId} {args : Array Value} {below : List Frame} {meth : Method} {c : Code} {E : EN} {G : GM} {X : Xm} (C0 : CX p s m args meth c E cL_areCues RL 7) (hr : meth.sig.returnType = (some .boolean)) (hz : s.heap.size + 1 ≤ eB E + G.1) {rr : Int32 × Im} (fl : Nat) : ∀ (n : Nat) (I : Im) (H : Heap) (locs : List Loc) (ls : Array Slot) (zx0 : Nat) (zx1 : Nat) (zx2 : Nat) (zx3 : Nat) (zx4 : Nat) (zx5 : Int32) (zx6 : Int32) (zt0 : okA E G 8 zx0) (zt1 : okA E G 11 zx1) (zt2 : okA E G 11 zx2) (zt3 : okA E G 11 zx3) (zt4 : okA E G 11 zx4), WD E G I X s.heap H locs → lv_has ls 7 [(0, .ref zx0), (1, .ref zx1), (2, .ref zx2), (3, .ref zx3), (4, .ref zx4), (5, .int zx5), (6, .int zx6)] → m9_areCues_37 fl G.2.2 X n I zx0 zx1 zx2 zx3 zx4 zx5 zx6 = some rr → W p l e ({ frames := 6, cells := 1, slots := 4, locals := 134 } : Room) s m args below meth c H locs 1 4 (MQ below (QI E G rr.1 rr.2 X) args s 1 4 (eA E)) (F0 m 37 ls []) := by
  intro n
  induction n with
  | zero => intro I H locs ls zx0 zx1 zx2 zx3 zx4 zx5 zx6 zt0 zt1 zt2 zt3 zt4 hw hl hf; exact absurd (show (none : Option (Int32 × Im)) = some rr from hf) (by simp)
  | succ n ih => intro I H locs ls zx0 zx1 zx2 zx3 zx4 zx5 zx6 zt0 zt1 zt2 zt3 zt4 hw hl hf; exact w9_areCues_37b C0 hr hz fl _ ih I H locs ls zx0 zx1 zx2 zx3 zx4 zx5 zx6 zt0 zt1 zt2 zt3 zt4 hw hl hf
noncomputable def m9_areCues_32 (fl : Nat) (len : Nat → Nat) (X : Xm) (I : Im) (zx0 : Nat) (zx1 : Nat) (zx2 : Nat) (zx3 : Nat) (zx4 : Nat) (zs0 : Int32) : Option (Int32 × Im) :=
  m9_areCues_37 fl len X fl I zx0 zx1 zx2 zx3 zx4 zs0 (0 : Int32)
set_option maxHeartbeats 4000000 in
set_option maxRecDepth 100000 in
theorem w9_areCues_32 {p : Program} {l : Launch} {e : Env} {s : State} {m : MethodId} {args : Array Value} {below : List Frame} {meth : Method} {c : Code} {E : EN} {G : GM} {X : Xm} (C0 : CX p s m args meth c E cL_areCues RL 7) (hr : meth.sig.returnType = (some .boolean)) (hz : s.heap.size + 1 ≤ eB E + G.1) {rr : Int32 × Im} (fl : Nat) : ∀ (I : Im) (H : Heap) (locs : List Loc) (ls : Array Slot) (zx0 : Nat) (zx1 : Nat) (zx2 : Nat) (zx3 : Nat) (zx4 : Nat) (zs0 : Int32) (zt0 : okA E G 8 zx0) (zt1 : okA E G 11 zx1) (zt2 : okA E G 11 zx2) (zt3 : okA E G 11 zx3) (zt4 : okA E G 11 zx4), WD E G I X s.heap H locs → lv_has ls 7 [(0, .ref zx0), (1, .ref zx1), (2, .ref zx2), (3, .ref zx3), (4, .ref zx4)] → m9_areCues_32 fl G.2.2 X I zx0 zx1 zx2 zx3 zx4 zs0 = some rr → W p l e ({ frames := 6, cells := 1, slots := 4, locals := 134 } : Room) s m args below meth c H locs 1 4 (MQ below (QI E G rr.1 rr.2 X) args s 1 4 (eA E)) (F0 m 32 ls [.int zs0]) := by
  intro I H locs ls zx0 zx1 zx2 zx3 zx4 zs0 zt0 zt1 zt2 zt3 zt4 hw hl hf
  unfold m9_areCues_32 at hf
  have hx := C0.1; have hb := C0.2.1; have hml := C0.2.2.1; have hown := C0.2.2.2.1; have hts := C0.2.2.2.2.1
  refine lv_istore (lv' := [(5, .int zs0), (0, .ref zx0), (1, .ref zx1), (2, .ref zx2), (3, .ref zx3), (4, .ref zx4)]) hx hb dL_areCues_32 hl (by decide) rfl (fun ls hl => ?_)
  refine lv_iconst (v := (0 : Int32)) hx hb dL_areCues_34 (by decide) ?_
  refine lv_istore (lv' := [(6, .int (0 : Int32)), (5, .int zs0), (0, .ref zx0), (1, .ref zx1), (2, .ref zx2), (3, .ref zx3), (4, .ref zx4)]) hx hb dL_areCues_35 hl (by decide) rfl (fun ls hl => ?_)
  exact w9_areCues_37 C0 hr hz fl fl I _ _ _ zx0 zx1 zx2 zx3 zx4 zs0 (0 : Int32) zt0 zt1 zt2 zt3 zt4 hw (lv_sub hl [2, 3, 4, 5, 6, 1, 0] rfl) hf
noncomputable def m9_areCues_31 (fl : Nat) (len : Nat → Nat) (X : Xm) (I : Im) (zx0 : Nat) (zx1 : Nat) (zx2 : Nat) (zx3 : Nat) (zx4 : Nat) : Option (Int32 × Im) :=
  m9_areCues_32 fl len X I zx0 zx1 zx2 zx3 zx4 (0 : Int32)
set_option maxHeartbeats 4000000 in
set_option maxRecDepth 100000 in
theorem w9_areCues_31 {p : Program} {l : Launch} {e : Env} {s : State} {m : MethodId} {args : Array Value} {below : List Frame} {meth : Method} {c : Code} {E : EN} {G : GM} {X : Xm} (C0 : CX p s m args meth c E cL_areCues RL 7) (hr : meth.sig.returnType = (some .boolean)) (hz : s.heap.size + 1 ≤ eB E + G.1) {rr : Int32 × Im} (fl : Nat) : ∀ (I : Im) (H : Heap) (locs : List Loc) (ls : Array Slot) (zx0 : Nat) (zx1 : Nat) (zx2 : Nat) (zx3 : Nat) (zx4 : Nat) (zt0 : okA E G 8 zx0) (zt1 : okA E G 11 zx1) (zt2 : okA E G 11 zx2) (zt3 : okA E G 11 zx3) (zt4 : okA E G 11 zx4), WD E G I X s.heap H locs → lv_has ls 7 [(0, .ref zx0), (1, .ref zx1), (2, .ref zx2), (3, .ref zx3), (4, .ref zx4)] → m9_areCues_31 fl G.2.2 X I zx0 zx1 zx2 zx3 zx4 = some rr → W p l e ({ frames := 6, cells := 1, slots := 4, locals := 134 } : Room) s m args below meth c H locs 1 4 (MQ below (QI E G rr.1 rr.2 X) args s 1 4 (eA E)) (F0 m 31 ls []) := by
  intro I H locs ls zx0 zx1 zx2 zx3 zx4 zt0 zt1 zt2 zt3 zt4 hw hl hf
  unfold m9_areCues_31 at hf
  have hx := C0.1; have hb := C0.2.1; have hml := C0.2.2.1; have hown := C0.2.2.2.1; have hts := C0.2.2.2.2.1
  refine lv_iconst (v := (0 : Int32)) hx hb dL_areCues_31 (by decide) ?_
  exact w9_areCues_32 C0 hr hz fl I _ _ _ zx0 zx1 zx2 zx3 zx4 (0 : Int32) zt0 zt1 zt2 zt3 zt4 hw (lv_sub hl [0, 1, 2, 3, 4] rfl) hf
noncomputable def m9_areCues (fl : Nat) (len : Nat → Nat) (X : Xm) (I : Im) (zx0 : Nat) (zx1 : Nat) (zx2 : Nat) (zx3 : Nat) (zq : Nat) : Option (Int32 × Im) :=
  ck (inb (5 : Int32) (len zx1) = true) <|
  nn (m8_ofCue fl len X I zx0 (gA I zx1 ((5 : Int32)).toNatClampNeg) (0 : Int32)) fun zv2 =>
  if zv2 = (-1 : Int32) then
    nn (m8_ofCue fl len X I zx0 (-1 : Int32) (0 : Int32)) fun zv5 =>
    if zv5 = (-1 : Int32) then
      m9_areCues_32 fl len X I zx0 zx1 zx2 zx3 zq (1 : Int32)
    else
      m9_areCues_31 fl len X I zx0 zx1 zx2 zx3 zq
  else
    m9_areCues_31 fl len X I zx0 zx1 zx2 zx3 zq
theorem hy9_areCues : yL_areCues.cls = RL ∧ yL_areCues.cls ≠ "java/lang/invoke/MethodHandle" ∧ yL_areCues.cls ≠ "java/lang/invoke/VarHandle" ∧ (parseMethodDescriptor yL_areCues.desc).map (fun d => d.parameters.length) = some 4 := ⟨rfl, by decide +kernel, by decide +kernel, by decide +kernel⟩
set_option maxHeartbeats 4000000 in
set_option maxRecDepth 100000 in
theorem c9_areCues (l : Launch) (E : EN) (n : Nat) (K len : Nat → Nat) (fl : Nat) (X : Xm) (I : Im) (zx0 : Nat) (zx1 : Nat) (zx2 : Nat) (zx3 : Nat) (zq : Nat) (ezq : zq = eB E + n) (hKq : K zq = 11) (hLq : len zq = 4) (hZI : ZI zq I) (zt0 : okA E (n, K, len) 8 zx0) (zt1 : okA E (n, K, len) 11 zx1) (zt2 : okA E (n, K, len) 11 zx2) (zt3 : okA E (n, K, len) 11 zx3) {rr : Int32 × Im} (hf : m9_areCues fl len X I zx0 zx1 zx2 zx3 zq = some rr) : MT l yL_areCues cL_areCues 7 (some .boolean) ({ frames := 6, cells := 1, slots := 4, locals := 134 } : Room) E (n, K, len) I X [.ref zx0, .ref zx1, .ref zx2, .ref zx3] (QI E (n + 1, K, len) rr.1 rr.2 X) 1 4 := by
  refine Met.ofW (cc := cL_areCues) (maxL := 7) (ret := (some .boolean)) (by decide +kernel) rfl ?_
  intro p e s m args below meth c s₁ B hml hv
  obtain ⟨rfl, hw0, hSE⟩ := hv
  have C0 : CX p s m ([.ref zx0, .ref zx1, .ref zx2, .ref zx3] : List Value).toArray meth c E cL_areCues RL 7 := ⟨B.exec, B.bytes, hml, findClass_of_methodNamed B.named, fun w hw => atoms_spec (ws := WS yL_areCues cL_areCues 7 (some .boolean)) B.pre w (List.mem_cons_of_mem _ hw), B.notSynchronized, hSE⟩
  have hs : s.heap.size = eB E + n := hw0.2.1
  have hB : eB E ≤ s.heap.size := by omega
  have hw : WD E (n, K, len) I X s.heap s.heap [] := ⟨hw0, va_S.rf⟩
  have hr := B.returns
  have hx := C0.1; have hb := C0.2.1; have hml := C0.2.2.1; have hown := C0.2.2.2.1; have hts := C0.2.2.2.2.1
  have hl := lv_entry ([.ref zx0, .ref zx1, .ref zx2, .ref zx3]) (n := 7) (Nat.le_of_ble_eq_true rfl)
  rw [lg_entry_eq]
  generalize (lg_sl ([.ref zx0, .ref zx1, .ref zx2, .ref zx3]) ++ List.replicate (7 - (lg_sl ([.ref zx0, .ref zx1, .ref zx2, .ref zx3])).length) Slot.unset).toArray = ls at hl ⊢
  have hl : lv_has ls 7 [(0, .ref zx0), (1, .ref zx1), (2, .ref zx2), (3, .ref zx3)] := hl
  unfold m9_areCues at hf
  refine lv_iconst (v := (4 : Int32)) hx hb dL_areCues_0 (by decide) ?_
  refine x_newI C0 (atype := .int) (n := n) (q := zq) (show s.heap.size + 0 = eB E + n by omega) hB hw ezq hZI 11 (by decide) (by decide) (ty := .int) rfl (fun _ => rfl) rfl rfl wd115 (N := 4) (by decide) (by decide) (by decide) hKq hLq (Nat.le_of_ble_eq_true rfl) (Nat.le_of_ble_eq_true rfl) dL_areCues_1 (fun H locs hw => ?_)
  have hz : s.heap.size + 1 ≤ eB E + (n + 1) := by omega
  have tzq : okA E (n + 1, K, len) 11 zq := okq (by omega) (by omega) hKq
  have zt0 := zt0.up (n' := n + 1) (Nat.le_succ n)
  have zt1 := zt1.up (n' := n + 1) (Nat.le_succ n)
  have zt2 := zt2.up (n' := n + 1) (Nat.le_succ n)
  have zt3 := zt3.up (n' := n + 1) (Nat.le_succ n)
  refine lv_astore (lv' := [(4, .ref zq), (0, .ref zx0), (1, .ref zx1), (2, .ref zx2), (3, .ref zx3)]) hx hb dL_areCues_3 hl (by decide) rfl (fun ls hl => ?_)
  refine lv_aload_n hx hb dL_areCues_5 rfl (lv_at hl 1 rfl) ?_
  refine lv_aload_n hx hb dL_areCues_6 rfl (lv_at hl 2 rfl) ?_
  refine lv_iconst (v := (5 : Int32)) hx hb dL_areCues_7 (by decide) ?_
  obtain ⟨zhb1, hf⟩ := ck_some hf
  refine x_iald C0 hw zt1 zhb1 dL_areCues_8 ?_
  refine lv_iconst (v := (0 : Int32)) hx hb dL_areCues_9 (by decide) ?_
  obtain ⟨zv2, ze3, hf⟩ := nn_some hf
  refine x_ci (r := zv2) (I1 := I) (X1 := X) (x_runV (As := [.int (gA I zx1 ((5 : Int32)).toNatClampNeg), .int (0 : Int32)]) (rest := []) C0 (c8_ofCue l E (n + 1, K, len) fl X I zx0 (gA I zx1 ((5 : Int32)).toNatClampNeg) (0 : Int32) zt0 ze3) hw 8 zt0 (by decide) rfl wd68 wd429 wd430 wd431 wd107 ⟨rfl, rfl⟩ hy8_ofCue ⟨Nat.le_of_ble_eq_true rfl, Nat.le_of_ble_eq_true rfl⟩ rfl hl.1 (Nat.le_of_ble_eq_true rfl) ⟨Nat.le_of_ble_eq_true rfl, Nat.le_of_ble_eq_true rfl⟩ dL_areCues_10) hw (fun H locs hw => ?_)
  refine lv_iconst (v := (-1 : Int32)) hx hb dL_areCues_13 (by decide) ?_
  refine lv_icmp_ne (tgt := 31) hx hb dL_areCues_14 (by decide) (fun zc4 => ?_) (fun zc4 => ?_)
  · have hf := ite_f hf zc4
    exact w9_areCues_31 C0 hr hz fl I _ _ _ zx0 zx1 zx2 zx3 zq zt0 zt1 zt2 zt3 tzq hw (lv_sub hl [1, 2, 3, 4, 0] rfl) hf
  · have hf := ite_t hf zc4
    refine lv_aload_n hx hb dL_areCues_17 rfl (lv_at hl 1 rfl) ?_
    refine lv_iconst (v := (-1 : Int32)) hx hb dL_areCues_18 (by decide) ?_
    refine lv_iconst (v := (0 : Int32)) hx hb dL_areCues_19 (by decide) ?_
    obtain ⟨zv5, ze6, hf⟩ := nn_some hf
    refine x_ci (r := zv5) (I1 := I) (X1 := X) (x_runV (As := [.int (-1 : Int32), .int (0 : Int32)]) (rest := []) C0 (c8_ofCue l E (n + 1, K, len) fl X I zx0 (-1 : Int32) (0 : Int32) zt0 ze6) hw 8 zt0 (by decide) rfl wd68 wd429 wd430 wd431 wd107 ⟨rfl, rfl⟩ hy8_ofCue ⟨Nat.le_of_ble_eq_true rfl, Nat.le_of_ble_eq_true rfl⟩ rfl hl.1 (Nat.le_of_ble_eq_true rfl) ⟨Nat.le_of_ble_eq_true rfl, Nat.le_of_ble_eq_true rfl⟩ dL_areCues_20) hw (fun H locs hw => ?_)
    refine lv_iconst (v := (-1 : Int32)) hx hb dL_areCues_23 (by decide) ?_
    refine lv_icmp_ne (tgt := 31) hx hb dL_areCues_24 (by decide) (fun zc7 => ?_) (fun zc7 => ?_)
    · have hf := ite_f hf zc7
      exact w9_areCues_31 C0 hr hz fl I _ _ _ zx0 zx1 zx2 zx3 zq zt0 zt1 zt2 zt3 tzq hw (lv_sub hl [1, 2, 3, 4, 0] rfl) hf
    · have hf := ite_t hf zc7
      refine lv_iconst (v := (1 : Int32)) hx hb dL_areCues_27 (by decide) ?_
      refine lv_goto (tgt := 32) hx hb dL_areCues_28 (by decide) ?_
      exact w9_areCues_32 C0 hr hz fl I _ _ _ zx0 zx1 zx2 zx3 zq (1 : Int32) zt0 zt1 zt2 zt3 tzq hw (lv_sub hl [1, 2, 3, 4, 0] rfl) hf
noncomputable def m9_areReels_533 (fl : Nat) (len : Nat → Nat) (X : Xm) (I : Im) (zs0 : Int32) : Option (Int32) :=
  ck (isbl zs0 = true) <|
  some (zs0)
set_option maxHeartbeats 4000000 in
set_option maxRecDepth 100000 in
theorem w9_areReels_533 {p : Program} {l : Launch} {e : Env} {s : State} {m : MethodId} {args : Array Value} {below : List Frame} {meth : Method} {c : Code} {E : EN} {G : GM} {X : Xm} {I : Im} (C0 : CX p s m args meth c E cL_areReels RL 15) (hr : meth.sig.returnType = (some .boolean)) (hz : s.heap.size + 0 ≤ eB E + G.1) {rr : Int32} (fl : Nat) : ∀ (H : Heap) (locs : List Loc) (ls : Array Slot) (zs0 : Int32) , WD E G I X s.heap H locs → lv_has ls 15 [] → m9_areReels_533 fl G.2.2 X I zs0 = some rr → W p l e ({ frames := 3, cells := 0, slots := 0, locals := 69 } : Room) s m args below meth c H locs 0 0 (MQ below (QI E G rr I X) args s 0 0 (eA E)) (F0 m 533 ls [.int zs0]) := by
  intro H locs ls zs0 hw hl hf
  unfold m9_areReels_533 at hf
  have hx := C0.1; have hb := C0.2.1; have hml := C0.2.2.1; have hown := C0.2.2.2.1; have hts := C0.2.2.2.2.1
  obtain ⟨zhn1, hf⟩ := ck_some hf
  obtain rfl := Option.some.inj hf
  exact x_zret C0 hr (isbl_nar zhn1) hw dL_areReels_533
noncomputable def m9_areReels_532 (fl : Nat) (len : Nat → Nat) (X : Xm) (I : Im) : Option (Int32) :=
  m9_areReels_533 fl len X I (0 : Int32)
set_option maxHeartbeats 4000000 in
set_option maxRecDepth 100000 in
theorem w9_areReels_532 {p : Program} {l : Launch} {e : Env} {s : State} {m : MethodId} {args : Array Value} {below : List Frame} {meth : Method} {c : Code} {E : EN} {G : GM} {X : Xm} {I : Im} (C0 : CX p s m args meth c E cL_areReels RL 15) (hr : meth.sig.returnType = (some .boolean)) (hz : s.heap.size + 0 ≤ eB E + G.1) {rr : Int32} (fl : Nat) : ∀ (H : Heap) (locs : List Loc) (ls : Array Slot) , WD E G I X s.heap H locs → lv_has ls 15 [] → m9_areReels_532 fl G.2.2 X I = some rr → W p l e ({ frames := 3, cells := 0, slots := 0, locals := 69 } : Room) s m args below meth c H locs 0 0 (MQ below (QI E G rr I X) args s 0 0 (eA E)) (F0 m 532 ls []) := by
  intro H locs ls hw hl hf
  unfold m9_areReels_532 at hf
  have hx := C0.1; have hb := C0.2.1; have hml := C0.2.2.1; have hown := C0.2.2.2.1; have hts := C0.2.2.2.2.1
  refine lv_iconst (v := (0 : Int32)) hx hb dL_areReels_532 (by decide) ?_
  exact w9_areReels_533 C0 hr hz fl _ _ _ (0 : Int32) hw (lv_sub hl [] rfl) hf
noncomputable def m9_areReels_512 (fl : Nat) (len : Nat → Nat) (X : Xm) (I : Im) (zx0 : Nat) (zx8 : Int32) (zx9 : Int32) : Option (Int32) :=
  if zx9 = 0 then
    m9_areReels_532 fl len X I 
  else
    nn (m8_count fl len X I zx0 (8 : Int32)) fun zv2 =>
    if zv2 = zx8 then
      m9_areReels_533 fl len X I (1 : Int32)
    else
      m9_areReels_532 fl len X I 
set_option maxHeartbeats 4000000 in
set_option maxRecDepth 100000 in
theorem w9_areReels_512 {p : Program} {l : Launch} {e : Env} {s : State} {m : MethodId} {args : Array Value} {below : List Frame} {meth : Method} {c : Code} {E : EN} {G : GM} {X : Xm} {I : Im} (C0 : CX p s m args meth c E cL_areReels RL 15) (hr : meth.sig.returnType = (some .boolean)) (hz : s.heap.size + 0 ≤ eB E + G.1) {rr : Int32} (fl : Nat) : ∀ (H : Heap) (locs : List Loc) (ls : Array Slot) (zx0 : Nat) (zx8 : Int32) (zx9 : Int32) (zt0 : okA E G 8 zx0), WD E G I X s.heap H locs → lv_has ls 15 [(0, .ref zx0), (8, .int zx8), (9, .int zx9)] → m9_areReels_512 fl G.2.2 X I zx0 zx8 zx9 = some rr → W p l e ({ frames := 3, cells := 0, slots := 0, locals := 69 } : Room) s m args below meth c H locs 0 0 (MQ below (QI E G rr I X) args s 0 0 (eA E)) (F0 m 512 ls []) := by
  intro H locs ls zx0 zx8 zx9 zt0 hw hl hf
  unfold m9_areReels_512 at hf
  have hx := C0.1; have hb := C0.2.1; have hml := C0.2.2.1; have hown := C0.2.2.2.1; have hts := C0.2.2.2.2.1
  refine lv_iload hx hb dL_areReels_512 (lv_at hl 2 rfl) ?_
  refine lv_if_eq (tgt := 532) hx hb dL_areReels_514 (by decide) (fun zc1 => ?_) (fun zc1 => ?_)
  · have hf := ite_t hf zc1
    exact w9_areReels_532 C0 hr hz fl _ _ _ hw (lv_sub hl [] rfl) hf
  · have hf := ite_f hf zc1
    refine lv_aload_n hx hb dL_areReels_517 rfl (lv_at hl 0 rfl) ?_
    refine lv_bipush (v := (8 : Int32)) hx hb dL_areReels_518 (by decide) ?_
    obtain ⟨zv2, ze3, hf⟩ := nn_some hf
    refine x_ci (r := zv2) (I1 := I) (X1 := X) (x_runV (As := [.int (8 : Int32)]) (rest := []) C0 (c8_count l E G fl X I zx0 (8 : Int32) zt0 ze3) hw 8 zt0 (by decide) rfl wd74 wd435 wd436 wd437 wd107 ⟨rfl, rfl⟩ hy8_count ⟨Nat.le_of_ble_eq_true rfl, Nat.le_of_ble_eq_true rfl⟩ rfl hl.1 (Nat.le_of_ble_eq_true rfl) ⟨Nat.zero_le _, Nat.zero_le _⟩ dL_areReels_520) hw (fun H locs hw => ?_)
    refine lv_iload hx hb dL_areReels_523 (lv_at hl 1 rfl) ?_
    refine lv_icmp_ne (tgt := 532) hx hb dL_areReels_525 (by decide) (fun zc4 => ?_) (fun zc4 => ?_)
    · have hf := ite_f hf zc4
      exact w9_areReels_532 C0 hr hz fl _ _ _ hw (lv_sub hl [] rfl) hf
    · have hf := ite_t hf zc4
      refine lv_iconst (v := (1 : Int32)) hx hb dL_areReels_528 (by decide) ?_
      refine lv_goto (tgt := 533) hx hb dL_areReels_529 (by decide) ?_
      exact w9_areReels_533 C0 hr hz fl _ _ _ (1 : Int32) hw (lv_sub hl [] rfl) hf
noncomputable def m9_areReels_504 (fl : Nat) (len : Nat → Nat) (X : Xm) (I : Im) (zr427 : Nat → Nat → Nat → Nat → Int32 → Int32 → Int32 → Option (Int32)) (zx0 : Nat) (zx1 : Nat) (zx4 : Nat) (zx7 : Nat) (zx8 : Int32) (zx10 : Int32) (zs0 : Int32) : Option (Int32) :=
  lt (zx10 + 1) fun zv1 =>
  zr427 zx0 zx1 zx4 zx7 zx8 zs0 zv1
set_option maxHeartbeats 4000000 in
set_option maxRecDepth 100000 in
theorem w9_areReels_504 {p : Program} {l : Launch} {e : Env} {s : State} {m : MethodId} {args : Array Value} {below : List Frame} {meth : Method} {c : Code} {E : EN} {G : GM} {X : Xm} {I : Im} (C0 : CX p s m args meth c E cL_areReels RL 15) (hr : meth.sig.returnType = (some .boolean)) (hz : s.heap.size + 0 ≤ eB E + G.1) {rr : Int32} (fl : Nat) (zr427 : Nat → Nat → Nat → Nat → Int32 → Int32 → Int32 → Option (Int32)) (zhr427 : ∀ (H : Heap) (locs : List Loc) (ls : Array Slot) (zx0 : Nat) (zx1 : Nat) (zx4 : Nat) (zx7 : Nat) (zx8 : Int32) (zx9 : Int32) (zx10 : Int32) (zt0 : okA E G 8 zx0) (zt1 : okA E G 11 zx1) (zt4 : okA E G 11 zx4) (zt7 : okA E G 11 zx7), WD E G I X s.heap H locs → lv_has ls 15 [(0, .ref zx0), (1, .ref zx1), (4, .ref zx4), (7, .ref zx7), (8, .int zx8), (9, .int zx9), (10, .int zx10)] → zr427 zx0 zx1 zx4 zx7 zx8 zx9 zx10 = some rr → W p l e ({ frames := 3, cells := 0, slots := 0, locals := 69 } : Room) s m args below meth c H locs 0 0 (MQ below (QI E G rr I X) args s 0 0 (eA E)) (F0 m 427 ls [])) : ∀ (H : Heap) (locs : List Loc) (ls : Array Slot) (zx0 : Nat) (zx1 : Nat) (zx4 : Nat) (zx7 : Nat) (zx8 : Int32) (zx10 : Int32) (zs0 : Int32) (zt0 : okA E G 8 zx0) (zt1 : okA E G 11 zx1) (zt4 : okA E G 11 zx4) (zt7 : okA E G 11 zx7), WD E G I X s.heap H locs → lv_has ls 15 [(0, .ref zx0), (1, .ref zx1), (4, .ref zx4), (7, .ref zx7), (8, .int zx8), (10, .int zx10)] → m9_areReels_504 fl G.2.2 X I zr427 zx0 zx1 zx4 zx7 zx8 zx10 zs0 = some rr → W p l e ({ frames := 3, cells := 0, slots := 0, locals := 69 } : Room) s m args below meth c H locs 0 0 (MQ below (QI E G rr I X) args s 0 0 (eA E)) (F0 m 504 ls [.int zs0]) := by
  intro H locs ls zx0 zx1 zx4 zx7 zx8 zx10 zs0 zt0 zt1 zt4 zt7 hw hl hf
  unfold m9_areReels_504 at hf
  have hx := C0.1; have hb := C0.2.1; have hml := C0.2.2.1; have hown := C0.2.2.2.1; have hts := C0.2.2.2.2.1
  refine lv_istore (lv' := [(9, .int zs0), (0, .ref zx0), (1, .ref zx1), (4, .ref zx4), (7, .ref zx7), (8, .int zx8), (10, .int zx10)]) hx hb dL_areReels_504 hl (by decide) rfl (fun ls hl => ?_)
  obtain ⟨zv1, ezv1⟩ : ∃ y : Int32, y = zx10 + 1 := ⟨_, rfl⟩
  have hf := lt_at hf ezv1
  refine lv_iinc (v := zv1) (lv' := [(10, .int zv1), (9, .int zs0), (0, .ref zx0), (1, .ref zx1), (4, .ref zx4), (7, .ref zx7), (8, .int zx8)]) hx hb dL_areReels_506 hl (k := 6) rfl (by rw [ezv1]; rfl) (by decide) rfl (fun ls hl => ?_)
  refine lv_goto (tgt := 427) hx hb dL_areReels_509 (by decide) ?_
  exact zhr427 _ _ _ zx0 zx1 zx4 zx7 zx8 zs0 zv1 zt0 zt1 zt4 zt7 hw (lv_sub hl [2, 3, 4, 5, 6, 1, 0] rfl) hf
noncomputable def m9_areReels_503 (fl : Nat) (len : Nat → Nat) (X : Xm) (I : Im) (zr427 : Nat → Nat → Nat → Nat → Int32 → Int32 → Int32 → Option (Int32)) (zx0 : Nat) (zx1 : Nat) (zx4 : Nat) (zx7 : Nat) (zx8 : Int32) (zx10 : Int32) : Option (Int32) :=
  m9_areReels_504 fl len X I zr427 zx0 zx1 zx4 zx7 zx8 zx10 (0 : Int32)
set_option maxHeartbeats 4000000 in
set_option maxRecDepth 100000 in
theorem w9_areReels_503 {p : Program} {l : Launch} {e : Env} {s : State} {m : MethodId} {args : Array Value} {below : List Frame} {meth : Method} {c : Code} {E : EN} {G : GM} {X : Xm} {I : Im} (C0 : CX p s m args meth c E cL_areReels RL 15) (hr : meth.sig.returnType = (some .boolean)) (hz : s.heap.size + 0 ≤ eB E + G.1) {rr : Int32} (fl : Nat) (zr427 : Nat → Nat → Nat → Nat → Int32 → Int32 → Int32 → Option (Int32)) (zhr427 : ∀ (H : Heap) (locs : List Loc) (ls : Array Slot) (zx0 : Nat) (zx1 : Nat) (zx4 : Nat) (zx7 : Nat) (zx8 : Int32) (zx9 : Int32) (zx10 : Int32) (zt0 : okA E G 8 zx0) (zt1 : okA E G 11 zx1) (zt4 : okA E G 11 zx4) (zt7 : okA E G 11 zx7), WD E G I X s.heap H locs → lv_has ls 15 [(0, .ref zx0), (1, .ref zx1), (4, .ref zx4), (7, .ref zx7), (8, .int zx8), (9, .int zx9), (10, .int zx10)] → zr427 zx0 zx1 zx4 zx7 zx8 zx9 zx10 = some rr → W p l e ({ frames := 3, cells := 0, slots := 0, locals := 69 } : Room) s m args below meth c H locs 0 0 (MQ below (QI E G rr I X) args s 0 0 (eA E)) (F0 m 427 ls [])) : ∀ (H : Heap) (locs : List Loc) (ls : Array Slot) (zx0 : Nat) (zx1 : Nat) (zx4 : Nat) (zx7 : Nat) (zx8 : Int32) (zx10 : Int32) (zt0 : okA E G 8 zx0) (zt1 : okA E G 11 zx1) (zt4 : okA E G 11 zx4) (zt7 : okA E G 11 zx7), WD E G I X s.heap H locs → lv_has ls 15 [(0, .ref zx0), (1, .ref zx1), (4, .ref zx4), (7, .ref zx7), (8, .int zx8), (10, .int zx10)] → m9_areReels_503 fl G.2.2 X I zr427 zx0 zx1 zx4 zx7 zx8 zx10 = some rr → W p l e ({ frames := 3, cells := 0, slots := 0, locals := 69 } : Room) s m args below meth c H locs 0 0 (MQ below (QI E G rr I X) args s 0 0 (eA E)) (F0 m 503 ls []) := by
  intro H locs ls zx0 zx1 zx4 zx7 zx8 zx10 zt0 zt1 zt4 zt7 hw hl hf
  unfold m9_areReels_503 at hf
  have hx := C0.1; have hb := C0.2.1; have hml := C0.2.2.1; have hown := C0.2.2.2.1; have hts := C0.2.2.2.2.1
  refine lv_iconst (v := (0 : Int32)) hx hb dL_areReels_503 (by decide) ?_
  exact w9_areReels_504 C0 hr hz fl zr427 zhr427 _ _ _ zx0 zx1 zx4 zx7 zx8 zx10 (0 : Int32) zt0 zt1 zt4 zt7 hw (lv_sub hl [0, 1, 2, 3, 4, 5] rfl) hf
noncomputable def m9_areReels_427b (fl : Nat) (len : Nat → Nat) (X : Xm) (I : Im) (zr427 : Nat → Nat → Nat → Nat → Int32 → Int32 → Int32 → Option (Int32)) (zx0 : Nat) (zx1 : Nat) (zx4 : Nat) (zx7 : Nat) (zx8 : Int32) (zx9 : Int32) (zx10 : Int32) : Option (Int32) :=
  ck (inb (7 : Int32) (len zx1) = true) <|
  if (gA I zx1 ((7 : Int32)).toNatClampNeg) ≤ zx10 then
    m9_areReels_512 fl len X I zx0 zx8 zx9
  else
    if zx9 = 0 then
      m9_areReels_512 fl len X I zx0 zx8 zx9
    else
      nn (m8_played fl len X I zx0 zx10 (0 : Int32)) fun zv4 =>
      ck (inb zx10 (len zx7) = true) <|
      if zv4 = ((gA I zx7 (zx10).toNatClampNeg) / (6 : Int32)) then
        nn (m8_played fl len X I zx0 zx10 (1 : Int32)) fun zv8 =>
        if zv8 = ((gA I zx7 (zx10).toNatClampNeg) - (gA I zx7 (zx10).toNatClampNeg) / (6 : Int32) * (6 : Int32)) then
          nn (m8_played fl len X I zx0 zx10 (2 : Int32)) fun zv11 =>
          ck (inb (gA I zx7 (zx10).toNatClampNeg) (len zx4) = true) <|
          if zv11 = ((gA I zx4 ((gA I zx7 (zx10).toNatClampNeg)).toNatClampNeg) / (8192 : Int32)) then
            m9_areReels_504 fl len X I zr427 zx0 zx1 zx4 zx7 zx8 zx10 (1 : Int32)
          else
            m9_areReels_503 fl len X I zr427 zx0 zx1 zx4 zx7 zx8 zx10
        else
          m9_areReels_503 fl len X I zr427 zx0 zx1 zx4 zx7 zx8 zx10
      else
        m9_areReels_503 fl len X I zr427 zx0 zx1 zx4 zx7 zx8 zx10
noncomputable def m9_areReels_427 (fl : Nat) (len : Nat → Nat) (X : Xm) (I : Im) (n : Nat) : Nat → Nat → Nat → Nat → Int32 → Int32 → Int32 → Option (Int32) :=
  Nat.rec (fun _ _ _ _ _ _ _ => none) (fun _ r => m9_areReels_427b fl len X I r) n
set_option maxHeartbeats 4000000 in
set_option maxRecDepth 100000 in
theorem w9_areReels_427b {p : Program} {l : Launch} {e : Env} {s : State} {m : MethodId} {args : Array Value} {below : List Frame} {meth : Method} {c : Code} {E : EN} {G : GM} {X : Xm} {I : Im} (C0 : CX p s m args meth c E cL_areReels RL 15) (hr : meth.sig.returnType = (some .boolean)) (hz : s.heap.size + 0 ≤ eB E + G.1) {rr : Int32} (fl : Nat) (zr427 : Nat → Nat → Nat → Nat → Int32 → Int32 → Int32 → Option (Int32)) (zhr427 : ∀ (H : Heap) (locs : List Loc) (ls : Array Slot) (zx0 : Nat) (zx1 : Nat) (zx4 : Nat) (zx7 : Nat) (zx8 : Int32) (zx9 : Int32) (zx10 : Int32) (zt0 : okA E G 8 zx0) (zt1 : okA E G 11 zx1) (zt4 : okA E G 11 zx4) (zt7 : okA E G 11 zx7), WD E G I X s.heap H locs → lv_has ls 15 [(0, .ref zx0), (1, .ref zx1), (4, .ref zx4), (7, .ref zx7), (8, .int zx8), (9, .int zx9), (10, .int zx10)] → zr427 zx0 zx1 zx4 zx7 zx8 zx9 zx10 = some rr → W p l e ({ frames := 3, cells := 0, slots := 0, locals := 69 } : Room) s m args below meth c H locs 0 0 (MQ below (QI E G rr I X) args s 0 0 (eA E)) (F0 m 427 ls [])) : ∀ (H : Heap) (locs : List Loc) (ls : Array Slot) (zx0 : Nat) (zx1 : Nat) (zx4 : Nat) (zx7 : Nat) (zx8 : Int32) (zx9 : Int32) (zx10 : Int32) (zt0 : okA E G 8 zx0) (zt1 : okA E G 11 zx1) (zt4 : okA E G 11 zx4) (zt7 : okA E G 11 zx7), WD E G I X s.heap H locs → lv_has ls 15 [(0, .ref zx0), (1, .ref zx1), (4, .ref zx4), (7, .ref zx7), (8, .int zx8), (9, .int zx9), (10, .int zx10)] → m9_areReels_427b fl G.2.2 X I zr427 zx0 zx1 zx4 zx7 zx8 zx9 zx10 = some rr → W p l e ({ frames := 3, cells := 0, slots := 0, locals := 69 } : Room) s m args below meth c H locs 0 0 (MQ below (QI E G rr I X) args s 0 0 (eA E)) (F0 m 427 ls []) := by
  intro H locs ls zx0 zx1 zx4 zx7 zx8 zx9 zx10 zt0 zt1 zt4 zt7 hw hl hf
  unfold m9_areReels_427b at hf
  have hx := C0.1; have hb := C0.2.1; have hml := C0.2.2.1; have hown := C0.2.2.2.1; have hts := C0.2.2.2.2.1
  refine lv_iload hx hb dL_areReels_427 (lv_at hl 6 rfl) ?_
  refine lv_aload_n hx hb dL_areReels_429 rfl (lv_at hl 1 rfl) ?_
  refine lv_bipush (v := (7 : Int32)) hx hb dL_areReels_430 (by decide) ?_
  obtain ⟨zhb1, hf⟩ := ck_some hf
  refine x_iald C0 hw zt1 zhb1 dL_areReels_432 ?_
  refine lv_icmp_ge (tgt := 512) hx hb dL_areReels_433 (by decide) (fun zc2 => ?_) (fun zc2 => ?_)
  · have hf := ite_t hf zc2
    exact w9_areReels_512 C0 hr hz fl _ _ _ zx0 zx8 zx9 zt0 hw (lv_sub hl [0, 4, 5] rfl) hf
  · have hf := ite_f hf zc2
    refine lv_iload hx hb dL_areReels_436 (lv_at hl 5 rfl) ?_
    refine lv_if_eq (tgt := 512) hx hb dL_areReels_438 (by decide) (fun zc3 => ?_) (fun zc3 => ?_)
    · have hf := ite_t hf zc3
      exact w9_areReels_512 C0 hr hz fl _ _ _ zx0 zx8 zx9 zt0 hw (lv_sub hl [0, 4, 5] rfl) hf
    · have hf := ite_f hf zc3
      refine lv_aload_n hx hb dL_areReels_441 rfl (lv_at hl 0 rfl) ?_
      refine lv_iload hx hb dL_areReels_442 (lv_at hl 6 rfl) ?_
      refine lv_iconst (v := (0 : Int32)) hx hb dL_areReels_444 (by decide) ?_
      obtain ⟨zv4, ze5, hf⟩ := nn_some hf
      refine x_ci (r := zv4) (I1 := I) (X1 := X) (x_runV (As := [.int zx10, .int (0 : Int32)]) (rest := []) C0 (c8_played l E G fl X I zx0 zx10 (0 : Int32) zt0 ze5) hw 8 zt0 (by decide) rfl wd71 wd438 wd439 wd440 wd107 ⟨rfl, rfl⟩ hy8_played ⟨Nat.le_of_ble_eq_true rfl, Nat.le_of_ble_eq_true rfl⟩ rfl hl.1 (Nat.le_of_ble_eq_true rfl) ⟨Nat.zero_le _, Nat.zero_le _⟩ dL_areReels_445) hw (fun H locs hw => ?_)
      refine lv_aload hx hb dL_areReels_448 (lv_at hl 3 rfl) ?_
      refine lv_iload hx hb dL_areReels_450 (lv_at hl 6 rfl) ?_
      obtain ⟨zhb6, hf⟩ := ck_some hf
      refine x_iald C0 hw zt7 zhb6 dL_areReels_452 ?_
      refine lv_bipush (v := (6 : Int32)) hx hb dL_areReels_453 (by decide) ?_
      refine lv_idiv hx hb dL_areReels_455 (by decide) ?_
      refine lv_icmp_ne (tgt := 503) hx hb dL_areReels_456 (by decide) (fun zc7 => ?_) (fun zc7 => ?_)
      · have hf := ite_f hf zc7
        exact w9_areReels_503 C0 hr hz fl zr427 zhr427 _ _ _ zx0 zx1 zx4 zx7 zx8 zx10 zt0 zt1 zt4 zt7 hw (lv_sub hl [0, 1, 2, 3, 4, 6] rfl) hf
      · have hf := ite_t hf zc7
        refine lv_aload_n hx hb dL_areReels_459 rfl (lv_at hl 0 rfl) ?_
        refine lv_iload hx hb dL_areReels_460 (lv_at hl 6 rfl) ?_
        refine lv_iconst (v := (1 : Int32)) hx hb dL_areReels_462 (by decide) ?_
        obtain ⟨zv8, ze9, hf⟩ := nn_some hf
        refine x_ci (r := zv8) (I1 := I) (X1 := X) (x_runV (As := [.int zx10, .int (1 : Int32)]) (rest := []) C0 (c8_played l E G fl X I zx0 zx10 (1 : Int32) zt0 ze9) hw 8 zt0 (by decide) rfl wd71 wd438 wd439 wd440 wd107 ⟨rfl, rfl⟩ hy8_played ⟨Nat.le_of_ble_eq_true rfl, Nat.le_of_ble_eq_true rfl⟩ rfl hl.1 (Nat.le_of_ble_eq_true rfl) ⟨Nat.zero_le _, Nat.zero_le _⟩ dL_areReels_463) hw (fun H locs hw => ?_)
        refine lv_aload hx hb dL_areReels_466 (lv_at hl 3 rfl) ?_
        refine lv_iload hx hb dL_areReels_468 (lv_at hl 6 rfl) ?_
        refine x_iald C0 hw zt7 zhb6 dL_areReels_470 ?_
        refine lv_bipush (v := (6 : Int32)) hx hb dL_areReels_471 (by decide) ?_
        refine lv_irem hx hb dL_areReels_473 (by decide) ?_
        refine lv_icmp_ne (tgt := 503) hx hb dL_areReels_474 (by decide) (fun zc10 => ?_) (fun zc10 => ?_)
        · have hf := ite_f hf zc10
          exact w9_areReels_503 C0 hr hz fl zr427 zhr427 _ _ _ zx0 zx1 zx4 zx7 zx8 zx10 zt0 zt1 zt4 zt7 hw (lv_sub hl [0, 1, 2, 3, 4, 6] rfl) hf
        · have hf := ite_t hf zc10
          refine lv_aload_n hx hb dL_areReels_477 rfl (lv_at hl 0 rfl) ?_
          refine lv_iload hx hb dL_areReels_478 (lv_at hl 6 rfl) ?_
          refine lv_iconst (v := (2 : Int32)) hx hb dL_areReels_480 (by decide) ?_
          obtain ⟨zv11, ze12, hf⟩ := nn_some hf
          refine x_ci (r := zv11) (I1 := I) (X1 := X) (x_runV (As := [.int zx10, .int (2 : Int32)]) (rest := []) C0 (c8_played l E G fl X I zx0 zx10 (2 : Int32) zt0 ze12) hw 8 zt0 (by decide) rfl wd71 wd438 wd439 wd440 wd107 ⟨rfl, rfl⟩ hy8_played ⟨Nat.le_of_ble_eq_true rfl, Nat.le_of_ble_eq_true rfl⟩ rfl hl.1 (Nat.le_of_ble_eq_true rfl) ⟨Nat.zero_le _, Nat.zero_le _⟩ dL_areReels_481) hw (fun H locs hw => ?_)
          refine lv_aload hx hb dL_areReels_484 (lv_at hl 2 rfl) ?_
          refine lv_aload hx hb dL_areReels_486 (lv_at hl 3 rfl) ?_
          refine lv_iload hx hb dL_areReels_488 (lv_at hl 6 rfl) ?_
          refine x_iald C0 hw zt7 zhb6 dL_areReels_490 ?_
          obtain ⟨zhb13, hf⟩ := ck_some hf
          refine x_iald C0 hw zt4 zhb13 dL_areReels_491 ?_
          refine lv_sipush (v := (8192 : Int32)) hx hb dL_areReels_492 (by decide) ?_
          refine lv_idiv hx hb dL_areReels_495 (by decide) ?_
          refine lv_icmp_ne (tgt := 503) hx hb dL_areReels_496 (by decide) (fun zc14 => ?_) (fun zc14 => ?_)
          · have hf := ite_f hf zc14
            exact w9_areReels_503 C0 hr hz fl zr427 zhr427 _ _ _ zx0 zx1 zx4 zx7 zx8 zx10 zt0 zt1 zt4 zt7 hw (lv_sub hl [0, 1, 2, 3, 4, 6] rfl) hf
          · have hf := ite_t hf zc14
            refine lv_iconst (v := (1 : Int32)) hx hb dL_areReels_499 (by decide) ?_
            refine lv_goto (tgt := 504) hx hb dL_areReels_500 (by decide) ?_
            exact w9_areReels_504 C0 hr hz fl zr427 zhr427 _ _ _ zx0 zx1 zx4 zx7 zx8 zx10 (1 : Int32) zt0 zt1 zt4 zt7 hw (lv_sub hl [0, 1, 2, 3, 4, 6] rfl) hf
theorem w9_areReels_427 {p : Program} {l : Launch} {e : Env} {s : State} {m : MethodId} {args : Array Value} {below : List Frame} {meth : Method} {c : Code} {E : EN} {G : GM} {X : Xm} {I : Im} (C0 : CX p s m args meth c E cL_areReels RL 15) (hr : meth.sig.returnType = (some .boolean)) (hz : s.heap.size + 0 ≤ eB E + G.1) {rr : Int32} (fl : Nat) : ∀ (n : Nat) (H : Heap) (locs : List Loc) (ls : Array Slot) (zx0 : Nat) (zx1 : Nat) (zx4 : Nat) (zx7 : Nat) (zx8 : Int32) (zx9 : Int32) (zx10 : Int32) (zt0 : okA E G 8 zx0) (zt1 : okA E G 11 zx1) (zt4 : okA E G 11 zx4) (zt7 : okA E G 11 zx7), WD E G I X s.heap H locs → lv_has ls 15 [(0, .ref zx0), (1, .ref zx1), (4, .ref zx4), (7, .ref zx7), (8, .int zx8), (9, .int zx9), (10, .int zx10)] → m9_areReels_427 fl G.2.2 X I n zx0 zx1 zx4 zx7 zx8 zx9 zx10 = some rr → W p l e ({ frames := 3, cells := 0, slots := 0, locals := 69 } : Room) s m args below meth c H locs 0 0 (MQ below (QI E G rr I X) args s 0 0 (eA E)) (F0 m 427 ls []) := by
  intro n
  induction n with
  | zero => intro H locs ls zx0 zx1 zx4 zx7 zx8 zx9 zx10 zt0 zt1 zt4 zt7 hw hl hf; exact absurd (show (none : Option (Int32)) = some rr from hf) (by simp)
  | succ n ih => intro H locs ls zx0 zx1 zx4 zx7 zx8 zx9 zx10 zt0 zt1 zt4 zt7 hw hl hf; exact w9_areReels_427b C0 hr hz fl _ ih H locs ls zx0 zx1 zx4 zx7 zx8 zx9 zx10 zt0 zt1 zt4 zt7 hw hl hf
noncomputable def m9_areReels_424 (fl : Nat) (len : Nat → Nat) (X : Xm) (I : Im) (zx0 : Nat) (zx1 : Nat) (zx4 : Nat) (zx7 : Nat) (zx8 : Int32) (zx9 : Int32) : Option (Int32) :=
  m9_areReels_427 fl len X I fl zx0 zx1 zx4 zx7 zx8 zx9 (0 : Int32)
set_option maxHeartbeats 4000000 in
set_option maxRecDepth 100000 in
theorem w9_areReels_424 {p : Program} {l : Launch} {e : Env} {s : State} {m : MethodId} {args : Array Value} {below : List Frame} {meth : Method} {c : Code} {E : EN} {G : GM} {X : Xm} {I : Im} (C0 : CX p s m args meth c E cL_areReels RL 15) (hr : meth.sig.returnType = (some .boolean)) (hz : s.heap.size + 0 ≤ eB E + G.1) {rr : Int32} (fl : Nat) : ∀ (H : Heap) (locs : List Loc) (ls : Array Slot) (zx0 : Nat) (zx1 : Nat) (zx4 : Nat) (zx7 : Nat) (zx8 : Int32) (zx9 : Int32) (zt0 : okA E G 8 zx0) (zt1 : okA E G 11 zx1) (zt4 : okA E G 11 zx4) (zt7 : okA E G 11 zx7), WD E G I X s.heap H locs → lv_has ls 15 [(0, .ref zx0), (1, .ref zx1), (4, .ref zx4), (7, .ref zx7), (8, .int zx8), (9, .int zx9)] → m9_areReels_424 fl G.2.2 X I zx0 zx1 zx4 zx7 zx8 zx9 = some rr → W p l e ({ frames := 3, cells := 0, slots := 0, locals := 69 } : Room) s m args below meth c H locs 0 0 (MQ below (QI E G rr I X) args s 0 0 (eA E)) (F0 m 424 ls []) := by
  intro H locs ls zx0 zx1 zx4 zx7 zx8 zx9 zt0 zt1 zt4 zt7 hw hl hf
  unfold m9_areReels_424 at hf
  have hx := C0.1; have hb := C0.2.1; have hml := C0.2.2.1; have hown := C0.2.2.2.1; have hts := C0.2.2.2.2.1
  refine lv_iconst (v := (0 : Int32)) hx hb dL_areReels_424 (by decide) ?_
  refine lv_istore (lv' := [(10, .int (0 : Int32)), (0, .ref zx0), (1, .ref zx1), (4, .ref zx4), (7, .ref zx7), (8, .int zx8), (9, .int zx9)]) hx hb dL_areReels_425 hl (by decide) rfl (fun ls hl => ?_)
  exact w9_areReels_427 C0 hr hz fl fl _ _ _ zx0 zx1 zx4 zx7 zx8 zx9 (0 : Int32) zt0 zt1 zt4 zt7 hw (lv_sub hl [1, 2, 3, 4, 5, 6, 0] rfl) hf
noncomputable def m9_areReels_418 (fl : Nat) (len : Nat → Nat) (X : Xm) (I : Im) (zr26 : Nat → Nat → Nat → Nat → Nat → Nat → Nat → Nat → Int32 → Int32 → Int32 → Option (Int32)) (zx0 : Nat) (zx1 : Nat) (zx2 : Nat) (zx3 : Nat) (zx4 : Nat) (zx5 : Nat) (zx6 : Nat) (zx7 : Nat) (zx8 : Int32) (zx9 : Int32) (zx10 : Int32) : Option (Int32) :=
  lt (zx10 + 1) fun zv1 =>
  zr26 zx0 zx1 zx2 zx3 zx4 zx5 zx6 zx7 zx8 zx9 zv1
set_option maxHeartbeats 4000000 in
set_option maxRecDepth 100000 in
theorem w9_areReels_418 {p : Program} {l : Launch} {e : Env} {s : State} {m : MethodId} {args : Array Value} {below : List Frame} {meth : Method} {c : Code} {E : EN} {G : GM} {X : Xm} {I : Im} (C0 : CX p s m args meth c E cL_areReels RL 15) (hr : meth.sig.returnType = (some .boolean)) (hz : s.heap.size + 0 ≤ eB E + G.1) {rr : Int32} (fl : Nat) (zr26 : Nat → Nat → Nat → Nat → Nat → Nat → Nat → Nat → Int32 → Int32 → Int32 → Option (Int32)) (zhr26 : ∀ (H : Heap) (locs : List Loc) (ls : Array Slot) (zx0 : Nat) (zx1 : Nat) (zx2 : Nat) (zx3 : Nat) (zx4 : Nat) (zx5 : Nat) (zx6 : Nat) (zx7 : Nat) (zx8 : Int32) (zx9 : Int32) (zx10 : Int32) (zt0 : okA E G 8 zx0) (zt1 : okA E G 11 zx1) (zt2 : okA E G 11 zx2) (zt3 : okA E G 11 zx3) (zt4 : okA E G 11 zx4) (zt5 : okA E G 11 zx5) (zt6 : okA E G 11 zx6) (zt7 : okA E G 11 zx7), WD E G I X s.heap H locs → lv_has ls 15 [(0, .ref zx0), (1, .ref zx1), (2, .ref zx2), (3, .ref zx3), (4, .ref zx4), (5, .ref zx5), (6, .ref zx6), (7, .ref zx7), (8, .int zx8), (9, .int zx9), (10, .int zx10)] → zr26 zx0 zx1 zx2 zx3 zx4 zx5 zx6 zx7 zx8 zx9 zx10 = some rr → W p l e ({ frames := 3, cells := 0, slots := 0, locals := 69 } : Room) s m args below meth c H locs 0 0 (MQ below (QI E G rr I X) args s 0 0 (eA E)) (F0 m 26 ls [])) : ∀ (H : Heap) (locs : List Loc) (ls : Array Slot) (zx0 : Nat) (zx1 : Nat) (zx2 : Nat) (zx3 : Nat) (zx4 : Nat) (zx5 : Nat) (zx6 : Nat) (zx7 : Nat) (zx8 : Int32) (zx9 : Int32) (zx10 : Int32) (zt0 : okA E G 8 zx0) (zt1 : okA E G 11 zx1) (zt2 : okA E G 11 zx2) (zt3 : okA E G 11 zx3) (zt4 : okA E G 11 zx4) (zt5 : okA E G 11 zx5) (zt6 : okA E G 11 zx6) (zt7 : okA E G 11 zx7), WD E G I X s.heap H locs → lv_has ls 15 [(0, .ref zx0), (1, .ref zx1), (2, .ref zx2), (3, .ref zx3), (4, .ref zx4), (5, .ref zx5), (6, .ref zx6), (7, .ref zx7), (8, .int zx8), (9, .int zx9), (10, .int zx10)] → m9_areReels_418 fl G.2.2 X I zr26 zx0 zx1 zx2 zx3 zx4 zx5 zx6 zx7 zx8 zx9 zx10 = some rr → W p l e ({ frames := 3, cells := 0, slots := 0, locals := 69 } : Room) s m args below meth c H locs 0 0 (MQ below (QI E G rr I X) args s 0 0 (eA E)) (F0 m 418 ls []) := by
  intro H locs ls zx0 zx1 zx2 zx3 zx4 zx5 zx6 zx7 zx8 zx9 zx10 zt0 zt1 zt2 zt3 zt4 zt5 zt6 zt7 hw hl hf
  unfold m9_areReels_418 at hf
  have hx := C0.1; have hb := C0.2.1; have hml := C0.2.2.1; have hown := C0.2.2.2.1; have hts := C0.2.2.2.2.1
  obtain ⟨zv1, ezv1⟩ : ∃ y : Int32, y = zx10 + 1 := ⟨_, rfl⟩
  have hf := lt_at hf ezv1
  refine lv_iinc (v := zv1) (lv' := [(10, .int zv1), (0, .ref zx0), (1, .ref zx1), (2, .ref zx2), (3, .ref zx3), (4, .ref zx4), (5, .ref zx5), (6, .ref zx6), (7, .ref zx7), (8, .int zx8), (9, .int zx9)]) hx hb dL_areReels_418 hl (k := 10) rfl (by rw [ezv1]; rfl) (by decide) rfl (fun ls hl => ?_)
  refine lv_goto (tgt := 26) hx hb dL_areReels_421 (by decide) ?_
  exact zhr26 _ _ _ zx0 zx1 zx2 zx3 zx4 zx5 zx6 zx7 zx8 zx9 zv1 zt0 zt1 zt2 zt3 zt4 zt5 zt6 zt7 hw (lv_sub hl [1, 2, 3, 4, 5, 6, 7, 8, 9, 10, 0] rfl) hf
noncomputable def m9_areReels_410 (fl : Nat) (len : Nat → Nat) (X : Xm) (I : Im) (zr26 : Nat → Nat → Nat → Nat → Nat → Nat → Nat → Nat → Int32 → Int32 → Int32 → Option (Int32)) (zr303 : Nat → Nat → Nat → Nat → Nat → Nat → Nat → Nat → Int32 → Int32 → Int32 → Int32 → Int32 → Option (Int32)) (zx0 : Nat) (zx1 : Nat) (zx2 : Nat) (zx3 : Nat) (zx4 : Nat) (zx5 : Nat) (zx6 : Nat) (zx7 : Nat) (zx8 : Int32) (zx10 : Int32) (zx11 : Int32) (zx13 : Int32) (zs0 : Int32) : Option (Int32) :=
  lt (zx13 + 1) fun zv1 =>
  zr303 zx0 zx1 zx2 zx3 zx4 zx5 zx6 zx7 zx8 zs0 zx10 zx11 zv1
set_option maxHeartbeats 4000000 in
set_option maxRecDepth 100000 in
theorem w9_areReels_410 {p : Program} {l : Launch} {e : Env} {s : State} {m : MethodId} {args : Array Value} {below : List Frame} {meth : Method} {c : Code} {E : EN} {G : GM} {X : Xm} {I : Im} (C0 : CX p s m args meth c E cL_areReels RL 15) (hr : meth.sig.returnType = (some .boolean)) (hz : s.heap.size + 0 ≤ eB E + G.1) {rr : Int32} (fl : Nat) (zr26 : Nat → Nat → Nat → Nat → Nat → Nat → Nat → Nat → Int32 → Int32 → Int32 → Option (Int32)) (zhr26 : ∀ (H : Heap) (locs : List Loc) (ls : Array Slot) (zx0 : Nat) (zx1 : Nat) (zx2 : Nat) (zx3 : Nat) (zx4 : Nat) (zx5 : Nat) (zx6 : Nat) (zx7 : Nat) (zx8 : Int32) (zx9 : Int32) (zx10 : Int32) (zt0 : okA E G 8 zx0) (zt1 : okA E G 11 zx1) (zt2 : okA E G 11 zx2) (zt3 : okA E G 11 zx3) (zt4 : okA E G 11 zx4) (zt5 : okA E G 11 zx5) (zt6 : okA E G 11 zx6) (zt7 : okA E G 11 zx7), WD E G I X s.heap H locs → lv_has ls 15 [(0, .ref zx0), (1, .ref zx1), (2, .ref zx2), (3, .ref zx3), (4, .ref zx4), (5, .ref zx5), (6, .ref zx6), (7, .ref zx7), (8, .int zx8), (9, .int zx9), (10, .int zx10)] → zr26 zx0 zx1 zx2 zx3 zx4 zx5 zx6 zx7 zx8 zx9 zx10 = some rr → W p l e ({ frames := 3, cells := 0, slots := 0, locals := 69 } : Room) s m args below meth c H locs 0 0 (MQ below (QI E G rr I X) args s 0 0 (eA E)) (F0 m 26 ls [])) (zr303 : Nat → Nat → Nat → Nat → Nat → Nat → Nat → Nat → Int32 → Int32 → Int32 → Int32 → Int32 → Option (Int32)) (zhr303 : ∀ (H : Heap) (locs : List Loc) (ls : Array Slot) (zx0 : Nat) (zx1 : Nat) (zx2 : Nat) (zx3 : Nat) (zx4 : Nat) (zx5 : Nat) (zx6 : Nat) (zx7 : Nat) (zx8 : Int32) (zx9 : Int32) (zx10 : Int32) (zx11 : Int32) (zx13 : Int32) (zt0 : okA E G 8 zx0) (zt1 : okA E G 11 zx1) (zt2 : okA E G 11 zx2) (zt3 : okA E G 11 zx3) (zt4 : okA E G 11 zx4) (zt5 : okA E G 11 zx5) (zt6 : okA E G 11 zx6) (zt7 : okA E G 11 zx7), WD E G I X s.heap H locs → lv_has ls 15 [(0, .ref zx0), (1, .ref zx1), (2, .ref zx2), (3, .ref zx3), (4, .ref zx4), (5, .ref zx5), (6, .ref zx6), (7, .ref zx7), (8, .int zx8), (9, .int zx9), (10, .int zx10), (11, .int zx11), (13, .int zx13)] → zr303 zx0 zx1 zx2 zx3 zx4 zx5 zx6 zx7 zx8 zx9 zx10 zx11 zx13 = some rr → W p l e ({ frames := 3, cells := 0, slots := 0, locals := 69 } : Room) s m args below meth c H locs 0 0 (MQ below (QI E G rr I X) args s 0 0 (eA E)) (F0 m 303 ls [])) : ∀ (H : Heap) (locs : List Loc) (ls : Array Slot) (zx0 : Nat) (zx1 : Nat) (zx2 : Nat) (zx3 : Nat) (zx4 : Nat) (zx5 : Nat) (zx6 : Nat) (zx7 : Nat) (zx8 : Int32) (zx10 : Int32) (zx11 : Int32) (zx13 : Int32) (zs0 : Int32) (zt0 : okA E G 8 zx0) (zt1 : okA E G 11 zx1) (zt2 : okA E G 11 zx2) (zt3 : okA E G 11 zx3) (zt4 : okA E G 11 zx4) (zt5 : okA E G 11 zx5) (zt6 : okA E G 11 zx6) (zt7 : okA E G 11 zx7), WD E G I X s.heap H locs → lv_has ls 15 [(0, .ref zx0), (1, .ref zx1), (2, .ref zx2), (3, .ref zx3), (4, .ref zx4), (5, .ref zx5), (6, .ref zx6), (7, .ref zx7), (8, .int zx8), (10, .int zx10), (11, .int zx11), (13, .int zx13)] → m9_areReels_410 fl G.2.2 X I zr26 zr303 zx0 zx1 zx2 zx3 zx4 zx5 zx6 zx7 zx8 zx10 zx11 zx13 zs0 = some rr → W p l e ({ frames := 3, cells := 0, slots := 0, locals := 69 } : Room) s m args below meth c H locs 0 0 (MQ below (QI E G rr I X) args s 0 0 (eA E)) (F0 m 410 ls [.int zs0]) := by
  intro H locs ls zx0 zx1 zx2 zx3 zx4 zx5 zx6 zx7 zx8 zx10 zx11 zx13 zs0 zt0 zt1 zt2 zt3 zt4 zt5 zt6 zt7 hw hl hf
  unfold m9_areReels_410 at hf
  have hx := C0.1; have hb := C0.2.1; have hml := C0.2.2.1; have hown := C0.2.2.2.1; have hts := C0.2.2.2.2.1
  refine lv_istore (lv' := [(9, .int zs0), (0, .ref zx0), (1, .ref zx1), (2, .ref zx2), (3, .ref zx3), (4, .ref zx4), (5, .ref zx5), (6, .ref zx6), (7, .ref zx7), (8, .int zx8), (10, .int zx10), (11, .int zx11), (13, .int zx13)]) hx hb dL_areReels_410 hl (by decide) rfl (fun ls hl => ?_)
  obtain ⟨zv1, ezv1⟩ : ∃ y : Int32, y = zx13 + 1 := ⟨_, rfl⟩
  have hf := lt_at hf ezv1
  refine lv_iinc (v := zv1) (lv' := [(13, .int zv1), (9, .int zs0), (0, .ref zx0), (1, .ref zx1), (2, .ref zx2), (3, .ref zx3), (4, .ref zx4), (5, .ref zx5), (6, .ref zx6), (7, .ref zx7), (8, .int zx8), (10, .int zx10), (11, .int zx11)]) hx hb dL_areReels_412 hl (k := 12) rfl (by rw [ezv1]; rfl) (by decide) rfl (fun ls hl => ?_)
  refine lv_goto (tgt := 303) hx hb dL_areReels_415 (by decide) ?_
  exact zhr303 _ _ _ zx0 zx1 zx2 zx3 zx4 zx5 zx6 zx7 zx8 zs0 zx10 zx11 zv1 zt0 zt1 zt2 zt3 zt4 zt5 zt6 zt7 hw (lv_sub hl [2, 3, 4, 5, 6, 7, 8, 9, 10, 1, 11, 12, 0] rfl) hf
noncomputable def m9_areReels_409 (fl : Nat) (len : Nat → Nat) (X : Xm) (I : Im) (zr26 : Nat → Nat → Nat → Nat → Nat → Nat → Nat → Nat → Int32 → Int32 → Int32 → Option (Int32)) (zr303 : Nat → Nat → Nat → Nat → Nat → Nat → Nat → Nat → Int32 → Int32 → Int32 → Int32 → Int32 → Option (Int32)) (zx0 : Nat) (zx1 : Nat) (zx2 : Nat) (zx3 : Nat) (zx4 : Nat) (zx5 : Nat) (zx6 : Nat) (zx7 : Nat) (zx8 : Int32) (zx10 : Int32) (zx11 : Int32) (zx13 : Int32) : Option (Int32) :=
  m9_areReels_410 fl len X I zr26 zr303 zx0 zx1 zx2 zx3 zx4 zx5 zx6 zx7 zx8 zx10 zx11 zx13 (0 : Int32)
set_option maxHeartbeats 4000000 in
set_option maxRecDepth 100000 in
theorem w9_areReels_409 {p : Program} {l : Launch} {e : Env} {s : State} {m : MethodId} {args : Array Value} {below : List Frame} {meth : Method} {c : Code} {E : EN} {G : GM} {X : Xm} {I : Im} (C0 : CX p s m args meth c E cL_areReels RL 15) (hr : meth.sig.returnType = (some .boolean)) (hz : s.heap.size + 0 ≤ eB E + G.1) {rr : Int32} (fl : Nat) (zr26 : Nat → Nat → Nat → Nat → Nat → Nat → Nat → Nat → Int32 → Int32 → Int32 → Option (Int32)) (zhr26 : ∀ (H : Heap) (locs : List Loc) (ls : Array Slot) (zx0 : Nat) (zx1 : Nat) (zx2 : Nat) (zx3 : Nat) (zx4 : Nat) (zx5 : Nat) (zx6 : Nat) (zx7 : Nat) (zx8 : Int32) (zx9 : Int32) (zx10 : Int32) (zt0 : okA E G 8 zx0) (zt1 : okA E G 11 zx1) (zt2 : okA E G 11 zx2) (zt3 : okA E G 11 zx3) (zt4 : okA E G 11 zx4) (zt5 : okA E G 11 zx5) (zt6 : okA E G 11 zx6) (zt7 : okA E G 11 zx7), WD E G I X s.heap H locs → lv_has ls 15 [(0, .ref zx0), (1, .ref zx1), (2, .ref zx2), (3, .ref zx3), (4, .ref zx4), (5, .ref zx5), (6, .ref zx6), (7, .ref zx7), (8, .int zx8), (9, .int zx9), (10, .int zx10)] → zr26 zx0 zx1 zx2 zx3 zx4 zx5 zx6 zx7 zx8 zx9 zx10 = some rr → W p l e ({ frames := 3, cells := 0, slots := 0, locals := 69 } : Room) s m args below meth c H locs 0 0 (MQ below (QI E G rr I X) args s 0 0 (eA E)) (F0 m 26 ls [])) (zr303 : Nat → Nat → Nat → Nat → Nat → Nat → Nat → Nat → Int32 → Int32 → Int32 → Int32 → Int32 → Option (Int32)) (zhr303 : ∀ (H : Heap) (locs : List Loc) (ls : Array Slot) (zx0 : Nat) (zx1 : Nat) (zx2 : Nat) (zx3 : Nat) (zx4 : Nat) (zx5 : Nat) (zx6 : Nat) (zx7 : Nat) (zx8 : Int32) (zx9 : Int32) (zx10 : Int32) (zx11 : Int32) (zx13 : Int32) (zt0 : okA E G 8 zx0) (zt1 : okA E G 11 zx1) (zt2 : okA E G 11 zx2) (zt3 : okA E G 11 zx3) (zt4 : okA E G 11 zx4) (zt5 : okA E G 11 zx5) (zt6 : okA E G 11 zx6) (zt7 : okA E G 11 zx7), WD E G I X s.heap H locs → lv_has ls 15 [(0, .ref zx0), (1, .ref zx1), (2, .ref zx2), (3, .ref zx3), (4, .ref zx4), (5, .ref zx5), (6, .ref zx6), (7, .ref zx7), (8, .int zx8), (9, .int zx9), (10, .int zx10), (11, .int zx11), (13, .int zx13)] → zr303 zx0 zx1 zx2 zx3 zx4 zx5 zx6 zx7 zx8 zx9 zx10 zx11 zx13 = some rr → W p l e ({ frames := 3, cells := 0, slots := 0, locals := 69 } : Room) s m args below meth c H locs 0 0 (MQ below (QI E G rr I X) args s 0 0 (eA E)) (F0 m 303 ls [])) : ∀ (H : Heap) (locs : List Loc) (ls : Array Slot) (zx0 : Nat) (zx1 : Nat) (zx2 : Nat) (zx3 : Nat) (zx4 : Nat) (zx5 : Nat) (zx6 : Nat) (zx7 : Nat) (zx8 : Int32) (zx10 : Int32) (zx11 : Int32) (zx13 : Int32) (zt0 : okA E G 8 zx0) (zt1 : okA E G 11 zx1) (zt2 : okA E G 11 zx2) (zt3 : okA E G 11 zx3) (zt4 : okA E G 11 zx4) (zt5 : okA E G 11 zx5) (zt6 : okA E G 11 zx6) (zt7 : okA E G 11 zx7), WD E G I X s.heap H locs → lv_has ls 15 [(0, .ref zx0), (1, .ref zx1), (2, .ref zx2), (3, .ref zx3), (4, .ref zx4), (5, .ref zx5), (6, .ref zx6), (7, .ref zx7), (8, .int zx8), (10, .int zx10), (11, .int zx11), (13, .int zx13)] → m9_areReels_409 fl G.2.2 X I zr26 zr303 zx0 zx1 zx2 zx3 zx4 zx5 zx6 zx7 zx8 zx10 zx11 zx13 = some rr → W p l e ({ frames := 3, cells := 0, slots := 0, locals := 69 } : Room) s m args below meth c H locs 0 0 (MQ below (QI E G rr I X) args s 0 0 (eA E)) (F0 m 409 ls []) := by
  intro H locs ls zx0 zx1 zx2 zx3 zx4 zx5 zx6 zx7 zx8 zx10 zx11 zx13 zt0 zt1 zt2 zt3 zt4 zt5 zt6 zt7 hw hl hf
  unfold m9_areReels_409 at hf
  have hx := C0.1; have hb := C0.2.1; have hml := C0.2.2.1; have hown := C0.2.2.2.1; have hts := C0.2.2.2.2.1
  refine lv_iconst (v := (0 : Int32)) hx hb dL_areReels_409 (by decide) ?_
  exact w9_areReels_410 C0 hr hz fl zr26 zhr26 zr303 zhr303 _ _ _ zx0 zx1 zx2 zx3 zx4 zx5 zx6 zx7 zx8 zx10 zx11 zx13 (0 : Int32) zt0 zt1 zt2 zt3 zt4 zt5 zt6 zt7 hw (lv_sub hl [0, 1, 2, 3, 4, 5, 6, 7, 8, 9, 10, 11] rfl) hf
noncomputable def m9_areReels_303b (fl : Nat) (len : Nat → Nat) (X : Xm) (I : Im) (zr26 : Nat → Nat → Nat → Nat → Nat → Nat → Nat → Nat → Int32 → Int32 → Int32 → Option (Int32)) (zr303 : Nat → Nat → Nat → Nat → Nat → Nat → Nat → Nat → Int32 → Int32 → Int32 → Int32 → Int32 → Option (Int32)) (zx0 : Nat) (zx1 : Nat) (zx2 : Nat) (zx3 : Nat) (zx4 : Nat) (zx5 : Nat) (zx6 : Nat) (zx7 : Nat) (zx8 : Int32) (zx9 : Int32) (zx10 : Int32) (zx11 : Int32) (zx13 : Int32) : Option (Int32) :=
  if zx11 ≤ zx13 then
    m9_areReels_418 fl len X I zr26 zx0 zx1 zx2 zx3 zx4 zx5 zx6 zx7 zx8 zx9 zx10
  else
    if zx9 = 0 then
      m9_areReels_418 fl len X I zr26 zx0 zx1 zx2 zx3 zx4 zx5 zx6 zx7 zx8 zx9 zx10
    else
      ck (inb (((6 : Int32) * zx10) + zx13) (len zx4) = true) <|
      lt ((gA I zx4 ((((6 : Int32) * zx10) + zx13)).toNatClampNeg)) fun zv4 =>
      nn (m8_ofSound fl len X I zx0 zx10 zx13 (0 : Int32)) fun zv5 =>
      if zv5 = (zv4 - zv4 / (64 : Int32) * (64 : Int32)) then
        nn (m8_ofSound fl len X I zx0 zx10 zx13 (1 : Int32)) fun zv8 =>
        if zv8 = ((zv4 / (64 : Int32)) - (zv4 / (64 : Int32)) / (128 : Int32) * (128 : Int32)) then
          nn (m8_ofSound fl len X I zx0 zx10 zx13 (2 : Int32)) fun zv11 =>
          nn (m9_begins fl len X I zx4 zx10 zx13) fun zv13 =>
          if zv11 = zv13 then
            nn (m8_ofSound fl len X I zx0 zx10 zx13 (3 : Int32)) fun zv16 =>
            if zv16 = (zv4 / (8192 : Int32)) then
              m9_areReels_410 fl len X I zr26 zr303 zx0 zx1 zx2 zx3 zx4 zx5 zx6 zx7 zx8 zx10 zx11 zx13 (1 : Int32)
            else
              m9_areReels_409 fl len X I zr26 zr303 zx0 zx1 zx2 zx3 zx4 zx5 zx6 zx7 zx8 zx10 zx11 zx13
          else
            m9_areReels_409 fl len X I zr26 zr303 zx0 zx1 zx2 zx3 zx4 zx5 zx6 zx7 zx8 zx10 zx11 zx13
        else
          m9_areReels_409 fl len X I zr26 zr303 zx0 zx1 zx2 zx3 zx4 zx5 zx6 zx7 zx8 zx10 zx11 zx13
      else
        m9_areReels_409 fl len X I zr26 zr303 zx0 zx1 zx2 zx3 zx4 zx5 zx6 zx7 zx8 zx10 zx11 zx13
noncomputable def m9_areReels_303 (fl : Nat) (len : Nat → Nat) (X : Xm) (I : Im) (zr26 : Nat → Nat → Nat → Nat → Nat → Nat → Nat → Nat → Int32 → Int32 → Int32 → Option (Int32)) (n : Nat) : Nat → Nat → Nat → Nat → Nat → Nat → Nat → Nat → Int32 → Int32 → Int32 → Int32 → Int32 → Option (Int32) :=
  Nat.rec (fun _ _ _ _ _ _ _ _ _ _ _ _ _ => none) (fun _ r => m9_areReels_303b fl len X I zr26 r) n
set_option maxHeartbeats 4000000 in
set_option maxRecDepth 100000 in
theorem w9_areReels_303b {p : Program} {l : Launch} {e : Env} {s : State} {m : MethodId} {args : Array Value} {below : List Frame} {meth : Method} {c : Code} {E : EN} {G : GM} {X : Xm} {I : Im} (C0 : CX p s m args meth c E cL_areReels RL 15) (hr : meth.sig.returnType = (some .boolean)) (hz : s.heap.size + 0 ≤ eB E + G.1) {rr : Int32} (fl : Nat) (zr26 : Nat → Nat → Nat → Nat → Nat → Nat → Nat → Nat → Int32 → Int32 → Int32 → Option (Int32)) (zhr26 : ∀ (H : Heap) (locs : List Loc) (ls : Array Slot) (zx0 : Nat) (zx1 : Nat) (zx2 : Nat) (zx3 : Nat) (zx4 : Nat) (zx5 : Nat) (zx6 : Nat) (zx7 : Nat) (zx8 : Int32) (zx9 : Int32) (zx10 : Int32) (zt0 : okA E G 8 zx0) (zt1 : okA E G 11 zx1) (zt2 : okA E G 11 zx2) (zt3 : okA E G 11 zx3) (zt4 : okA E G 11 zx4) (zt5 : okA E G 11 zx5) (zt6 : okA E G 11 zx6) (zt7 : okA E G 11 zx7), WD E G I X s.heap H locs → lv_has ls 15 [(0, .ref zx0), (1, .ref zx1), (2, .ref zx2), (3, .ref zx3), (4, .ref zx4), (5, .ref zx5), (6, .ref zx6), (7, .ref zx7), (8, .int zx8), (9, .int zx9), (10, .int zx10)] → zr26 zx0 zx1 zx2 zx3 zx4 zx5 zx6 zx7 zx8 zx9 zx10 = some rr → W p l e ({ frames := 3, cells := 0, slots := 0, locals := 69 } : Room) s m args below meth c H locs 0 0 (MQ below (QI E G rr I X) args s 0 0 (eA E)) (F0 m 26 ls [])) (zr303 : Nat → Nat → Nat → Nat → Nat → Nat → Nat → Nat → Int32 → Int32 → Int32 → Int32 → Int32 → Option (Int32)) (zhr303 : ∀ (H : Heap) (locs : List Loc) (ls : Array Slot) (zx0 : Nat) (zx1 : Nat) (zx2 : Nat) (zx3 : Nat) (zx4 : Nat) (zx5 : Nat) (zx6 : Nat) (zx7 : Nat) (zx8 : Int32) (zx9 : Int32) (zx10 : Int32) (zx11 : Int32) (zx13 : Int32) (zt0 : okA E G 8 zx0) (zt1 : okA E G 11 zx1) (zt2 : okA E G 11 zx2) (zt3 : okA E G 11 zx3) (zt4 : okA E G 11 zx4) (zt5 : okA E G 11 zx5) (zt6 : okA E G 11 zx6) (zt7 : okA E G 11 zx7), WD E G I X s.heap H locs → lv_has ls 15 [(0, .ref zx0), (1, .ref zx1), (2, .ref zx2), (3, .ref zx3), (4, .ref zx4), (5, .ref zx5), (6, .ref zx6), (7, .ref zx7), (8, .int zx8), (9, .int zx9), (10, .int zx10), (11, .int zx11), (13, .int zx13)] → zr303 zx0 zx1 zx2 zx3 zx4 zx5 zx6 zx7 zx8 zx9 zx10 zx11 zx13 = some rr → W p l e ({ frames := 3, cells := 0, slots := 0, locals := 69 } : Room) s m args below meth c H locs 0 0 (MQ below (QI E G rr I X) args s 0 0 (eA E)) (F0 m 303 ls [])) : ∀ (H : Heap) (locs : List Loc) (ls : Array Slot) (zx0 : Nat) (zx1 : Nat) (zx2 : Nat) (zx3 : Nat) (zx4 : Nat) (zx5 : Nat) (zx6 : Nat) (zx7 : Nat) (zx8 : Int32) (zx9 : Int32) (zx10 : Int32) (zx11 : Int32) (zx13 : Int32) (zt0 : okA E G 8 zx0) (zt1 : okA E G 11 zx1) (zt2 : okA E G 11 zx2) (zt3 : okA E G 11 zx3) (zt4 : okA E G 11 zx4) (zt5 : okA E G 11 zx5) (zt6 : okA E G 11 zx6) (zt7 : okA E G 11 zx7), WD E G I X s.heap H locs → lv_has ls 15 [(0, .ref zx0), (1, .ref zx1), (2, .ref zx2), (3, .ref zx3), (4, .ref zx4), (5, .ref zx5), (6, .ref zx6), (7, .ref zx7), (8, .int zx8), (9, .int zx9), (10, .int zx10), (11, .int zx11), (13, .int zx13)] → m9_areReels_303b fl G.2.2 X I zr26 zr303 zx0 zx1 zx2 zx3 zx4 zx5 zx6 zx7 zx8 zx9 zx10 zx11 zx13 = some rr → W p l e ({ frames := 3, cells := 0, slots := 0, locals := 69 } : Room) s m args below meth c H locs 0 0 (MQ below (QI E G rr I X) args s 0 0 (eA E)) (F0 m 303 ls []) := by
  intro H locs ls zx0 zx1 zx2 zx3 zx4 zx5 zx6 zx7 zx8 zx9 zx10 zx11 zx13 zt0 zt1 zt2 zt3 zt4 zt5 zt6 zt7 hw hl hf
  unfold m9_areReels_303b at hf
  have hx := C0.1; have hb := C0.2.1; have hml := C0.2.2.1; have hown := C0.2.2.2.1; have hts := C0.2.2.2.2.1
  refine lv_iload hx hb dL_areReels_303 (lv_at hl 12 rfl) ?_
  refine lv_iload hx hb dL_areReels_305 (lv_at hl 11 rfl) ?_
  refine lv_icmp_ge (tgt := 418) hx hb dL_areReels_307 (by decide) (fun zc1 => ?_) (fun zc1 => ?_)
  · have hf := ite_t hf zc1
    exact w9_areReels_418 C0 hr hz fl zr26 zhr26 _ _ _ zx0 zx1 zx2 zx3 zx4 zx5 zx6 zx7 zx8 zx9 zx10 zt0 zt1 zt2 zt3 zt4 zt5 zt6 zt7 hw (lv_sub hl [0, 1, 2, 3, 4, 5, 6, 7, 8, 9, 10] rfl) hf
  · have hf := ite_f hf zc1
    refine lv_iload hx hb dL_areReels_310 (lv_at hl 9 rfl) ?_
    refine lv_if_eq (tgt := 418) hx hb dL_areReels_312 (by decide) (fun zc2 => ?_) (fun zc2 => ?_)
    · have hf := ite_t hf zc2
      exact w9_areReels_418 C0 hr hz fl zr26 zhr26 _ _ _ zx0 zx1 zx2 zx3 zx4 zx5 zx6 zx7 zx8 zx9 zx10 zt0 zt1 zt2 zt3 zt4 zt5 zt6 zt7 hw (lv_sub hl [0, 1, 2, 3, 4, 5, 6, 7, 8, 9, 10] rfl) hf
    · have hf := ite_f hf zc2
      refine lv_aload hx hb dL_areReels_315 (lv_at hl 4 rfl) ?_
      refine lv_bipush (v := (6 : Int32)) hx hb dL_areReels_317 (by decide) ?_
      refine lv_iload hx hb dL_areReels_319 (lv_at hl 10 rfl) ?_
      refine lv_imul hx hb dL_areReels_321 ?_
      refine lv_iload hx hb dL_areReels_322 (lv_at hl 12 rfl) ?_
      refine lv_iadd hx hb dL_areReels_324 ?_
      obtain ⟨zhb3, hf⟩ := ck_some hf
      refine x_iald C0 hw zt4 zhb3 dL_areReels_325 ?_
      refine lv_topi (fun zv4 ezv4 => ?_)
      have hf := lt_at hf ezv4
      refine lv_istore (lv' := [(14, .int zv4), (0, .ref zx0), (1, .ref zx1), (2, .ref zx2), (3, .ref zx3), (4, .ref zx4), (5, .ref zx5), (6, .ref zx6), (7, .ref zx7), (8, .int zx8), (9, .int zx9), (10, .int zx10), (11, .int zx11), (13, .int zx13)]) hx hb dL_areReels_326 hl (by decide) rfl (fun ls hl => ?_)
      refine lv_aload_n hx hb dL_areReels_328 rfl (lv_at hl 1 rfl) ?_
      refine lv_iload hx hb dL_areReels_329 (lv_at hl 11 rfl) ?_
      refine lv_iload hx hb dL_areReels_331 (lv_at hl 13 rfl) ?_
      refine lv_iconst (v := (0 : Int32)) hx hb dL_areReels_333 (by decide) ?_
      obtain ⟨zv5, ze6, hf⟩ := nn_some hf
      refine x_ci (r := zv5) (I1 := I) (X1 := X) (x_runV (As := [.int zx10, .int zx13, .int (0 : Int32)]) (rest := []) C0 (c8_ofSound l E G fl X I zx0 zx10 zx13 (0 : Int32) zt0 ze6) hw 8 zt0 (by decide) rfl wd70 wd447 wd448 wd449 wd107 ⟨rfl, rfl⟩ hy8_ofSound ⟨Nat.le_of_ble_eq_true rfl, Nat.le_of_ble_eq_true rfl⟩ rfl hl.1 (Nat.le_of_ble_eq_true rfl) ⟨Nat.zero_le _, Nat.zero_le _⟩ dL_areReels_334) hw (fun H locs hw => ?_)
      refine lv_iload hx hb dL_areReels_337 (lv_at hl 0 rfl) ?_
      refine lv_bipush (v := (64 : Int32)) hx hb dL_areReels_339 (by decide) ?_
      refine lv_irem hx hb dL_areReels_341 (by decide) ?_
      refine lv_icmp_ne (tgt := 409) hx hb dL_areReels_342 (by decide) (fun zc7 => ?_) (fun zc7 => ?_)
      · have hf := ite_f hf zc7
        exact w9_areReels_409 C0 hr hz fl zr26 zhr26 zr303 zhr303 _ _ _ zx0 zx1 zx2 zx3 zx4 zx5 zx6 zx7 zx8 zx10 zx11 zx13 zt0 zt1 zt2 zt3 zt4 zt5 zt6 zt7 hw (lv_sub hl [1, 2, 3, 4, 5, 6, 7, 8, 9, 11, 12, 13] rfl) hf
      · have hf := ite_t hf zc7
        refine lv_aload_n hx hb dL_areReels_345 rfl (lv_at hl 1 rfl) ?_
        refine lv_iload hx hb dL_areReels_346 (lv_at hl 11 rfl) ?_
        refine lv_iload hx hb dL_areReels_348 (lv_at hl 13 rfl) ?_
        refine lv_iconst (v := (1 : Int32)) hx hb dL_areReels_350 (by decide) ?_
        obtain ⟨zv8, ze9, hf⟩ := nn_some hf
        refine x_ci (r := zv8) (I1 := I) (X1 := X) (x_runV (As := [.int zx10, .int zx13, .int (1 : Int32)]) (rest := []) C0 (c8_ofSound l E G fl X I zx0 zx10 zx13 (1 : Int32) zt0 ze9) hw 8 zt0 (by decide) rfl wd70 wd447 wd448 wd449 wd107 ⟨rfl, rfl⟩ hy8_ofSound ⟨Nat.le_of_ble_eq_true rfl, Nat.le_of_ble_eq_true rfl⟩ rfl hl.1 (Nat.le_of_ble_eq_true rfl) ⟨Nat.zero_le _, Nat.zero_le _⟩ dL_areReels_351) hw (fun H locs hw => ?_)
        refine lv_iload hx hb dL_areReels_354 (lv_at hl 0 rfl) ?_
        refine lv_bipush (v := (64 : Int32)) hx hb dL_areReels_356 (by decide) ?_
        refine lv_idiv hx hb dL_areReels_358 (by decide) ?_
        refine lv_sipush (v := (128 : Int32)) hx hb dL_areReels_359 (by decide) ?_
        refine lv_irem hx hb dL_areReels_362 (by decide) ?_
        refine lv_icmp_ne (tgt := 409) hx hb dL_areReels_363 (by decide) (fun zc10 => ?_) (fun zc10 => ?_)
        · have hf := ite_f hf zc10
          exact w9_areReels_409 C0 hr hz fl zr26 zhr26 zr303 zhr303 _ _ _ zx0 zx1 zx2 zx3 zx4 zx5 zx6 zx7 zx8 zx10 zx11 zx13 zt0 zt1 zt2 zt3 zt4 zt5 zt6 zt7 hw (lv_sub hl [1, 2, 3, 4, 5, 6, 7, 8, 9, 11, 12, 13] rfl) hf
        · have hf := ite_t hf zc10
          refine lv_aload_n hx hb dL_areReels_366 rfl (lv_at hl 1 rfl) ?_
          refine lv_iload hx hb dL_areReels_367 (lv_at hl 11 rfl) ?_
          refine lv_iload hx hb dL_areReels_369 (lv_at hl 13 rfl) ?_
          refine lv_iconst (v := (2 : Int32)) hx hb dL_areReels_371 (by decide) ?_
          obtain ⟨zv11, ze12, hf⟩ := nn_some hf
          refine x_ci (r := zv11) (I1 := I) (X1 := X) (x_runV (As := [.int zx10, .int zx13, .int (2 : Int32)]) (rest := []) C0 (c8_ofSound l E G fl X I zx0 zx10 zx13 (2 : Int32) zt0 ze12) hw 8 zt0 (by decide) rfl wd70 wd447 wd448 wd449 wd107 ⟨rfl, rfl⟩ hy8_ofSound ⟨Nat.le_of_ble_eq_true rfl, Nat.le_of_ble_eq_true rfl⟩ rfl hl.1 (Nat.le_of_ble_eq_true rfl) ⟨Nat.zero_le _, Nat.zero_le _⟩ dL_areReels_372) hw (fun H locs hw => ?_)
          refine lv_aload hx hb dL_areReels_375 (lv_at hl 5 rfl) ?_
          refine lv_iload hx hb dL_areReels_377 (lv_at hl 11 rfl) ?_
          refine lv_iload hx hb dL_areReels_379 (lv_at hl 13 rfl) ?_
          obtain ⟨zv13, ze14, hf⟩ := nn_some hf
          refine x_ci (r := zv13) (I1 := I) (X1 := X) (x_runS (As := [.ref zx4, .int zx10, .int zx13]) (rest := [.int zv11]) C0 (c9_begins l E G fl X I zx4 zx10 zx13 zt4 ze14) hw wd80 wd420 wd421 wd422 ⟨rfl, rfl⟩ hy9_begins ⟨Nat.le_of_ble_eq_true rfl, Nat.le_of_ble_eq_true rfl⟩ rfl hl.1 (Nat.le_of_ble_eq_true rfl) ⟨Nat.zero_le _, Nat.zero_le _⟩ dL_areReels_381) hw (fun H locs hw => ?_)
          refine lv_icmp_ne (tgt := 409) hx hb dL_areReels_384 (by decide) (fun zc15 => ?_) (fun zc15 => ?_)
          · have hf := ite_f hf zc15
            exact w9_areReels_409 C0 hr hz fl zr26 zhr26 zr303 zhr303 _ _ _ zx0 zx1 zx2 zx3 zx4 zx5 zx6 zx7 zx8 zx10 zx11 zx13 zt0 zt1 zt2 zt3 zt4 zt5 zt6 zt7 hw (lv_sub hl [1, 2, 3, 4, 5, 6, 7, 8, 9, 11, 12, 13] rfl) hf
          · have hf := ite_t hf zc15
            refine lv_aload_n hx hb dL_areReels_387 rfl (lv_at hl 1 rfl) ?_
            refine lv_iload hx hb dL_areReels_388 (lv_at hl 11 rfl) ?_
            refine lv_iload hx hb dL_areReels_390 (lv_at hl 13 rfl) ?_
            refine lv_iconst (v := (3 : Int32)) hx hb dL_areReels_392 (by decide) ?_
            obtain ⟨zv16, ze17, hf⟩ := nn_some hf
            refine x_ci (r := zv16) (I1 := I) (X1 := X) (x_runV (As := [.int zx10, .int zx13, .int (3 : Int32)]) (rest := []) C0 (c8_ofSound l E G fl X I zx0 zx10 zx13 (3 : Int32) zt0 ze17) hw 8 zt0 (by decide) rfl wd70 wd447 wd448 wd449 wd107 ⟨rfl, rfl⟩ hy8_ofSound ⟨Nat.le_of_ble_eq_true rfl, Nat.le_of_ble_eq_true rfl⟩ rfl hl.1 (Nat.le_of_ble_eq_true rfl) ⟨Nat.zero_le _, Nat.zero_le _⟩ dL_areReels_393) hw (fun H locs hw => ?_)
            refine lv_iload hx hb dL_areReels_396 (lv_at hl 0 rfl) ?_
            refine lv_sipush (v := (8192 : Int32)) hx hb dL_areReels_398 (by decide) ?_
            refine lv_idiv hx hb dL_areReels_401 (by decide) ?_
            refine lv_icmp_ne (tgt := 409) hx hb dL_areReels_402 (by decide) (fun zc18 => ?_) (fun zc18 => ?_)
            · have hf := ite_f hf zc18
              exact w9_areReels_409 C0 hr hz fl zr26 zhr26 zr303 zhr303 _ _ _ zx0 zx1 zx2 zx3 zx4 zx5 zx6 zx7 zx8 zx10 zx11 zx13 zt0 zt1 zt2 zt3 zt4 zt5 zt6 zt7 hw (lv_sub hl [1, 2, 3, 4, 5, 6, 7, 8, 9, 11, 12, 13] rfl) hf
            · have hf := ite_t hf zc18
              refine lv_iconst (v := (1 : Int32)) hx hb dL_areReels_405 (by decide) ?_
              refine lv_goto (tgt := 410) hx hb dL_areReels_406 (by decide) ?_
              exact w9_areReels_410 C0 hr hz fl zr26 zhr26 zr303 zhr303 _ _ _ zx0 zx1 zx2 zx3 zx4 zx5 zx6 zx7 zx8 zx10 zx11 zx13 (1 : Int32) zt0 zt1 zt2 zt3 zt4 zt5 zt6 zt7 hw (lv_sub hl [1, 2, 3, 4, 5, 6, 7, 8, 9, 11, 12, 13] rfl) hf
theorem w9_areReels_303 {p : Program} {l : Launch} {e : Env} {s : State} {m : MethodId} {args : Array Value} {below : List Frame} {meth : Method} {c : Code} {E : EN} {G : GM} {X : Xm} {I : Im} (C0 : CX p s m args meth c E cL_areReels RL 15) (hr : meth.sig.returnType = (some .boolean)) (hz : s.heap.size + 0 ≤ eB E + G.1) {rr : Int32} (fl : Nat) (zr26 : Nat → Nat → Nat → Nat → Nat → Nat → Nat → Nat → Int32 → Int32 → Int32 → Option (Int32)) (zhr26 : ∀ (H : Heap) (locs : List Loc) (ls : Array Slot) (zx0 : Nat) (zx1 : Nat) (zx2 : Nat) (zx3 : Nat) (zx4 : Nat) (zx5 : Nat) (zx6 : Nat) (zx7 : Nat) (zx8 : Int32) (zx9 : Int32) (zx10 : Int32) (zt0 : okA E G 8 zx0) (zt1 : okA E G 11 zx1) (zt2 : okA E G 11 zx2) (zt3 : okA E G 11 zx3) (zt4 : okA E G 11 zx4) (zt5 : okA E G 11 zx5) (zt6 : okA E G 11 zx6) (zt7 : okA E G 11 zx7), WD E G I X s.heap H locs → lv_has ls 15 [(0, .ref zx0), (1, .ref zx1), (2, .ref zx2), (3, .ref zx3), (4, .ref zx4), (5, .ref zx5), (6, .ref zx6), (7, .ref zx7), (8, .int zx8), (9, .int zx9), (10, .int zx10)] → zr26 zx0 zx1 zx2 zx3 zx4 zx5 zx6 zx7 zx8 zx9 zx10 = some rr → W p l e ({ frames := 3, cells := 0, slots := 0, locals := 69 } : Room) s m args below meth c H locs 0 0 (MQ below (QI E G rr I X) args s 0 0 (eA E)) (F0 m 26 ls [])) : ∀ (n : Nat) (H : Heap) (locs : List Loc) (ls : Array Slot) (zx0 : Nat) (zx1 : Nat) (zx2 : Nat) (zx3 : Nat) (zx4 : Nat) (zx5 : Nat) (zx6 : Nat) (zx7 : Nat) (zx8 : Int32) (zx9 : Int32) (zx10 : Int32) (zx11 : Int32) (zx13 : Int32) (zt0 : okA E G 8 zx0) (zt1 : okA E G 11 zx1) (zt2 : okA E G 11 zx2) (zt3 : okA E G 11 zx3) (zt4 : okA E G 11 zx4) (zt5 : okA E G 11 zx5) (zt6 : okA E G 11 zx6) (zt7 : okA E G 11 zx7), WD E G I X s.heap H locs → lv_has ls 15 [(0, .ref zx0), (1, .ref zx1), (2, .ref zx2), (3, .ref zx3), (4, .ref zx4), (5, .ref zx5), (6, .ref zx6), (7, .ref zx7), (8, .int zx8), (9, .int zx9), (10, .int zx10), (11, .int zx11), (13, .int zx13)] → m9_areReels_303 fl G.2.2 X I zr26 n zx0 zx1 zx2 zx3 zx4 zx5 zx6 zx7 zx8 zx9 zx10 zx11 zx13 = some rr → W p l e ({ frames := 3, cells := 0, slots := 0, locals := 69 } : Room) s m args below meth c H locs 0 0 (MQ below (QI E G rr I X) args s 0 0 (eA E)) (F0 m 303 ls []) := by
  intro n
  induction n with
  | zero => intro H locs ls zx0 zx1 zx2 zx3 zx4 zx5 zx6 zx7 zx8 zx9 zx10 zx11 zx13 zt0 zt1 zt2 zt3 zt4 zt5 zt6 zt7 hw hl hf; exact absurd (show (none : Option (Int32)) = some rr from hf) (by simp)
  | succ n ih => intro H locs ls zx0 zx1 zx2 zx3 zx4 zx5 zx6 zx7 zx8 zx9 zx10 zx11 zx13 zt0 zt1 zt2 zt3 zt4 zt5 zt6 zt7 hw hl hf; exact w9_areReels_303b C0 hr hz fl zr26 zhr26 _ ih H locs ls zx0 zx1 zx2 zx3 zx4 zx5 zx6 zx7 zx8 zx9 zx10 zx11 zx13 zt0 zt1 zt2 zt3 zt4 zt5 zt6 zt7 hw hl hf
noncomputable def m9_areReels_298 (fl : Nat) (len : Nat → Nat) (X : Xm) (I : Im) (zr26 : Nat → Nat → Nat → Nat → Nat → Nat → Nat → Nat → Int32 → Int32 → Int32 → Option (Int32)) (zx0 : Nat) (zx1 : Nat) (zx2 : Nat) (zx3 : Nat) (zx4 : Nat) (zx5 : Nat) (zx6 : Nat) (zx7 : Nat) (zx8 : Int32) (zx10 : Int32) (zx11 : Int32) (zs0 : Int32) : Option (Int32) :=
  m9_areReels_303 fl len X I zr26 fl zx0 zx1 zx2 zx3 zx4 zx5 zx6 zx7 zx8 zs0 zx10 zx11 (0 : Int32)
set_option maxHeartbeats 4000000 in
set_option maxRecDepth 100000 in
theorem w9_areReels_298 {p : Program} {l : Launch} {e : Env} {s : State} {m : MethodId} {args : Array Value} {below : List Frame} {meth : Method} {c : Code} {E : EN} {G : GM} {X : Xm} {I : Im} (C0 : CX p s m args meth c E cL_areReels RL 15) (hr : meth.sig.returnType = (some .boolean)) (hz : s.heap.size + 0 ≤ eB E + G.1) {rr : Int32} (fl : Nat) (zr26 : Nat → Nat → Nat → Nat → Nat → Nat → Nat → Nat → Int32 → Int32 → Int32 → Option (Int32)) (zhr26 : ∀ (H : Heap) (locs : List Loc) (ls : Array Slot) (zx0 : Nat) (zx1 : Nat) (zx2 : Nat) (zx3 : Nat) (zx4 : Nat) (zx5 : Nat) (zx6 : Nat) (zx7 : Nat) (zx8 : Int32) (zx9 : Int32) (zx10 : Int32) (zt0 : okA E G 8 zx0) (zt1 : okA E G 11 zx1) (zt2 : okA E G 11 zx2) (zt3 : okA E G 11 zx3) (zt4 : okA E G 11 zx4) (zt5 : okA E G 11 zx5) (zt6 : okA E G 11 zx6) (zt7 : okA E G 11 zx7), WD E G I X s.heap H locs → lv_has ls 15 [(0, .ref zx0), (1, .ref zx1), (2, .ref zx2), (3, .ref zx3), (4, .ref zx4), (5, .ref zx5), (6, .ref zx6), (7, .ref zx7), (8, .int zx8), (9, .int zx9), (10, .int zx10)] → zr26 zx0 zx1 zx2 zx3 zx4 zx5 zx6 zx7 zx8 zx9 zx10 = some rr → W p l e ({ frames := 3, cells := 0, slots := 0, locals := 69 } : Room) s m args below meth c H locs 0 0 (MQ below (QI E G rr I X) args s 0 0 (eA E)) (F0 m 26 ls [])) : ∀ (H : Heap) (locs : List Loc) (ls : Array Slot) (zx0 : Nat) (zx1 : Nat) (zx2 : Nat) (zx3 : Nat) (zx4 : Nat) (zx5 : Nat) (zx6 : Nat) (zx7 : Nat) (zx8 : Int32) (zx10 : Int32) (zx11 : Int32) (zs0 : Int32) (zt0 : okA E G 8 zx0) (zt1 : okA E G 11 zx1) (zt2 : okA E G 11 zx2) (zt3 : okA E G 11 zx3) (zt4 : okA E G 11 zx4) (zt5 : okA E G 11 zx5) (zt6 : okA E G 11 zx6) (zt7 : okA E G 11 zx7), WD E G I X s.heap H locs → lv_has ls 15 [(0, .ref zx0), (1, .ref zx1), (2, .ref zx2), (3, .ref zx3), (4, .ref zx4), (5, .ref zx5), (6, .ref zx6), (7, .ref zx7), (8, .int zx8), (10, .int zx10), (11, .int zx11)] → m9_areReels_298 fl G.2.2 X I zr26 zx0 zx1 zx2 zx3 zx4 zx5 zx6 zx7 zx8 zx10 zx11 zs0 = some rr → W p l e ({ frames := 3, cells := 0, slots := 0, locals := 69 } : Room) s m args below meth c H locs 0 0 (MQ below (QI E G rr I X) args s 0 0 (eA E)) (F0 m 298 ls [.int zs0]) := by
  intro H locs ls zx0 zx1 zx2 zx3 zx4 zx5 zx6 zx7 zx8 zx10 zx11 zs0 zt0 zt1 zt2 zt3 zt4 zt5 zt6 zt7 hw hl hf
  unfold m9_areReels_298 at hf
  have hx := C0.1; have hb := C0.2.1; have hml := C0.2.2.1; have hown := C0.2.2.2.1; have hts := C0.2.2.2.2.1
  refine lv_istore (lv' := [(9, .int zs0), (0, .ref zx0), (1, .ref zx1), (2, .ref zx2), (3, .ref zx3), (4, .ref zx4), (5, .ref zx5), (6, .ref zx6), (7, .ref zx7), (8, .int zx8), (10, .int zx10), (11, .int zx11)]) hx hb dL_areReels_298 hl (by decide) rfl (fun ls hl => ?_)
  refine lv_iconst (v := (0 : Int32)) hx hb dL_areReels_300 (by decide) ?_
  refine lv_istore (lv' := [(13, .int (0 : Int32)), (9, .int zs0), (0, .ref zx0), (1, .ref zx1), (2, .ref zx2), (3, .ref zx3), (4, .ref zx4), (5, .ref zx5), (6, .ref zx6), (7, .ref zx7), (8, .int zx8), (10, .int zx10), (11, .int zx11)]) hx hb dL_areReels_301 hl (by decide) rfl (fun ls hl => ?_)
  exact w9_areReels_303 C0 hr hz fl zr26 zhr26 fl _ _ _ zx0 zx1 zx2 zx3 zx4 zx5 zx6 zx7 zx8 zs0 zx10 zx11 (0 : Int32) zt0 zt1 zt2 zt3 zt4 zt5 zt6 zt7 hw (lv_sub hl [2, 3, 4, 5, 6, 7, 8, 9, 10, 1, 11, 12, 0] rfl) hf
noncomputable def m9_areReels_297 (fl : Nat) (len : Nat → Nat) (X : Xm) (I : Im) (zr26 : Nat → Nat → Nat → Nat → Nat → Nat → Nat → Nat → Int32 → Int32 → Int32 → Option (Int32)) (zx0 : Nat) (zx1 : Nat) (zx2 : Nat) (zx3 : Nat) (zx4 : Nat) (zx5 : Nat) (zx6 : Nat) (zx7 : Nat) (zx8 : Int32) (zx10 : Int32) (zx11 : Int32) : Option (Int32) :=
  m9_areReels_298 fl len X I zr26 zx0 zx1 zx2 zx3 zx4 zx5 zx6 zx7 zx8 zx10 zx11 (0 : Int32)
set_option maxHeartbeats 4000000 in
set_option maxRecDepth 100000 in
theorem w9_areReels_297 {p : Program} {l : Launch} {e : Env} {s : State} {m : MethodId} {args : Array Value} {below : List Frame} {meth : Method} {c : Code} {E : EN} {G : GM} {X : Xm} {I : Im} (C0 : CX p s m args meth c E cL_areReels RL 15) (hr : meth.sig.returnType = (some .boolean)) (hz : s.heap.size + 0 ≤ eB E + G.1) {rr : Int32} (fl : Nat) (zr26 : Nat → Nat → Nat → Nat → Nat → Nat → Nat → Nat → Int32 → Int32 → Int32 → Option (Int32)) (zhr26 : ∀ (H : Heap) (locs : List Loc) (ls : Array Slot) (zx0 : Nat) (zx1 : Nat) (zx2 : Nat) (zx3 : Nat) (zx4 : Nat) (zx5 : Nat) (zx6 : Nat) (zx7 : Nat) (zx8 : Int32) (zx9 : Int32) (zx10 : Int32) (zt0 : okA E G 8 zx0) (zt1 : okA E G 11 zx1) (zt2 : okA E G 11 zx2) (zt3 : okA E G 11 zx3) (zt4 : okA E G 11 zx4) (zt5 : okA E G 11 zx5) (zt6 : okA E G 11 zx6) (zt7 : okA E G 11 zx7), WD E G I X s.heap H locs → lv_has ls 15 [(0, .ref zx0), (1, .ref zx1), (2, .ref zx2), (3, .ref zx3), (4, .ref zx4), (5, .ref zx5), (6, .ref zx6), (7, .ref zx7), (8, .int zx8), (9, .int zx9), (10, .int zx10)] → zr26 zx0 zx1 zx2 zx3 zx4 zx5 zx6 zx7 zx8 zx9 zx10 = some rr → W p l e ({ frames := 3, cells := 0, slots := 0, locals := 69 } : Room) s m args below meth c H locs 0 0 (MQ below (QI E G rr I X) args s 0 0 (eA E)) (F0 m 26 ls [])) : ∀ (H : Heap) (locs : List Loc) (ls : Array Slot) (zx0 : Nat) (zx1 : Nat) (zx2 : Nat) (zx3 : Nat) (zx4 : Nat) (zx5 : Nat) (zx6 : Nat) (zx7 : Nat) (zx8 : Int32) (zx10 : Int32) (zx11 : Int32) (zt0 : okA E G 8 zx0) (zt1 : okA E G 11 zx1) (zt2 : okA E G 11 zx2) (zt3 : okA E G 11 zx3) (zt4 : okA E G 11 zx4) (zt5 : okA E G 11 zx5) (zt6 : okA E G 11 zx6) (zt7 : okA E G 11 zx7), WD E G I X s.heap H locs → lv_has ls 15 [(0, .ref zx0), (1, .ref zx1), (2, .ref zx2), (3, .ref zx3), (4, .ref zx4), (5, .ref zx5), (6, .ref zx6), (7, .ref zx7), (8, .int zx8), (10, .int zx10), (11, .int zx11)] → m9_areReels_297 fl G.2.2 X I zr26 zx0 zx1 zx2 zx3 zx4 zx5 zx6 zx7 zx8 zx10 zx11 = some rr → W p l e ({ frames := 3, cells := 0, slots := 0, locals := 69 } : Room) s m args below meth c H locs 0 0 (MQ below (QI E G rr I X) args s 0 0 (eA E)) (F0 m 297 ls []) := by
  intro H locs ls zx0 zx1 zx2 zx3 zx4 zx5 zx6 zx7 zx8 zx10 zx11 zt0 zt1 zt2 zt3 zt4 zt5 zt6 zt7 hw hl hf
  unfold m9_areReels_297 at hf
  have hx := C0.1; have hb := C0.2.1; have hml := C0.2.2.1; have hown := C0.2.2.2.1; have hts := C0.2.2.2.2.1
  refine lv_iconst (v := (0 : Int32)) hx hb dL_areReels_297 (by decide) ?_
  exact w9_areReels_298 C0 hr hz fl zr26 zhr26 _ _ _ zx0 zx1 zx2 zx3 zx4 zx5 zx6 zx7 zx8 zx10 zx11 (0 : Int32) zt0 zt1 zt2 zt3 zt4 zt5 zt6 zt7 hw (lv_sub hl [0, 1, 2, 3, 4, 5, 6, 7, 8, 9, 10] rfl) hf
noncomputable def m9_areReels_163 (fl : Nat) (len : Nat → Nat) (X : Xm) (I : Im) (zr26 : Nat → Nat → Nat → Nat → Nat → Nat → Nat → Nat → Int32 → Int32 → Int32 → Option (Int32)) (zx0 : Nat) (zx1 : Nat) (zx2 : Nat) (zx3 : Nat) (zx4 : Nat) (zx5 : Nat) (zx6 : Nat) (zx7 : Nat) (zx8 : Int32) (zx10 : Int32) (zx11 : Int32) (zx12 : Int32) (zs0 : Int32) (zs1 : Int32) : Option (Int32) :=
  if zs0 = zs1 then
    nn (m8_ofReel fl len X I zx0 zx10 (2 : Int32)) fun zv2 =>
    ck (inb (((4 : Int32) * zx10) + (2 : Int32)) (len zx3) = true) <|
    if zv2 = (gA I zx3 ((((4 : Int32) * zx10) + (2 : Int32))).toNatClampNeg) then
      nn (m8_ofReel fl len X I zx0 zx10 (3 : Int32)) fun zv6 =>
      if zv6 = zx11 then
        nn (m8_ofReel fl len X I zx0 zx10 (4 : Int32)) fun zv9 =>
        nn (m9_begins fl len X I zx4 zx10 zx11) fun zv11 =>
        if zv9 = zv11 then
          nn (m8_ofReel fl len X I zx0 zx10 (5 : Int32)) fun zv14 =>
          nn (m9_nextOf fl len X I zx1 zx2 zx10) fun zv16 =>
          if zv14 = zv16 then
            nn (m8_ofChannel fl len X I zx0 zx10 (0 : Int32)) fun zv19 =>
            ck (inb ((2 : Int32) * zx10) (len zx5) = true) <|
            if zv19 = (gA I zx5 (((2 : Int32) * zx10)).toNatClampNeg) then
              nn (m8_ofChannel fl len X I zx0 zx10 (1 : Int32)) fun zv23 =>
              ck (inb (((2 : Int32) * zx10) + (1 : Int32)) (len zx5) = true) <|
              if zv23 = (gA I zx5 ((((2 : Int32) * zx10) + (1 : Int32))).toNatClampNeg) then
                nn (m8_ofChannel fl len X I zx0 zx10 (2 : Int32)) fun zv27 =>
                if zv27 = zx12 then
                  nn (m8_ofSound fl len X I zx0 zx10 zx11 (0 : Int32)) fun zv30 =>
                  if zv30 = (-1 : Int32) then
                    m9_areReels_298 fl len X I zr26 zx0 zx1 zx2 zx3 zx4 zx5 zx6 zx7 zx8 zx10 zx11 (1 : Int32)
                  else
                    m9_areReels_297 fl len X I zr26 zx0 zx1 zx2 zx3 zx4 zx5 zx6 zx7 zx8 zx10 zx11
                else
                  m9_areReels_297 fl len X I zr26 zx0 zx1 zx2 zx3 zx4 zx5 zx6 zx7 zx8 zx10 zx11
              else
                m9_areReels_297 fl len X I zr26 zx0 zx1 zx2 zx3 zx4 zx5 zx6 zx7 zx8 zx10 zx11
            else
              m9_areReels_297 fl len X I zr26 zx0 zx1 zx2 zx3 zx4 zx5 zx6 zx7 zx8 zx10 zx11
          else
            m9_areReels_297 fl len X I zr26 zx0 zx1 zx2 zx3 zx4 zx5 zx6 zx7 zx8 zx10 zx11
        else
          m9_areReels_297 fl len X I zr26 zx0 zx1 zx2 zx3 zx4 zx5 zx6 zx7 zx8 zx10 zx11
      else
        m9_areReels_297 fl len X I zr26 zx0 zx1 zx2 zx3 zx4 zx5 zx6 zx7 zx8 zx10 zx11
    else
      m9_areReels_297 fl len X I zr26 zx0 zx1 zx2 zx3 zx4 zx5 zx6 zx7 zx8 zx10 zx11
  else
    m9_areReels_297 fl len X I zr26 zx0 zx1 zx2 zx3 zx4 zx5 zx6 zx7 zx8 zx10 zx11
set_option maxHeartbeats 4000000 in
set_option maxRecDepth 100000 in
theorem w9_areReels_163 {p : Program} {l : Launch} {e : Env} {s : State} {m : MethodId} {args : Array Value} {below : List Frame} {meth : Method} {c : Code} {E : EN} {G : GM} {X : Xm} {I : Im} (C0 : CX p s m args meth c E cL_areReels RL 15) (hr : meth.sig.returnType = (some .boolean)) (hz : s.heap.size + 0 ≤ eB E + G.1) {rr : Int32} (fl : Nat) (zr26 : Nat → Nat → Nat → Nat → Nat → Nat → Nat → Nat → Int32 → Int32 → Int32 → Option (Int32)) (zhr26 : ∀ (H : Heap) (locs : List Loc) (ls : Array Slot) (zx0 : Nat) (zx1 : Nat) (zx2 : Nat) (zx3 : Nat) (zx4 : Nat) (zx5 : Nat) (zx6 : Nat) (zx7 : Nat) (zx8 : Int32) (zx9 : Int32) (zx10 : Int32) (zt0 : okA E G 8 zx0) (zt1 : okA E G 11 zx1) (zt2 : okA E G 11 zx2) (zt3 : okA E G 11 zx3) (zt4 : okA E G 11 zx4) (zt5 : okA E G 11 zx5) (zt6 : okA E G 11 zx6) (zt7 : okA E G 11 zx7), WD E G I X s.heap H locs → lv_has ls 15 [(0, .ref zx0), (1, .ref zx1), (2, .ref zx2), (3, .ref zx3), (4, .ref zx4), (5, .ref zx5), (6, .ref zx6), (7, .ref zx7), (8, .int zx8), (9, .int zx9), (10, .int zx10)] → zr26 zx0 zx1 zx2 zx3 zx4 zx5 zx6 zx7 zx8 zx9 zx10 = some rr → W p l e ({ frames := 3, cells := 0, slots := 0, locals := 69 } : Room) s m args below meth c H locs 0 0 (MQ below (QI E G rr I X) args s 0 0 (eA E)) (F0 m 26 ls [])) : ∀ (H : Heap) (locs : List Loc) (ls : Array Slot) (zx0 : Nat) (zx1 : Nat) (zx2 : Nat) (zx3 : Nat) (zx4 : Nat) (zx5 : Nat) (zx6 : Nat) (zx7 : Nat) (zx8 : Int32) (zx10 : Int32) (zx11 : Int32) (zx12 : Int32) (zs0 : Int32) (zs1 : Int32) (zt0 : okA E G 8 zx0) (zt1 : okA E G 11 zx1) (zt2 : okA E G 11 zx2) (zt3 : okA E G 11 zx3) (zt4 : okA E G 11 zx4) (zt5 : okA E G 11 zx5) (zt6 : okA E G 11 zx6) (zt7 : okA E G 11 zx7), WD E G I X s.heap H locs → lv_has ls 15 [(0, .ref zx0), (1, .ref zx1), (2, .ref zx2), (3, .ref zx3), (4, .ref zx4), (5, .ref zx5), (6, .ref zx6), (7, .ref zx7), (8, .int zx8), (10, .int zx10), (11, .int zx11), (12, .int zx12)] → m9_areReels_163 fl G.2.2 X I zr26 zx0 zx1 zx2 zx3 zx4 zx5 zx6 zx7 zx8 zx10 zx11 zx12 zs0 zs1 = some rr → W p l e ({ frames := 3, cells := 0, slots := 0, locals := 69 } : Room) s m args below meth c H locs 0 0 (MQ below (QI E G rr I X) args s 0 0 (eA E)) (F0 m 163 ls [.int zs1, .int zs0]) := by
  intro H locs ls zx0 zx1 zx2 zx3 zx4 zx5 zx6 zx7 zx8 zx10 zx11 zx12 zs0 zs1 zt0 zt1 zt2 zt3 zt4 zt5 zt6 zt7 hw hl hf
  unfold m9_areReels_163 at hf
  have hx := C0.1; have hb := C0.2.1; have hml := C0.2.2.1; have hown := C0.2.2.2.1; have hts := C0.2.2.2.2.1
  refine lv_icmp_ne (tgt := 297) hx hb dL_areReels_163 (by decide) (fun zc1 => ?_) (fun zc1 => ?_)
  · have hf := ite_f hf zc1
    exact w9_areReels_297 C0 hr hz fl zr26 zhr26 _ _ _ zx0 zx1 zx2 zx3 zx4 zx5 zx6 zx7 zx8 zx10 zx11 zt0 zt1 zt2 zt3 zt4 zt5 zt6 zt7 hw (lv_sub hl [0, 1, 2, 3, 4, 5, 6, 7, 8, 9, 10] rfl) hf
  · have hf := ite_t hf zc1
    refine lv_aload_n hx hb dL_areReels_166 rfl (lv_at hl 0 rfl) ?_
    refine lv_iload hx hb dL_areReels_167 (lv_at hl 9 rfl) ?_
    refine lv_iconst (v := (2 : Int32)) hx hb dL_areReels_169 (by decide) ?_
    obtain ⟨zv2, ze3, hf⟩ := nn_some hf
    refine x_ci (r := zv2) (I1 := I) (X1 := X) (x_runV (As := [.int zx10, .int (2 : Int32)]) (rest := []) C0 (c8_ofReel l E G fl X I zx0 zx10 (2 : Int32) zt0 ze3) hw 8 zt0 (by decide) rfl wd69 wd441 wd442 wd443 wd107 ⟨rfl, rfl⟩ hy8_ofReel ⟨Nat.le_of_ble_eq_true rfl, Nat.le_of_ble_eq_true rfl⟩ rfl hl.1 (Nat.le_of_ble_eq_true rfl) ⟨Nat.zero_le _, Nat.zero_le _⟩ dL_areReels_170) hw (fun H locs hw => ?_)
    refine lv_aload_n hx hb dL_areReels_173 rfl (lv_at hl 3 rfl) ?_
    refine lv_iconst (v := (4 : Int32)) hx hb dL_areReels_174 (by decide) ?_
    refine lv_iload hx hb dL_areReels_175 (lv_at hl 9 rfl) ?_
    refine lv_imul hx hb dL_areReels_177 ?_
    refine lv_iconst (v := (2 : Int32)) hx hb dL_areReels_178 (by decide) ?_
    refine lv_iadd hx hb dL_areReels_179 ?_
    obtain ⟨zhb4, hf⟩ := ck_some hf
    refine x_iald C0 hw zt3 zhb4 dL_areReels_180 ?_
    refine lv_icmp_ne (tgt := 297) hx hb dL_areReels_181 (by decide) (fun zc5 => ?_) (fun zc5 => ?_)
    · have hf := ite_f hf zc5
      exact w9_areReels_297 C0 hr hz fl zr26 zhr26 _ _ _ zx0 zx1 zx2 zx3 zx4 zx5 zx6 zx7 zx8 zx10 zx11 zt0 zt1 zt2 zt3 zt4 zt5 zt6 zt7 hw (lv_sub hl [0, 1, 2, 3, 4, 5, 6, 7, 8, 9, 10] rfl) hf
    · have hf := ite_t hf zc5
      refine lv_aload_n hx hb dL_areReels_184 rfl (lv_at hl 0 rfl) ?_
      refine lv_iload hx hb dL_areReels_185 (lv_at hl 9 rfl) ?_
      refine lv_iconst (v := (3 : Int32)) hx hb dL_areReels_187 (by decide) ?_
      obtain ⟨zv6, ze7, hf⟩ := nn_some hf
      refine x_ci (r := zv6) (I1 := I) (X1 := X) (x_runV (As := [.int zx10, .int (3 : Int32)]) (rest := []) C0 (c8_ofReel l E G fl X I zx0 zx10 (3 : Int32) zt0 ze7) hw 8 zt0 (by decide) rfl wd69 wd441 wd442 wd443 wd107 ⟨rfl, rfl⟩ hy8_ofReel ⟨Nat.le_of_ble_eq_true rfl, Nat.le_of_ble_eq_true rfl⟩ rfl hl.1 (Nat.le_of_ble_eq_true rfl) ⟨Nat.zero_le _, Nat.zero_le _⟩ dL_areReels_188) hw (fun H locs hw => ?_)
      refine lv_iload hx hb dL_areReels_191 (lv_at hl 10 rfl) ?_
      refine lv_icmp_ne (tgt := 297) hx hb dL_areReels_193 (by decide) (fun zc8 => ?_) (fun zc8 => ?_)
      · have hf := ite_f hf zc8
        exact w9_areReels_297 C0 hr hz fl zr26 zhr26 _ _ _ zx0 zx1 zx2 zx3 zx4 zx5 zx6 zx7 zx8 zx10 zx11 zt0 zt1 zt2 zt3 zt4 zt5 zt6 zt7 hw (lv_sub hl [0, 1, 2, 3, 4, 5, 6, 7, 8, 9, 10] rfl) hf
      · have hf := ite_t hf zc8
        refine lv_aload_n hx hb dL_areReels_196 rfl (lv_at hl 0 rfl) ?_
        refine lv_iload hx hb dL_areReels_197 (lv_at hl 9 rfl) ?_
        refine lv_iconst (v := (4 : Int32)) hx hb dL_areReels_199 (by decide) ?_
        obtain ⟨zv9, ze10, hf⟩ := nn_some hf
        refine x_ci (r := zv9) (I1 := I) (X1 := X) (x_runV (As := [.int zx10, .int (4 : Int32)]) (rest := []) C0 (c8_ofReel l E G fl X I zx0 zx10 (4 : Int32) zt0 ze10) hw 8 zt0 (by decide) rfl wd69 wd441 wd442 wd443 wd107 ⟨rfl, rfl⟩ hy8_ofReel ⟨Nat.le_of_ble_eq_true rfl, Nat.le_of_ble_eq_true rfl⟩ rfl hl.1 (Nat.le_of_ble_eq_true rfl) ⟨Nat.zero_le _, Nat.zero_le _⟩ dL_areReels_200) hw (fun H locs hw => ?_)
        refine lv_aload hx hb dL_areReels_203 (lv_at hl 4 rfl) ?_
        refine lv_iload hx hb dL_areReels_205 (lv_at hl 9 rfl) ?_
        refine lv_iload hx hb dL_areReels_207 (lv_at hl 10 rfl) ?_
        obtain ⟨zv11, ze12, hf⟩ := nn_some hf
        refine x_ci (r := zv11) (I1 := I) (X1 := X) (x_runS (As := [.ref zx4, .int zx10, .int zx11]) (rest := [.int zv9]) C0 (c9_begins l E G fl X I zx4 zx10 zx11 zt4 ze12) hw wd80 wd420 wd421 wd422 ⟨rfl, rfl⟩ hy9_begins ⟨Nat.le_of_ble_eq_true rfl, Nat.le_of_ble_eq_true rfl⟩ rfl hl.1 (Nat.le_of_ble_eq_true rfl) ⟨Nat.zero_le _, Nat.zero_le _⟩ dL_areReels_209) hw (fun H locs hw => ?_)
        refine lv_icmp_ne (tgt := 297) hx hb dL_areReels_212 (by decide) (fun zc13 => ?_) (fun zc13 => ?_)
        · have hf := ite_f hf zc13
          exact w9_areReels_297 C0 hr hz fl zr26 zhr26 _ _ _ zx0 zx1 zx2 zx3 zx4 zx5 zx6 zx7 zx8 zx10 zx11 zt0 zt1 zt2 zt3 zt4 zt5 zt6 zt7 hw (lv_sub hl [0, 1, 2, 3, 4, 5, 6, 7, 8, 9, 10] rfl) hf
        · have hf := ite_t hf zc13
          refine lv_aload_n hx hb dL_areReels_215 rfl (lv_at hl 0 rfl) ?_
          refine lv_iload hx hb dL_areReels_216 (lv_at hl 9 rfl) ?_
          refine lv_iconst (v := (5 : Int32)) hx hb dL_areReels_218 (by decide) ?_
          obtain ⟨zv14, ze15, hf⟩ := nn_some hf
          refine x_ci (r := zv14) (I1 := I) (X1 := X) (x_runV (As := [.int zx10, .int (5 : Int32)]) (rest := []) C0 (c8_ofReel l E G fl X I zx0 zx10 (5 : Int32) zt0 ze15) hw 8 zt0 (by decide) rfl wd69 wd441 wd442 wd443 wd107 ⟨rfl, rfl⟩ hy8_ofReel ⟨Nat.le_of_ble_eq_true rfl, Nat.le_of_ble_eq_true rfl⟩ rfl hl.1 (Nat.le_of_ble_eq_true rfl) ⟨Nat.zero_le _, Nat.zero_le _⟩ dL_areReels_219) hw (fun H locs hw => ?_)
          refine lv_aload_n hx hb dL_areReels_222 rfl (lv_at hl 1 rfl) ?_
          refine lv_aload_n hx hb dL_areReels_223 rfl (lv_at hl 2 rfl) ?_
          refine lv_iload hx hb dL_areReels_224 (lv_at hl 9 rfl) ?_
          obtain ⟨zv16, ze17, hf⟩ := nn_some hf
          refine x_ci (r := zv16) (I1 := I) (X1 := X) (x_runS (As := [.ref zx1, .ref zx2, .int zx10]) (rest := [.int zv14]) C0 (c9_nextOf l E G fl X I zx1 zx2 zx10 zt1 zt2 ze17) hw wd83 wd427 wd428 wd422 ⟨rfl, rfl⟩ hy9_nextOf ⟨Nat.le_of_ble_eq_true rfl, Nat.le_of_ble_eq_true rfl⟩ rfl hl.1 (Nat.le_of_ble_eq_true rfl) ⟨Nat.zero_le _, Nat.zero_le _⟩ dL_areReels_226) hw (fun H locs hw => ?_)
          refine lv_icmp_ne (tgt := 297) hx hb dL_areReels_229 (by decide) (fun zc18 => ?_) (fun zc18 => ?_)
          · have hf := ite_f hf zc18
            exact w9_areReels_297 C0 hr hz fl zr26 zhr26 _ _ _ zx0 zx1 zx2 zx3 zx4 zx5 zx6 zx7 zx8 zx10 zx11 zt0 zt1 zt2 zt3 zt4 zt5 zt6 zt7 hw (lv_sub hl [0, 1, 2, 3, 4, 5, 6, 7, 8, 9, 10] rfl) hf
          · have hf := ite_t hf zc18
            refine lv_aload_n hx hb dL_areReels_232 rfl (lv_at hl 0 rfl) ?_
            refine lv_iload hx hb dL_areReels_233 (lv_at hl 9 rfl) ?_
            refine lv_iconst (v := (0 : Int32)) hx hb dL_areReels_235 (by decide) ?_
            obtain ⟨zv19, ze20, hf⟩ := nn_some hf
            refine x_ci (r := zv19) (I1 := I) (X1 := X) (x_runV (As := [.int zx10, .int (0 : Int32)]) (rest := []) C0 (c8_ofChannel l E G fl X I zx0 zx10 (0 : Int32) zt0 ze20) hw 8 zt0 (by decide) rfl wd72 wd444 wd445 wd446 wd107 ⟨rfl, rfl⟩ hy8_ofChannel ⟨Nat.le_of_ble_eq_true rfl, Nat.le_of_ble_eq_true rfl⟩ rfl hl.1 (Nat.le_of_ble_eq_true rfl) ⟨Nat.zero_le _, Nat.zero_le _⟩ dL_areReels_236) hw (fun H locs hw => ?_)
            refine lv_aload hx hb dL_areReels_239 (lv_at hl 5 rfl) ?_
            refine lv_iconst (v := (2 : Int32)) hx hb dL_areReels_241 (by decide) ?_
            refine lv_iload hx hb dL_areReels_242 (lv_at hl 9 rfl) ?_
            refine lv_imul hx hb dL_areReels_244 ?_
            obtain ⟨zhb21, hf⟩ := ck_some hf
            refine x_iald C0 hw zt5 zhb21 dL_areReels_245 ?_
            refine lv_icmp_ne (tgt := 297) hx hb dL_areReels_246 (by decide) (fun zc22 => ?_) (fun zc22 => ?_)
            · have hf := ite_f hf zc22
              exact w9_areReels_297 C0 hr hz fl zr26 zhr26 _ _ _ zx0 zx1 zx2 zx3 zx4 zx5 zx6 zx7 zx8 zx10 zx11 zt0 zt1 zt2 zt3 zt4 zt5 zt6 zt7 hw (lv_sub hl [0, 1, 2, 3, 4, 5, 6, 7, 8, 9, 10] rfl) hf
            · have hf := ite_t hf zc22
              refine lv_aload_n hx hb dL_areReels_249 rfl (lv_at hl 0 rfl) ?_
              refine lv_iload hx hb dL_areReels_250 (lv_at hl 9 rfl) ?_
              refine lv_iconst (v := (1 : Int32)) hx hb dL_areReels_252 (by decide) ?_
              obtain ⟨zv23, ze24, hf⟩ := nn_some hf
              refine x_ci (r := zv23) (I1 := I) (X1 := X) (x_runV (As := [.int zx10, .int (1 : Int32)]) (rest := []) C0 (c8_ofChannel l E G fl X I zx0 zx10 (1 : Int32) zt0 ze24) hw 8 zt0 (by decide) rfl wd72 wd444 wd445 wd446 wd107 ⟨rfl, rfl⟩ hy8_ofChannel ⟨Nat.le_of_ble_eq_true rfl, Nat.le_of_ble_eq_true rfl⟩ rfl hl.1 (Nat.le_of_ble_eq_true rfl) ⟨Nat.zero_le _, Nat.zero_le _⟩ dL_areReels_253) hw (fun H locs hw => ?_)
              refine lv_aload hx hb dL_areReels_256 (lv_at hl 5 rfl) ?_
              refine lv_iconst (v := (2 : Int32)) hx hb dL_areReels_258 (by decide) ?_
              refine lv_iload hx hb dL_areReels_259 (lv_at hl 9 rfl) ?_
              refine lv_imul hx hb dL_areReels_261 ?_
              refine lv_iconst (v := (1 : Int32)) hx hb dL_areReels_262 (by decide) ?_
              refine lv_iadd hx hb dL_areReels_263 ?_
              obtain ⟨zhb25, hf⟩ := ck_some hf
              refine x_iald C0 hw zt5 zhb25 dL_areReels_264 ?_
              refine lv_icmp_ne (tgt := 297) hx hb dL_areReels_265 (by decide) (fun zc26 => ?_) (fun zc26 => ?_)
              · have hf := ite_f hf zc26
                exact w9_areReels_297 C0 hr hz fl zr26 zhr26 _ _ _ zx0 zx1 zx2 zx3 zx4 zx5 zx6 zx7 zx8 zx10 zx11 zt0 zt1 zt2 zt3 zt4 zt5 zt6 zt7 hw (lv_sub hl [0, 1, 2, 3, 4, 5, 6, 7, 8, 9, 10] rfl) hf
              · have hf := ite_t hf zc26
                refine lv_aload_n hx hb dL_areReels_268 rfl (lv_at hl 0 rfl) ?_
                refine lv_iload hx hb dL_areReels_269 (lv_at hl 9 rfl) ?_
                refine lv_iconst (v := (2 : Int32)) hx hb dL_areReels_271 (by decide) ?_
                obtain ⟨zv27, ze28, hf⟩ := nn_some hf
                refine x_ci (r := zv27) (I1 := I) (X1 := X) (x_runV (As := [.int zx10, .int (2 : Int32)]) (rest := []) C0 (c8_ofChannel l E G fl X I zx0 zx10 (2 : Int32) zt0 ze28) hw 8 zt0 (by decide) rfl wd72 wd444 wd445 wd446 wd107 ⟨rfl, rfl⟩ hy8_ofChannel ⟨Nat.le_of_ble_eq_true rfl, Nat.le_of_ble_eq_true rfl⟩ rfl hl.1 (Nat.le_of_ble_eq_true rfl) ⟨Nat.zero_le _, Nat.zero_le _⟩ dL_areReels_272) hw (fun H locs hw => ?_)
                refine lv_iload hx hb dL_areReels_275 (lv_at hl 11 rfl) ?_
                refine lv_icmp_ne (tgt := 297) hx hb dL_areReels_277 (by decide) (fun zc29 => ?_) (fun zc29 => ?_)
                · have hf := ite_f hf zc29
                  exact w9_areReels_297 C0 hr hz fl zr26 zhr26 _ _ _ zx0 zx1 zx2 zx3 zx4 zx5 zx6 zx7 zx8 zx10 zx11 zt0 zt1 zt2 zt3 zt4 zt5 zt6 zt7 hw (lv_sub hl [0, 1, 2, 3, 4, 5, 6, 7, 8, 9, 10] rfl) hf
                · have hf := ite_t hf zc29
                  refine lv_aload_n hx hb dL_areReels_280 rfl (lv_at hl 0 rfl) ?_
                  refine lv_iload hx hb dL_areReels_281 (lv_at hl 9 rfl) ?_
                  refine lv_iload hx hb dL_areReels_283 (lv_at hl 10 rfl) ?_
                  refine lv_iconst (v := (0 : Int32)) hx hb dL_areReels_285 (by decide) ?_
                  obtain ⟨zv30, ze31, hf⟩ := nn_some hf
                  refine x_ci (r := zv30) (I1 := I) (X1 := X) (x_runV (As := [.int zx10, .int zx11, .int (0 : Int32)]) (rest := []) C0 (c8_ofSound l E G fl X I zx0 zx10 zx11 (0 : Int32) zt0 ze31) hw 8 zt0 (by decide) rfl wd70 wd447 wd448 wd449 wd107 ⟨rfl, rfl⟩ hy8_ofSound ⟨Nat.le_of_ble_eq_true rfl, Nat.le_of_ble_eq_true rfl⟩ rfl hl.1 (Nat.le_of_ble_eq_true rfl) ⟨Nat.zero_le _, Nat.zero_le _⟩ dL_areReels_286) hw (fun H locs hw => ?_)
                  refine lv_iconst (v := (-1 : Int32)) hx hb dL_areReels_289 (by decide) ?_
                  refine lv_icmp_ne (tgt := 297) hx hb dL_areReels_290 (by decide) (fun zc32 => ?_) (fun zc32 => ?_)
                  · have hf := ite_f hf zc32
                    exact w9_areReels_297 C0 hr hz fl zr26 zhr26 _ _ _ zx0 zx1 zx2 zx3 zx4 zx5 zx6 zx7 zx8 zx10 zx11 zt0 zt1 zt2 zt3 zt4 zt5 zt6 zt7 hw (lv_sub hl [0, 1, 2, 3, 4, 5, 6, 7, 8, 9, 10] rfl) hf
                  · have hf := ite_t hf zc32
                    refine lv_iconst (v := (1 : Int32)) hx hb dL_areReels_293 (by decide) ?_
                    refine lv_goto (tgt := 298) hx hb dL_areReels_294 (by decide) ?_
                    exact w9_areReels_298 C0 hr hz fl zr26 zhr26 _ _ _ zx0 zx1 zx2 zx3 zx4 zx5 zx6 zx7 zx8 zx10 zx11 (1 : Int32) zt0 zt1 zt2 zt3 zt4 zt5 zt6 zt7 hw (lv_sub hl [0, 1, 2, 3, 4, 5, 6, 7, 8, 9, 10] rfl) hf
noncomputable def m9_areReels_111 (fl : Nat) (len : Nat → Nat) (X : Xm) (I : Im) (zr26 : Nat → Nat → Nat → Nat → Nat → Nat → Nat → Nat → Int32 → Int32 → Int32 → Option (Int32)) (zx0 : Nat) (zx1 : Nat) (zx2 : Nat) (zx3 : Nat) (zx4 : Nat) (zx5 : Nat) (zx6 : Nat) (zx7 : Nat) (zx10 : Int32) (zx11 : Int32) (zx12 : Int32) (zs0 : Int32) (zs1 : Int32) : Option (Int32) :=
  lt ((zs0 ||| zs1)) fun zv1 =>
  nn (m8_ofReel fl len X I zx0 zx10 (0 : Int32)) fun zv2 =>
  ck (inb ((4 : Int32) * zx10) (len zx3) = true) <|
  if zv2 = (gA I zx3 (((4 : Int32) * zx10)).toNatClampNeg) then
    nn (m8_ofReel fl len X I zx0 zx10 (1 : Int32)) fun zv6 =>
    ck (inb (((4 : Int32) * zx10) + (1 : Int32)) (len zx3) = true) <|
    if (gA I zx3 ((((4 : Int32) * zx10) + (1 : Int32))).toNatClampNeg) ≤ 0 then
      m9_areReels_163 fl len X I zr26 zx0 zx1 zx2 zx3 zx4 zx5 zx6 zx7 zv1 zx10 zx11 zx12 zv6 (-6 : Int32)
    else
      m9_areReels_163 fl len X I zr26 zx0 zx1 zx2 zx3 zx4 zx5 zx6 zx7 zv1 zx10 zx11 zx12 zv6 ((gA I zx3 ((((4 : Int32) * zx10) + (1 : Int32))).toNatClampNeg) - (1 : Int32))
  else
    m9_areReels_297 fl len X I zr26 zx0 zx1 zx2 zx3 zx4 zx5 zx6 zx7 zv1 zx10 zx11
set_option maxHeartbeats 4000000 in
set_option maxRecDepth 100000 in
theorem w9_areReels_111 {p : Program} {l : Launch} {e : Env} {s : State} {m : MethodId} {args : Array Value} {below : List Frame} {meth : Method} {c : Code} {E : EN} {G : GM} {X : Xm} {I : Im} (C0 : CX p s m args meth c E cL_areReels RL 15) (hr : meth.sig.returnType = (some .boolean)) (hz : s.heap.size + 0 ≤ eB E + G.1) {rr : Int32} (fl : Nat) (zr26 : Nat → Nat → Nat → Nat → Nat → Nat → Nat → Nat → Int32 → Int32 → Int32 → Option (Int32)) (zhr26 : ∀ (H : Heap) (locs : List Loc) (ls : Array Slot) (zx0 : Nat) (zx1 : Nat) (zx2 : Nat) (zx3 : Nat) (zx4 : Nat) (zx5 : Nat) (zx6 : Nat) (zx7 : Nat) (zx8 : Int32) (zx9 : Int32) (zx10 : Int32) (zt0 : okA E G 8 zx0) (zt1 : okA E G 11 zx1) (zt2 : okA E G 11 zx2) (zt3 : okA E G 11 zx3) (zt4 : okA E G 11 zx4) (zt5 : okA E G 11 zx5) (zt6 : okA E G 11 zx6) (zt7 : okA E G 11 zx7), WD E G I X s.heap H locs → lv_has ls 15 [(0, .ref zx0), (1, .ref zx1), (2, .ref zx2), (3, .ref zx3), (4, .ref zx4), (5, .ref zx5), (6, .ref zx6), (7, .ref zx7), (8, .int zx8), (9, .int zx9), (10, .int zx10)] → zr26 zx0 zx1 zx2 zx3 zx4 zx5 zx6 zx7 zx8 zx9 zx10 = some rr → W p l e ({ frames := 3, cells := 0, slots := 0, locals := 69 } : Room) s m args below meth c H locs 0 0 (MQ below (QI E G rr I X) args s 0 0 (eA E)) (F0 m 26 ls [])) : ∀ (H : Heap) (locs : List Loc) (ls : Array Slot) (zx0 : Nat) (zx1 : Nat) (zx2 : Nat) (zx3 : Nat) (zx4 : Nat) (zx5 : Nat) (zx6 : Nat) (zx7 : Nat) (zx10 : Int32) (zx11 : Int32) (zx12 : Int32) (zs0 : Int32) (zs1 : Int32) (zt0 : okA E G 8 zx0) (zt1 : okA E G 11 zx1) (zt2 : okA E G 11 zx2) (zt3 : okA E G 11 zx3) (zt4 : okA E G 11 zx4) (zt5 : okA E G 11 zx5) (zt6 : okA E G 11 zx6) (zt7 : okA E G 11 zx7), WD E G I X s.heap H locs → lv_has ls 15 [(0, .ref zx0), (1, .ref zx1), (2, .ref zx2), (3, .ref zx3), (4, .ref zx4), (5, .ref zx5), (6, .ref zx6), (7, .ref zx7), (10, .int zx10), (11, .int zx11), (12, .int zx12)] → m9_areReels_111 fl G.2.2 X I zr26 zx0 zx1 zx2 zx3 zx4 zx5 zx6 zx7 zx10 zx11 zx12 zs0 zs1 = some rr → W p l e ({ frames := 3, cells := 0, slots := 0, locals := 69 } : Room) s m args below meth c H locs 0 0 (MQ below (QI E G rr I X) args s 0 0 (eA E)) (F0 m 111 ls [.int zs1, .int zs0]) := by
  intro H locs ls zx0 zx1 zx2 zx3 zx4 zx5 zx6 zx7 zx10 zx11 zx12 zs0 zs1 zt0 zt1 zt2 zt3 zt4 zt5 zt6 zt7 hw hl hf
  unfold m9_areReels_111 at hf
  have hx := C0.1; have hb := C0.2.1; have hml := C0.2.2.1; have hown := C0.2.2.2.1; have hts := C0.2.2.2.2.1
  refine lv_ior hx hb dL_areReels_111 ?_
  refine lv_topi (fun zv1 ezv1 => ?_)
  have hf := lt_at hf ezv1
  refine lv_istore (lv' := [(8, .int zv1), (0, .ref zx0), (1, .ref zx1), (2, .ref zx2), (3, .ref zx3), (4, .ref zx4), (5, .ref zx5), (6, .ref zx6), (7, .ref zx7), (10, .int zx10), (11, .int zx11), (12, .int zx12)]) hx hb dL_areReels_112 hl (by decide) rfl (fun ls hl => ?_)
  refine lv_aload_n hx hb dL_areReels_114 rfl (lv_at hl 1 rfl) ?_
  refine lv_iload hx hb dL_areReels_115 (lv_at hl 9 rfl) ?_
  refine lv_iconst (v := (0 : Int32)) hx hb dL_areReels_117 (by decide) ?_
  obtain ⟨zv2, ze3, hf⟩ := nn_some hf
  refine x_ci (r := zv2) (I1 := I) (X1 := X) (x_runV (As := [.int zx10, .int (0 : Int32)]) (rest := []) C0 (c8_ofReel l E G fl X I zx0 zx10 (0 : Int32) zt0 ze3) hw 8 zt0 (by decide) rfl wd69 wd441 wd442 wd443 wd107 ⟨rfl, rfl⟩ hy8_ofReel ⟨Nat.le_of_ble_eq_true rfl, Nat.le_of_ble_eq_true rfl⟩ rfl hl.1 (Nat.le_of_ble_eq_true rfl) ⟨Nat.zero_le _, Nat.zero_le _⟩ dL_areReels_118) hw (fun H locs hw => ?_)
  refine lv_aload_n hx hb dL_areReels_121 rfl (lv_at hl 4 rfl) ?_
  refine lv_iconst (v := (4 : Int32)) hx hb dL_areReels_122 (by decide) ?_
  refine lv_iload hx hb dL_areReels_123 (lv_at hl 9 rfl) ?_
  refine lv_imul hx hb dL_areReels_125 ?_
  obtain ⟨zhb4, hf⟩ := ck_some hf
  refine x_iald C0 hw zt3 zhb4 dL_areReels_126 ?_
  refine lv_icmp_ne (tgt := 297) hx hb dL_areReels_127 (by decide) (fun zc5 => ?_) (fun zc5 => ?_)
  · have hf := ite_f hf zc5
    exact w9_areReels_297 C0 hr hz fl zr26 zhr26 _ _ _ zx0 zx1 zx2 zx3 zx4 zx5 zx6 zx7 zv1 zx10 zx11 zt0 zt1 zt2 zt3 zt4 zt5 zt6 zt7 hw (lv_sub hl [1, 2, 3, 4, 5, 6, 7, 8, 0, 9, 10] rfl) hf
  · have hf := ite_t hf zc5
    refine lv_aload_n hx hb dL_areReels_130 rfl (lv_at hl 1 rfl) ?_
    refine lv_iload hx hb dL_areReels_131 (lv_at hl 9 rfl) ?_
    refine lv_iconst (v := (1 : Int32)) hx hb dL_areReels_133 (by decide) ?_
    obtain ⟨zv6, ze7, hf⟩ := nn_some hf
    refine x_ci (r := zv6) (I1 := I) (X1 := X) (x_runV (As := [.int zx10, .int (1 : Int32)]) (rest := []) C0 (c8_ofReel l E G fl X I zx0 zx10 (1 : Int32) zt0 ze7) hw 8 zt0 (by decide) rfl wd69 wd441 wd442 wd443 wd107 ⟨rfl, rfl⟩ hy8_ofReel ⟨Nat.le_of_ble_eq_true rfl, Nat.le_of_ble_eq_true rfl⟩ rfl hl.1 (Nat.le_of_ble_eq_true rfl) ⟨Nat.zero_le _, Nat.zero_le _⟩ dL_areReels_134) hw (fun H locs hw => ?_)
    refine lv_aload_n hx hb dL_areReels_137 rfl (lv_at hl 4 rfl) ?_
    refine lv_iconst (v := (4 : Int32)) hx hb dL_areReels_138 (by decide) ?_
    refine lv_iload hx hb dL_areReels_139 (lv_at hl 9 rfl) ?_
    refine lv_imul hx hb dL_areReels_141 ?_
    refine lv_iconst (v := (1 : Int32)) hx hb dL_areReels_142 (by decide) ?_
    refine lv_iadd hx hb dL_areReels_143 ?_
    obtain ⟨zhb8, hf⟩ := ck_some hf
    refine x_iald C0 hw zt3 zhb8 dL_areReels_144 ?_
    refine lv_if_le (tgt := 161) hx hb dL_areReels_145 (by decide) (fun zc9 => ?_) (fun zc9 => ?_)
    · have hf := ite_t hf zc9
      refine lv_bipush (v := (-6 : Int32)) hx hb dL_areReels_161 (by decide) ?_
      exact w9_areReels_163 C0 hr hz fl zr26 zhr26 _ _ _ zx0 zx1 zx2 zx3 zx4 zx5 zx6 zx7 zv1 zx10 zx11 zx12 zv6 (-6 : Int32) zt0 zt1 zt2 zt3 zt4 zt5 zt6 zt7 hw (lv_sub hl [1, 2, 3, 4, 5, 6, 7, 8, 0, 9, 10, 11] rfl) hf
    · have hf := ite_f hf zc9
      refine lv_aload_n hx hb dL_areReels_148 rfl (lv_at hl 4 rfl) ?_
      refine lv_iconst (v := (4 : Int32)) hx hb dL_areReels_149 (by decide) ?_
      refine lv_iload hx hb dL_areReels_150 (lv_at hl 9 rfl) ?_
      refine lv_imul hx hb dL_areReels_152 ?_
      refine lv_iconst (v := (1 : Int32)) hx hb dL_areReels_153 (by decide) ?_
      refine lv_iadd hx hb dL_areReels_154 ?_
      refine x_iald C0 hw zt3 zhb8 dL_areReels_155 ?_
      refine lv_iconst (v := (1 : Int32)) hx hb dL_areReels_156 (by decide) ?_
      refine lv_isub hx hb dL_areReels_157 ?_
      refine lv_goto (tgt := 163) hx hb dL_areReels_158 (by decide) ?_
      exact w9_areReels_163 C0 hr hz fl zr26 zhr26 _ _ _ zx0 zx1 zx2 zx3 zx4 zx5 zx6 zx7 zv1 zx10 zx11 zx12 zv6 ((gA I zx3 ((((4 : Int32) * zx10) + (1 : Int32))).toNatClampNeg) - (1 : Int32)) zt0 zt1 zt2 zt3 zt4 zt5 zt6 zt7 hw (lv_sub hl [1, 2, 3, 4, 5, 6, 7, 8, 0, 9, 10, 11] rfl) hf
noncomputable def m9_areReels_81 (fl : Nat) (len : Nat → Nat) (X : Xm) (I : Im) (zr26 : Nat → Nat → Nat → Nat → Nat → Nat → Nat → Nat → Int32 → Int32 → Int32 → Option (Int32)) (zr53 : Nat → Nat → Nat → Nat → Nat → Nat → Nat → Nat → Int32 → Int32 → Int32 → Int32 → Int32 → Option (Int32)) (zx0 : Nat) (zx1 : Nat) (zx2 : Nat) (zx3 : Nat) (zx4 : Nat) (zx5 : Nat) (zx6 : Nat) (zx7 : Nat) (zx8 : Int32) (zx10 : Int32) (zx11 : Int32) (zx13 : Int32) (zs0 : Int32) (zs1 : Int32) : Option (Int32) :=
  lt ((zs0 + zs1)) fun zv1 =>
  lt (zx13 + 1) fun zv2 =>
  zr53 zx0 zx1 zx2 zx3 zx4 zx5 zx6 zx7 zx8 zx10 zx11 zv1 zv2
set_option maxHeartbeats 4000000 in
set_option maxRecDepth 100000 in
theorem w9_areReels_81 {p : Program} {l : Launch} {e : Env} {s : State} {m : MethodId} {args : Array Value} {below : List Frame} {meth : Method} {c : Code} {E : EN} {G : GM} {X : Xm} {I : Im} (C0 : CX p s m args meth c E cL_areReels RL 15) (hr : meth.sig.returnType = (some .boolean)) (hz : s.heap.size + 0 ≤ eB E + G.1) {rr : Int32} (fl : Nat) (zr26 : Nat → Nat → Nat → Nat → Nat → Nat → Nat → Nat → Int32 → Int32 → Int32 → Option (Int32)) (zhr26 : ∀ (H : Heap) (locs : List Loc) (ls : Array Slot) (zx0 : Nat) (zx1 : Nat) (zx2 : Nat) (zx3 : Nat) (zx4 : Nat) (zx5 : Nat) (zx6 : Nat) (zx7 : Nat) (zx8 : Int32) (zx9 : Int32) (zx10 : Int32) (zt0 : okA E G 8 zx0) (zt1 : okA E G 11 zx1) (zt2 : okA E G 11 zx2) (zt3 : okA E G 11 zx3) (zt4 : okA E G 11 zx4) (zt5 : okA E G 11 zx5) (zt6 : okA E G 11 zx6) (zt7 : okA E G 11 zx7), WD E G I X s.heap H locs → lv_has ls 15 [(0, .ref zx0), (1, .ref zx1), (2, .ref zx2), (3, .ref zx3), (4, .ref zx4), (5, .ref zx5), (6, .ref zx6), (7, .ref zx7), (8, .int zx8), (9, .int zx9), (10, .int zx10)] → zr26 zx0 zx1 zx2 zx3 zx4 zx5 zx6 zx7 zx8 zx9 zx10 = some rr → W p l e ({ frames := 3, cells := 0, slots := 0, locals := 69 } : Room) s m args below meth c H locs 0 0 (MQ below (QI E G rr I X) args s 0 0 (eA E)) (F0 m 26 ls [])) (zr53 : Nat → Nat → Nat → Nat → Nat → Nat → Nat → Nat → Int32 → Int32 → Int32 → Int32 → Int32 → Option (Int32)) (zhr53 : ∀ (H : Heap) (locs : List Loc) (ls : Array Slot) (zx0 : Nat) (zx1 : Nat) (zx2 : Nat) (zx3 : Nat) (zx4 : Nat) (zx5 : Nat) (zx6 : Nat) (zx7 : Nat) (zx8 : Int32) (zx10 : Int32) (zx11 : Int32) (zx12 : Int32) (zx13 : Int32) (zt0 : okA E G 8 zx0) (zt1 : okA E G 11 zx1) (zt2 : okA E G 11 zx2) (zt3 : okA E G 11 zx3) (zt4 : okA E G 11 zx4) (zt5 : okA E G 11 zx5) (zt6 : okA E G 11 zx6) (zt7 : okA E G 11 zx7), WD E G I X s.heap H locs → lv_has ls 15 [(0, .ref zx0), (1, .ref zx1), (2, .ref zx2), (3, .ref zx3), (4, .ref zx4), (5, .ref zx5), (6, .ref zx6), (7, .ref zx7), (8, .int zx8), (10, .int zx10), (11, .int zx11), (12, .int zx12), (13, .int zx13)] → zr53 zx0 zx1 zx2 zx3 zx4 zx5 zx6 zx7 zx8 zx10 zx11 zx12 zx13 = some rr → W p l e ({ frames := 3, cells := 0, slots := 0, locals := 69 } : Room) s m args below meth c H locs 0 0 (MQ below (QI E G rr I X) args s 0 0 (eA E)) (F0 m 53 ls [])) : ∀ (H : Heap) (locs : List Loc) (ls : Array Slot) (zx0 : Nat) (zx1 : Nat) (zx2 : Nat) (zx3 : Nat) (zx4 : Nat) (zx5 : Nat) (zx6 : Nat) (zx7 : Nat) (zx8 : Int32) (zx10 : Int32) (zx11 : Int32) (zx13 : Int32) (zs0 : Int32) (zs1 : Int32) (zt0 : okA E G 8 zx0) (zt1 : okA E G 11 zx1) (zt2 : okA E G 11 zx2) (zt3 : okA E G 11 zx3) (zt4 : okA E G 11 zx4) (zt5 : okA E G 11 zx5) (zt6 : okA E G 11 zx6) (zt7 : okA E G 11 zx7), WD E G I X s.heap H locs → lv_has ls 15 [(0, .ref zx0), (1, .ref zx1), (2, .ref zx2), (3, .ref zx3), (4, .ref zx4), (5, .ref zx5), (6, .ref zx6), (7, .ref zx7), (8, .int zx8), (10, .int zx10), (11, .int zx11), (13, .int zx13)] → m9_areReels_81 fl G.2.2 X I zr26 zr53 zx0 zx1 zx2 zx3 zx4 zx5 zx6 zx7 zx8 zx10 zx11 zx13 zs0 zs1 = some rr → W p l e ({ frames := 3, cells := 0, slots := 0, locals := 69 } : Room) s m args below meth c H locs 0 0 (MQ below (QI E G rr I X) args s 0 0 (eA E)) (F0 m 81 ls [.int zs1, .int zs0]) := by
  intro H locs ls zx0 zx1 zx2 zx3 zx4 zx5 zx6 zx7 zx8 zx10 zx11 zx13 zs0 zs1 zt0 zt1 zt2 zt3 zt4 zt5 zt6 zt7 hw hl hf
  unfold m9_areReels_81 at hf
  have hx := C0.1; have hb := C0.2.1; have hml := C0.2.2.1; have hown := C0.2.2.2.1; have hts := C0.2.2.2.2.1
  refine lv_iadd hx hb dL_areReels_81 ?_
  refine lv_topi (fun zv1 ezv1 => ?_)
  have hf := lt_at hf ezv1
  refine lv_istore (lv' := [(12, .int zv1), (0, .ref zx0), (1, .ref zx1), (2, .ref zx2), (3, .ref zx3), (4, .ref zx4), (5, .ref zx5), (6, .ref zx6), (7, .ref zx7), (8, .int zx8), (10, .int zx10), (11, .int zx11), (13, .int zx13)]) hx hb dL_areReels_82 hl (by decide) rfl (fun ls hl => ?_)
  obtain ⟨zv2, ezv2⟩ : ∃ y : Int32, y = zx13 + 1 := ⟨_, rfl⟩
  have hf := lt_at hf ezv2
  refine lv_iinc (v := zv2) (lv' := [(13, .int zv2), (12, .int zv1), (0, .ref zx0), (1, .ref zx1), (2, .ref zx2), (3, .ref zx3), (4, .ref zx4), (5, .ref zx5), (6, .ref zx6), (7, .ref zx7), (8, .int zx8), (10, .int zx10), (11, .int zx11)]) hx hb dL_areReels_84 hl (k := 12) rfl (by rw [ezv2]; rfl) (by decide) rfl (fun ls hl => ?_)
  refine lv_goto (tgt := 53) hx hb dL_areReels_87 (by decide) ?_
  exact zhr53 _ _ _ zx0 zx1 zx2 zx3 zx4 zx5 zx6 zx7 zx8 zx10 zx11 zv1 zv2 zt0 zt1 zt2 zt3 zt4 zt5 zt6 zt7 hw (lv_sub hl [2, 3, 4, 5, 6, 7, 8, 9, 10, 11, 12, 1, 0] rfl) hf
noncomputable def m9_areReels_53b (fl : Nat) (len : Nat → Nat) (X : Xm) (I : Im) (zr26 : Nat → Nat → Nat → Nat → Nat → Nat → Nat → Nat → Int32 → Int32 → Int32 → Option (Int32)) (zr53 : Nat → Nat → Nat → Nat → Nat → Nat → Nat → Nat → Int32 → Int32 → Int32 → Int32 → Int32 → Option (Int32)) (zx0 : Nat) (zx1 : Nat) (zx2 : Nat) (zx3 : Nat) (zx4 : Nat) (zx5 : Nat) (zx6 : Nat) (zx7 : Nat) (zx8 : Int32) (zx10 : Int32) (zx11 : Int32) (zx12 : Int32) (zx13 : Int32) : Option (Int32) :=
  ck (inb (6 : Int32) (len zx1) = true) <|
  if (gA I zx1 ((6 : Int32)).toNatClampNeg) ≤ zx13 then
    ck (inb (((4 : Int32) * zx10) + (1 : Int32)) (len zx3) = true) <|
    if (gA I zx3 ((((4 : Int32) * zx10) + (1 : Int32))).toNatClampNeg) ≤ 0 then
      m9_areReels_111 fl len X I zr26 zx0 zx1 zx2 zx3 zx4 zx5 zx6 zx7 zx10 zx11 zx12 zx8 (0 : Int32)
    else
      m9_areReels_111 fl len X I zr26 zx0 zx1 zx2 zx3 zx4 zx5 zx6 zx7 zx10 zx11 zx12 zx8 ((1 : Int32) <<< (zx10 &&& 31))
  else
    ck (inb zx13 (len zx6) = true) <|
    if ((gA I zx6 (zx13).toNatClampNeg) - (gA I zx6 (zx13).toNatClampNeg) / (4 : Int32) * (4 : Int32)) = zx10 then
      m9_areReels_81 fl len X I zr26 zr53 zx0 zx1 zx2 zx3 zx4 zx5 zx6 zx7 zx8 zx10 zx11 zx13 zx12 (1 : Int32)
    else
      m9_areReels_81 fl len X I zr26 zr53 zx0 zx1 zx2 zx3 zx4 zx5 zx6 zx7 zx8 zx10 zx11 zx13 zx12 (0 : Int32)
noncomputable def m9_areReels_53 (fl : Nat) (len : Nat → Nat) (X : Xm) (I : Im) (zr26 : Nat → Nat → Nat → Nat → Nat → Nat → Nat → Nat → Int32 → Int32 → Int32 → Option (Int32)) (n : Nat) : Nat → Nat → Nat → Nat → Nat → Nat → Nat → Nat → Int32 → Int32 → Int32 → Int32 → Int32 → Option (Int32) :=
  Nat.rec (fun _ _ _ _ _ _ _ _ _ _ _ _ _ => none) (fun _ r => m9_areReels_53b fl len X I zr26 r) n
set_option maxHeartbeats 4000000 in
set_option maxRecDepth 100000 in
theorem w9_areReels_53b {p : Program} {l : Launch} {e : Env} {s : State} {m : MethodId} {args : Array Value} {below : List Frame} {meth : Method} {c : Code} {E : EN} {G : GM} {X : Xm} {I : Im} (C0 : CX p s m args meth c E cL_areReels RL 15) (hr : meth.sig.returnType = (some .boolean)) (hz : s.heap.size + 0 ≤ eB E + G.1) {rr : Int32} (fl : Nat) (zr26 : Nat → Nat → Nat → Nat → Nat → Nat → Nat → Nat → Int32 → Int32 → Int32 → Option (Int32)) (zhr26 : ∀ (H : Heap) (locs : List Loc) (ls : Array Slot) (zx0 : Nat) (zx1 : Nat) (zx2 : Nat) (zx3 : Nat) (zx4 : Nat) (zx5 : Nat) (zx6 : Nat) (zx7 : Nat) (zx8 : Int32) (zx9 : Int32) (zx10 : Int32) (zt0 : okA E G 8 zx0) (zt1 : okA E G 11 zx1) (zt2 : okA E G 11 zx2) (zt3 : okA E G 11 zx3) (zt4 : okA E G 11 zx4) (zt5 : okA E G 11 zx5) (zt6 : okA E G 11 zx6) (zt7 : okA E G 11 zx7), WD E G I X s.heap H locs → lv_has ls 15 [(0, .ref zx0), (1, .ref zx1), (2, .ref zx2), (3, .ref zx3), (4, .ref zx4), (5, .ref zx5), (6, .ref zx6), (7, .ref zx7), (8, .int zx8), (9, .int zx9), (10, .int zx10)] → zr26 zx0 zx1 zx2 zx3 zx4 zx5 zx6 zx7 zx8 zx9 zx10 = some rr → W p l e ({ frames := 3, cells := 0, slots := 0, locals := 69 } : Room) s m args below meth c H locs 0 0 (MQ below (QI E G rr I X) args s 0 0 (eA E)) (F0 m 26 ls [])) (zr53 : Nat → Nat → Nat → Nat → Nat → Nat → Nat → Nat → Int32 → Int32 → Int32 → Int32 → Int32 → Option (Int32)) (zhr53 : ∀ (H : Heap) (locs : List Loc) (ls : Array Slot) (zx0 : Nat) (zx1 : Nat) (zx2 : Nat) (zx3 : Nat) (zx4 : Nat) (zx5 : Nat) (zx6 : Nat) (zx7 : Nat) (zx8 : Int32) (zx10 : Int32) (zx11 : Int32) (zx12 : Int32) (zx13 : Int32) (zt0 : okA E G 8 zx0) (zt1 : okA E G 11 zx1) (zt2 : okA E G 11 zx2) (zt3 : okA E G 11 zx3) (zt4 : okA E G 11 zx4) (zt5 : okA E G 11 zx5) (zt6 : okA E G 11 zx6) (zt7 : okA E G 11 zx7), WD E G I X s.heap H locs → lv_has ls 15 [(0, .ref zx0), (1, .ref zx1), (2, .ref zx2), (3, .ref zx3), (4, .ref zx4), (5, .ref zx5), (6, .ref zx6), (7, .ref zx7), (8, .int zx8), (10, .int zx10), (11, .int zx11), (12, .int zx12), (13, .int zx13)] → zr53 zx0 zx1 zx2 zx3 zx4 zx5 zx6 zx7 zx8 zx10 zx11 zx12 zx13 = some rr → W p l e ({ frames := 3, cells := 0, slots := 0, locals := 69 } : Room) s m args below meth c H locs 0 0 (MQ below (QI E G rr I X) args s 0 0 (eA E)) (F0 m 53 ls [])) : ∀ (H : Heap) (locs : List Loc) (ls : Array Slot) (zx0 : Nat) (zx1 : Nat) (zx2 : Nat) (zx3 : Nat) (zx4 : Nat) (zx5 : Nat) (zx6 : Nat) (zx7 : Nat) (zx8 : Int32) (zx10 : Int32) (zx11 : Int32) (zx12 : Int32) (zx13 : Int32) (zt0 : okA E G 8 zx0) (zt1 : okA E G 11 zx1) (zt2 : okA E G 11 zx2) (zt3 : okA E G 11 zx3) (zt4 : okA E G 11 zx4) (zt5 : okA E G 11 zx5) (zt6 : okA E G 11 zx6) (zt7 : okA E G 11 zx7), WD E G I X s.heap H locs → lv_has ls 15 [(0, .ref zx0), (1, .ref zx1), (2, .ref zx2), (3, .ref zx3), (4, .ref zx4), (5, .ref zx5), (6, .ref zx6), (7, .ref zx7), (8, .int zx8), (10, .int zx10), (11, .int zx11), (12, .int zx12), (13, .int zx13)] → m9_areReels_53b fl G.2.2 X I zr26 zr53 zx0 zx1 zx2 zx3 zx4 zx5 zx6 zx7 zx8 zx10 zx11 zx12 zx13 = some rr → W p l e ({ frames := 3, cells := 0, slots := 0, locals := 69 } : Room) s m args below meth c H locs 0 0 (MQ below (QI E G rr I X) args s 0 0 (eA E)) (F0 m 53 ls []) := by
  intro H locs ls zx0 zx1 zx2 zx3 zx4 zx5 zx6 zx7 zx8 zx10 zx11 zx12 zx13 zt0 zt1 zt2 zt3 zt4 zt5 zt6 zt7 hw hl hf
  unfold m9_areReels_53b at hf
  have hx := C0.1; have hb := C0.2.1; have hml := C0.2.2.1; have hown := C0.2.2.2.1; have hts := C0.2.2.2.2.1
  refine lv_iload hx hb dL_areReels_53 (lv_at hl 12 rfl) ?_
  refine lv_aload_n hx hb dL_areReels_55 rfl (lv_at hl 1 rfl) ?_
  refine lv_bipush (v := (6 : Int32)) hx hb dL_areReels_56 (by decide) ?_
  obtain ⟨zhb1, hf⟩ := ck_some hf
  refine x_iald C0 hw zt1 zhb1 dL_areReels_58 ?_
  refine lv_icmp_ge (tgt := 90) hx hb dL_areReels_59 (by decide) (fun zc2 => ?_) (fun zc2 => ?_)
  · have hf := ite_t hf zc2
    refine lv_iload hx hb dL_areReels_90 (lv_at hl 8 rfl) ?_
    refine lv_aload_n hx hb dL_areReels_92 rfl (lv_at hl 3 rfl) ?_
    refine lv_iconst (v := (4 : Int32)) hx hb dL_areReels_93 (by decide) ?_
    refine lv_iload hx hb dL_areReels_94 (lv_at hl 9 rfl) ?_
    refine lv_imul hx hb dL_areReels_96 ?_
    refine lv_iconst (v := (1 : Int32)) hx hb dL_areReels_97 (by decide) ?_
    refine lv_iadd hx hb dL_areReels_98 ?_
    obtain ⟨zhb3, hf⟩ := ck_some hf
    refine x_iald C0 hw zt3 zhb3 dL_areReels_99 ?_
    refine lv_if_le (tgt := 110) hx hb dL_areReels_100 (by decide) (fun zc4 => ?_) (fun zc4 => ?_)
    · have hf := ite_t hf zc4
      refine lv_iconst (v := (0 : Int32)) hx hb dL_areReels_110 (by decide) ?_
      exact w9_areReels_111 C0 hr hz fl zr26 zhr26 _ _ _ zx0 zx1 zx2 zx3 zx4 zx5 zx6 zx7 zx10 zx11 zx12 zx8 (0 : Int32) zt0 zt1 zt2 zt3 zt4 zt5 zt6 zt7 hw (lv_sub hl [0, 1, 2, 3, 4, 5, 6, 7, 9, 10, 11] rfl) hf
    · have hf := ite_f hf zc4
      refine lv_iconst (v := (1 : Int32)) hx hb dL_areReels_103 (by decide) ?_
      refine lv_iload hx hb dL_areReels_104 (lv_at hl 9 rfl) ?_
      refine lv_ishl hx hb dL_areReels_106 ?_
      refine lv_goto (tgt := 111) hx hb dL_areReels_107 (by decide) ?_
      exact w9_areReels_111 C0 hr hz fl zr26 zhr26 _ _ _ zx0 zx1 zx2 zx3 zx4 zx5 zx6 zx7 zx10 zx11 zx12 zx8 ((1 : Int32) <<< (zx10 &&& 31)) zt0 zt1 zt2 zt3 zt4 zt5 zt6 zt7 hw (lv_sub hl [0, 1, 2, 3, 4, 5, 6, 7, 9, 10, 11] rfl) hf
  · have hf := ite_f hf zc2
    refine lv_iload hx hb dL_areReels_62 (lv_at hl 11 rfl) ?_
    refine lv_aload hx hb dL_areReels_64 (lv_at hl 6 rfl) ?_
    refine lv_iload hx hb dL_areReels_66 (lv_at hl 12 rfl) ?_
    obtain ⟨zhb5, hf⟩ := ck_some hf
    refine x_iald C0 hw zt6 zhb5 dL_areReels_68 ?_
    refine lv_iconst (v := (4 : Int32)) hx hb dL_areReels_69 (by decide) ?_
    refine lv_irem hx hb dL_areReels_70 (by decide) ?_
    refine lv_iload hx hb dL_areReels_71 (lv_at hl 9 rfl) ?_
    refine lv_icmp_ne (tgt := 80) hx hb dL_areReels_73 (by decide) (fun zc6 => ?_) (fun zc6 => ?_)
    · have hf := ite_f hf zc6
      refine lv_iconst (v := (0 : Int32)) hx hb dL_areReels_80 (by decide) ?_
      exact w9_areReels_81 C0 hr hz fl zr26 zhr26 zr53 zhr53 _ _ _ zx0 zx1 zx2 zx3 zx4 zx5 zx6 zx7 zx8 zx10 zx11 zx13 zx12 (0 : Int32) zt0 zt1 zt2 zt3 zt4 zt5 zt6 zt7 hw (lv_sub hl [0, 1, 2, 3, 4, 5, 6, 7, 8, 9, 10, 12] rfl) hf
    · have hf := ite_t hf zc6
      refine lv_iconst (v := (1 : Int32)) hx hb dL_areReels_76 (by decide) ?_
      refine lv_goto (tgt := 81) hx hb dL_areReels_77 (by decide) ?_
      exact w9_areReels_81 C0 hr hz fl zr26 zhr26 zr53 zhr53 _ _ _ zx0 zx1 zx2 zx3 zx4 zx5 zx6 zx7 zx8 zx10 zx11 zx13 zx12 (1 : Int32) zt0 zt1 zt2 zt3 zt4 zt5 zt6 zt7 hw (lv_sub hl [0, 1, 2, 3, 4, 5, 6, 7, 8, 9, 10, 12] rfl) hf
theorem w9_areReels_53 {p : Program} {l : Launch} {e : Env} {s : State} {m : MethodId} {args : Array Value} {below : List Frame} {meth : Method} {c : Code} {E : EN} {G : GM} {X : Xm} {I : Im} (C0 : CX p s m args meth c E cL_areReels RL 15) (hr : meth.sig.returnType = (some .boolean)) (hz : s.heap.size + 0 ≤ eB E + G.1) {rr : Int32} (fl : Nat) (zr26 : Nat → Nat → Nat → Nat → Nat → Nat → Nat → Nat → Int32 → Int32 → Int32 → Option (Int32)) (zhr26 : ∀ (H : Heap) (locs : List Loc) (ls : Array Slot) (zx0 : Nat) (zx1 : Nat) (zx2 : Nat) (zx3 : Nat) (zx4 : Nat) (zx5 : Nat) (zx6 : Nat) (zx7 : Nat) (zx8 : Int32) (zx9 : Int32) (zx10 : Int32) (zt0 : okA E G 8 zx0) (zt1 : okA E G 11 zx1) (zt2 : okA E G 11 zx2) (zt3 : okA E G 11 zx3) (zt4 : okA E G 11 zx4) (zt5 : okA E G 11 zx5) (zt6 : okA E G 11 zx6) (zt7 : okA E G 11 zx7), WD E G I X s.heap H locs → lv_has ls 15 [(0, .ref zx0), (1, .ref zx1), (2, .ref zx2), (3, .ref zx3), (4, .ref zx4), (5, .ref zx5), (6, .ref zx6), (7, .ref zx7), (8, .int zx8), (9, .int zx9), (10, .int zx10)] → zr26 zx0 zx1 zx2 zx3 zx4 zx5 zx6 zx7 zx8 zx9 zx10 = some rr → W p l e ({ frames := 3, cells := 0, slots := 0, locals := 69 } : Room) s m args below meth c H locs 0 0 (MQ below (QI E G rr I X) args s 0 0 (eA E)) (F0 m 26 ls [])) : ∀ (n : Nat) (H : Heap) (locs : List Loc) (ls : Array Slot) (zx0 : Nat) (zx1 : Nat) (zx2 : Nat) (zx3 : Nat) (zx4 : Nat) (zx5 : Nat) (zx6 : Nat) (zx7 : Nat) (zx8 : Int32) (zx10 : Int32) (zx11 : Int32) (zx12 : Int32) (zx13 : Int32) (zt0 : okA E G 8 zx0) (zt1 : okA E G 11 zx1) (zt2 : okA E G 11 zx2) (zt3 : okA E G 11 zx3) (zt4 : okA E G 11 zx4) (zt5 : okA E G 11 zx5) (zt6 : okA E G 11 zx6) (zt7 : okA E G 11 zx7), WD E G I X s.heap H locs → lv_has ls 15 [(0, .ref zx0), (1, .ref zx1), (2, .ref zx2), (3, .ref zx3), (4, .ref zx4), (5, .ref zx5), (6, .ref zx6), (7, .ref zx7), (8, .int zx8), (10, .int zx10), (11, .int zx11), (12, .int zx12), (13, .int zx13)] → m9_areReels_53 fl G.2.2 X I zr26 n zx0 zx1 zx2 zx3 zx4 zx5 zx6 zx7 zx8 zx10 zx11 zx12 zx13 = some rr → W p l e ({ frames := 3, cells := 0, slots := 0, locals := 69 } : Room) s m args below meth c H locs 0 0 (MQ below (QI E G rr I X) args s 0 0 (eA E)) (F0 m 53 ls []) := by
  intro n
  induction n with
  | zero => intro H locs ls zx0 zx1 zx2 zx3 zx4 zx5 zx6 zx7 zx8 zx10 zx11 zx12 zx13 zt0 zt1 zt2 zt3 zt4 zt5 zt6 zt7 hw hl hf; exact absurd (show (none : Option (Int32)) = some rr from hf) (by simp)
  | succ n ih => intro H locs ls zx0 zx1 zx2 zx3 zx4 zx5 zx6 zx7 zx8 zx10 zx11 zx12 zx13 zt0 zt1 zt2 zt3 zt4 zt5 zt6 zt7 hw hl hf; exact w9_areReels_53b C0 hr hz fl zr26 zhr26 _ ih H locs ls zx0 zx1 zx2 zx3 zx4 zx5 zx6 zx7 zx8 zx10 zx11 zx12 zx13 zt0 zt1 zt2 zt3 zt4 zt5 zt6 zt7 hw hl hf
noncomputable def m9_areReels_26b (fl : Nat) (len : Nat → Nat) (X : Xm) (I : Im) (zr26 : Nat → Nat → Nat → Nat → Nat → Nat → Nat → Nat → Int32 → Int32 → Int32 → Option (Int32)) (zx0 : Nat) (zx1 : Nat) (zx2 : Nat) (zx3 : Nat) (zx4 : Nat) (zx5 : Nat) (zx6 : Nat) (zx7 : Nat) (zx8 : Int32) (zx9 : Int32) (zx10 : Int32) : Option (Int32) :=
  if (4 : Int32) ≤ zx10 then
    m9_areReels_424 fl len X I zx0 zx1 zx4 zx7 zx8 zx9
  else
    if zx9 = 0 then
      m9_areReels_424 fl len X I zx0 zx1 zx4 zx7 zx8 zx9
    else
      ck (inb (((4 : Int32) * zx10) + (3 : Int32)) (len zx3) = true) <|
      lt ((gA I zx3 ((((4 : Int32) * zx10) + (3 : Int32))).toNatClampNeg)) fun zv4 =>
      m9_areReels_53 fl len X I zr26 fl zx0 zx1 zx2 zx3 zx4 zx5 zx6 zx7 zx8 zx10 zv4 (0 : Int32) (0 : Int32)
noncomputable def m9_areReels_26 (fl : Nat) (len : Nat → Nat) (X : Xm) (I : Im) (n : Nat) : Nat → Nat → Nat → Nat → Nat → Nat → Nat → Nat → Int32 → Int32 → Int32 → Option (Int32) :=
  Nat.rec (fun _ _ _ _ _ _ _ _ _ _ _ => none) (fun _ r => m9_areReels_26b fl len X I r) n
set_option maxHeartbeats 4000000 in
set_option maxRecDepth 100000 in
theorem w9_areReels_26b {p : Program} {l : Launch} {e : Env} {s : State} {m : MethodId} {args : Array Value} {below : List Frame} {meth : Method} {c : Code} {E : EN} {G : GM} {X : Xm} {I : Im} (C0 : CX p s m args meth c E cL_areReels RL 15) (hr : meth.sig.returnType = (some .boolean)) (hz : s.heap.size + 0 ≤ eB E + G.1) {rr : Int32} (fl : Nat) (zr26 : Nat → Nat → Nat → Nat → Nat → Nat → Nat → Nat → Int32 → Int32 → Int32 → Option (Int32)) (zhr26 : ∀ (H : Heap) (locs : List Loc) (ls : Array Slot) (zx0 : Nat) (zx1 : Nat) (zx2 : Nat) (zx3 : Nat) (zx4 : Nat) (zx5 : Nat) (zx6 : Nat) (zx7 : Nat) (zx8 : Int32) (zx9 : Int32) (zx10 : Int32) (zt0 : okA E G 8 zx0) (zt1 : okA E G 11 zx1) (zt2 : okA E G 11 zx2) (zt3 : okA E G 11 zx3) (zt4 : okA E G 11 zx4) (zt5 : okA E G 11 zx5) (zt6 : okA E G 11 zx6) (zt7 : okA E G 11 zx7), WD E G I X s.heap H locs → lv_has ls 15 [(0, .ref zx0), (1, .ref zx1), (2, .ref zx2), (3, .ref zx3), (4, .ref zx4), (5, .ref zx5), (6, .ref zx6), (7, .ref zx7), (8, .int zx8), (9, .int zx9), (10, .int zx10)] → zr26 zx0 zx1 zx2 zx3 zx4 zx5 zx6 zx7 zx8 zx9 zx10 = some rr → W p l e ({ frames := 3, cells := 0, slots := 0, locals := 69 } : Room) s m args below meth c H locs 0 0 (MQ below (QI E G rr I X) args s 0 0 (eA E)) (F0 m 26 ls [])) : ∀ (H : Heap) (locs : List Loc) (ls : Array Slot) (zx0 : Nat) (zx1 : Nat) (zx2 : Nat) (zx3 : Nat) (zx4 : Nat) (zx5 : Nat) (zx6 : Nat) (zx7 : Nat) (zx8 : Int32) (zx9 : Int32) (zx10 : Int32) (zt0 : okA E G 8 zx0) (zt1 : okA E G 11 zx1) (zt2 : okA E G 11 zx2) (zt3 : okA E G 11 zx3) (zt4 : okA E G 11 zx4) (zt5 : okA E G 11 zx5) (zt6 : okA E G 11 zx6) (zt7 : okA E G 11 zx7), WD E G I X s.heap H locs → lv_has ls 15 [(0, .ref zx0), (1, .ref zx1), (2, .ref zx2), (3, .ref zx3), (4, .ref zx4), (5, .ref zx5), (6, .ref zx6), (7, .ref zx7), (8, .int zx8), (9, .int zx9), (10, .int zx10)] → m9_areReels_26b fl G.2.2 X I zr26 zx0 zx1 zx2 zx3 zx4 zx5 zx6 zx7 zx8 zx9 zx10 = some rr → W p l e ({ frames := 3, cells := 0, slots := 0, locals := 69 } : Room) s m args below meth c H locs 0 0 (MQ below (QI E G rr I X) args s 0 0 (eA E)) (F0 m 26 ls []) := by
  intro H locs ls zx0 zx1 zx2 zx3 zx4 zx5 zx6 zx7 zx8 zx9 zx10 zt0 zt1 zt2 zt3 zt4 zt5 zt6 zt7 hw hl hf
  unfold m9_areReels_26b at hf
  have hx := C0.1; have hb := C0.2.1; have hml := C0.2.2.1; have hown := C0.2.2.2.1; have hts := C0.2.2.2.2.1
  refine lv_iload hx hb dL_areReels_26 (lv_at hl 10 rfl) ?_
  refine lv_iconst (v := (4 : Int32)) hx hb dL_areReels_28 (by decide) ?_
  refine lv_icmp_ge (tgt := 424) hx hb dL_areReels_29 (by decide) (fun zc1 => ?_) (fun zc1 => ?_)
  · have hf := ite_t hf zc1
    exact w9_areReels_424 C0 hr hz fl _ _ _ zx0 zx1 zx4 zx7 zx8 zx9 zt0 zt1 zt4 zt7 hw (lv_sub hl [0, 1, 4, 7, 8, 9] rfl) hf
  · have hf := ite_f hf zc1
    refine lv_iload hx hb dL_areReels_32 (lv_at hl 9 rfl) ?_
    refine lv_if_eq (tgt := 424) hx hb dL_areReels_34 (by decide) (fun zc2 => ?_) (fun zc2 => ?_)
    · have hf := ite_t hf zc2
      exact w9_areReels_424 C0 hr hz fl _ _ _ zx0 zx1 zx4 zx7 zx8 zx9 zt0 zt1 zt4 zt7 hw (lv_sub hl [0, 1, 4, 7, 8, 9] rfl) hf
    · have hf := ite_f hf zc2
      refine lv_aload_n hx hb dL_areReels_37 rfl (lv_at hl 3 rfl) ?_
      refine lv_iconst (v := (4 : Int32)) hx hb dL_areReels_38 (by decide) ?_
      refine lv_iload hx hb dL_areReels_39 (lv_at hl 10 rfl) ?_
      refine lv_imul hx hb dL_areReels_41 ?_
      refine lv_iconst (v := (3 : Int32)) hx hb dL_areReels_42 (by decide) ?_
      refine lv_iadd hx hb dL_areReels_43 ?_
      obtain ⟨zhb3, hf⟩ := ck_some hf
      refine x_iald C0 hw zt3 zhb3 dL_areReels_44 ?_
      refine lv_topi (fun zv4 ezv4 => ?_)
      have hf := lt_at hf ezv4
      refine lv_istore (lv' := [(11, .int zv4), (0, .ref zx0), (1, .ref zx1), (2, .ref zx2), (3, .ref zx3), (4, .ref zx4), (5, .ref zx5), (6, .ref zx6), (7, .ref zx7), (8, .int zx8), (9, .int zx9), (10, .int zx10)]) hx hb dL_areReels_45 hl (by decide) rfl (fun ls hl => ?_)
      refine lv_iconst (v := (0 : Int32)) hx hb dL_areReels_47 (by decide) ?_
      refine lv_istore (lv' := [(12, .int (0 : Int32)), (11, .int zv4), (0, .ref zx0), (1, .ref zx1), (2, .ref zx2), (3, .ref zx3), (4, .ref zx4), (5, .ref zx5), (6, .ref zx6), (7, .ref zx7), (8, .int zx8), (9, .int zx9), (10, .int zx10)]) hx hb dL_areReels_48 hl (by decide) rfl (fun ls hl => ?_)
      refine lv_iconst (v := (0 : Int32)) hx hb dL_areReels_50 (by decide) ?_
      refine lv_istore (lv' := [(13, .int (0 : Int32)), (12, .int (0 : Int32)), (11, .int zv4), (0, .ref zx0), (1, .ref zx1), (2, .ref zx2), (3, .ref zx3), (4, .ref zx4), (5, .ref zx5), (6, .ref zx6), (7, .ref zx7), (8, .int zx8), (9, .int zx9), (10, .int zx10)]) hx hb dL_areReels_51 hl (by decide) rfl (fun ls hl => ?_)
      exact w9_areReels_53 C0 hr hz fl zr26 zhr26 fl _ _ _ zx0 zx1 zx2 zx3 zx4 zx5 zx6 zx7 zx8 zx10 zv4 (0 : Int32) (0 : Int32) zt0 zt1 zt2 zt3 zt4 zt5 zt6 zt7 hw (lv_sub hl [3, 4, 5, 6, 7, 8, 9, 10, 11, 13, 2, 1, 0] rfl) hf
theorem w9_areReels_26 {p : Program} {l : Launch} {e : Env} {s : State} {m : MethodId} {args : Array Value} {below : List Frame} {meth : Method} {c : Code} {E : EN} {G : GM} {X : Xm} {I : Im} (C0 : CX p s m args meth c E cL_areReels RL 15) (hr : meth.sig.returnType = (some .boolean)) (hz : s.heap.size + 0 ≤ eB E + G.1) {rr : Int32} (fl : Nat) : ∀ (n : Nat) (H : Heap) (locs : List Loc) (ls : Array Slot) (zx0 : Nat) (zx1 : Nat) (zx2 : Nat) (zx3 : Nat) (zx4 : Nat) (zx5 : Nat) (zx6 : Nat) (zx7 : Nat) (zx8 : Int32) (zx9 : Int32) (zx10 : Int32) (zt0 : okA E G 8 zx0) (zt1 : okA E G 11 zx1) (zt2 : okA E G 11 zx2) (zt3 : okA E G 11 zx3) (zt4 : okA E G 11 zx4) (zt5 : okA E G 11 zx5) (zt6 : okA E G 11 zx6) (zt7 : okA E G 11 zx7), WD E G I X s.heap H locs → lv_has ls 15 [(0, .ref zx0), (1, .ref zx1), (2, .ref zx2), (3, .ref zx3), (4, .ref zx4), (5, .ref zx5), (6, .ref zx6), (7, .ref zx7), (8, .int zx8), (9, .int zx9), (10, .int zx10)] → m9_areReels_26 fl G.2.2 X I n zx0 zx1 zx2 zx3 zx4 zx5 zx6 zx7 zx8 zx9 zx10 = some rr → W p l e ({ frames := 3, cells := 0, slots := 0, locals := 69 } : Room) s m args below meth c H locs 0 0 (MQ below (QI E G rr I X) args s 0 0 (eA E)) (F0 m 26 ls []) := by
  intro n
  induction n with
  | zero => intro H locs ls zx0 zx1 zx2 zx3 zx4 zx5 zx6 zx7 zx8 zx9 zx10 zt0 zt1 zt2 zt3 zt4 zt5 zt6 zt7 hw hl hf; exact absurd (show (none : Option (Int32)) = some rr from hf) (by simp)
  | succ n ih => intro H locs ls zx0 zx1 zx2 zx3 zx4 zx5 zx6 zx7 zx8 zx9 zx10 zt0 zt1 zt2 zt3 zt4 zt5 zt6 zt7 hw hl hf; exact w9_areReels_26b C0 hr hz fl _ ih H locs ls zx0 zx1 zx2 zx3 zx4 zx5 zx6 zx7 zx8 zx9 zx10 zt0 zt1 zt2 zt3 zt4 zt5 zt6 zt7 hw hl hf
noncomputable def m9_areReels_21 (fl : Nat) (len : Nat → Nat) (X : Xm) (I : Im) (zx0 : Nat) (zx1 : Nat) (zx2 : Nat) (zx3 : Nat) (zx4 : Nat) (zx5 : Nat) (zx6 : Nat) (zx7 : Nat) (zx8 : Int32) (zs0 : Int32) : Option (Int32) :=
  m9_areReels_26 fl len X I fl zx0 zx1 zx2 zx3 zx4 zx5 zx6 zx7 zx8 zs0 (0 : Int32)
set_option maxHeartbeats 4000000 in
set_option maxRecDepth 100000 in
theorem w9_areReels_21 {p : Program} {l : Launch} {e : Env} {s : State} {m : MethodId} {args : Array Value} {below : List Frame} {meth : Method} {c : Code} {E : EN} {G : GM} {X : Xm} {I : Im} (C0 : CX p s m args meth c E cL_areReels RL 15) (hr : meth.sig.returnType = (some .boolean)) (hz : s.heap.size + 0 ≤ eB E + G.1) {rr : Int32} (fl : Nat) : ∀ (H : Heap) (locs : List Loc) (ls : Array Slot) (zx0 : Nat) (zx1 : Nat) (zx2 : Nat) (zx3 : Nat) (zx4 : Nat) (zx5 : Nat) (zx6 : Nat) (zx7 : Nat) (zx8 : Int32) (zs0 : Int32) (zt0 : okA E G 8 zx0) (zt1 : okA E G 11 zx1) (zt2 : okA E G 11 zx2) (zt3 : okA E G 11 zx3) (zt4 : okA E G 11 zx4) (zt5 : okA E G 11 zx5) (zt6 : okA E G 11 zx6) (zt7 : okA E G 11 zx7), WD E G I X s.heap H locs → lv_has ls 15 [(0, .ref zx0), (1, .ref zx1), (2, .ref zx2), (3, .ref zx3), (4, .ref zx4), (5, .ref zx5), (6, .ref zx6), (7, .ref zx7), (8, .int zx8)] → m9_areReels_21 fl G.2.2 X I zx0 zx1 zx2 zx3 zx4 zx5 zx6 zx7 zx8 zs0 = some rr → W p l e ({ frames := 3, cells := 0, slots := 0, locals := 69 } : Room) s m args below meth c H locs 0 0 (MQ below (QI E G rr I X) args s 0 0 (eA E)) (F0 m 21 ls [.int zs0]) := by
  intro H locs ls zx0 zx1 zx2 zx3 zx4 zx5 zx6 zx7 zx8 zs0 zt0 zt1 zt2 zt3 zt4 zt5 zt6 zt7 hw hl hf
  unfold m9_areReels_21 at hf
  have hx := C0.1; have hb := C0.2.1; have hml := C0.2.2.1; have hown := C0.2.2.2.1; have hts := C0.2.2.2.2.1
  refine lv_istore (lv' := [(9, .int zs0), (0, .ref zx0), (1, .ref zx1), (2, .ref zx2), (3, .ref zx3), (4, .ref zx4), (5, .ref zx5), (6, .ref zx6), (7, .ref zx7), (8, .int zx8)]) hx hb dL_areReels_21 hl (by decide) rfl (fun ls hl => ?_)
  refine lv_iconst (v := (0 : Int32)) hx hb dL_areReels_23 (by decide) ?_
  refine lv_istore (lv' := [(10, .int (0 : Int32)), (9, .int zs0), (0, .ref zx0), (1, .ref zx1), (2, .ref zx2), (3, .ref zx3), (4, .ref zx4), (5, .ref zx5), (6, .ref zx6), (7, .ref zx7), (8, .int zx8)]) hx hb dL_areReels_24 hl (by decide) rfl (fun ls hl => ?_)
  exact w9_areReels_26 C0 hr hz fl fl _ _ _ zx0 zx1 zx2 zx3 zx4 zx5 zx6 zx7 zx8 zs0 (0 : Int32) zt0 zt1 zt2 zt3 zt4 zt5 zt6 zt7 hw (lv_sub hl [2, 3, 4, 5, 6, 7, 8, 9, 10, 1, 0] rfl) hf
noncomputable def m9_areReels (fl : Nat) (len : Nat → Nat) (X : Xm) (I : Im) (zx0 : Nat) (zx1 : Nat) (zx2 : Nat) (zx3 : Nat) (zx4 : Nat) (zx5 : Nat) (zx6 : Nat) (zx7 : Nat) : Option (Int32) :=
  ck (inb (7 : Int32) (len zx1) = true) <|
  nn (m8_played fl len X I zx0 (gA I zx1 ((7 : Int32)).toNatClampNeg) (0 : Int32)) fun zv2 =>
  if zv2 = (-1 : Int32) then
    m9_areReels_21 fl len X I zx0 zx1 zx2 zx3 zx4 zx5 zx6 zx7 (0 : Int32) (1 : Int32)
  else
    m9_areReels_21 fl len X I zx0 zx1 zx2 zx3 zx4 zx5 zx6 zx7 (0 : Int32) (0 : Int32)
theorem hy9_areReels : yL_areReels.cls = RL ∧ yL_areReels.cls ≠ "java/lang/invoke/MethodHandle" ∧ yL_areReels.cls ≠ "java/lang/invoke/VarHandle" ∧ (parseMethodDescriptor yL_areReels.desc).map (fun d => d.parameters.length) = some 8 := ⟨rfl, by decide +kernel, by decide +kernel, by decide +kernel⟩
set_option maxHeartbeats 4000000 in
set_option maxRecDepth 100000 in
theorem c9_areReels (l : Launch) (E : EN) (G : GM) (fl : Nat) (X : Xm) (I : Im) (zx0 : Nat) (zx1 : Nat) (zx2 : Nat) (zx3 : Nat) (zx4 : Nat) (zx5 : Nat) (zx6 : Nat) (zx7 : Nat) (zt0 : okA E G 8 zx0) (zt1 : okA E G 11 zx1) (zt2 : okA E G 11 zx2) (zt3 : okA E G 11 zx3) (zt4 : okA E G 11 zx4) (zt5 : okA E G 11 zx5) (zt6 : okA E G 11 zx6) (zt7 : okA E G 11 zx7) {rr : Int32} (hf : m9_areReels fl G.2.2 X I zx0 zx1 zx2 zx3 zx4 zx5 zx6 zx7 = some rr) : MT l yL_areReels cL_areReels 15 (some .boolean) ({ frames := 3, cells := 0, slots := 0, locals := 69 } : Room) E G I X [.ref zx0, .ref zx1, .ref zx2, .ref zx3, .ref zx4, .ref zx5, .ref zx6, .ref zx7] (QI E G rr I X) 0 0 := by
  refine Met.ofW (cc := cL_areReels) (maxL := 15) (ret := (some .boolean)) (by decide +kernel) rfl ?_
  intro p e s m args below meth c s₁ B hml hv
  obtain ⟨rfl, hw0, hSE⟩ := hv
  have C0 : CX p s m ([.ref zx0, .ref zx1, .ref zx2, .ref zx3, .ref zx4, .ref zx5, .ref zx6, .ref zx7] : List Value).toArray meth c E cL_areReels RL 15 := ⟨B.exec, B.bytes, hml, findClass_of_methodNamed B.named, fun w hw => atoms_spec (ws := WS yL_areReels cL_areReels 15 (some .boolean)) B.pre w (List.mem_cons_of_mem _ hw), B.notSynchronized, hSE⟩
  have hz : s.heap.size + 0 ≤ eB E + G.1 := Nat.le_of_eq hw0.2.1
  have hw : WD E G I X s.heap s.heap [] := ⟨hw0, va_S.rf⟩
  have hr := B.returns
  have hx := C0.1; have hb := C0.2.1; have hml := C0.2.2.1; have hown := C0.2.2.2.1; have hts := C0.2.2.2.2.1
  have hl := lv_entry ([.ref zx0, .ref zx1, .ref zx2, .ref zx3, .ref zx4, .ref zx5, .ref zx6, .ref zx7]) (n := 15) (Nat.le_of_ble_eq_true rfl)
  rw [lg_entry_eq]
  generalize (lg_sl ([.ref zx0, .ref zx1, .ref zx2, .ref zx3, .ref zx4, .ref zx5, .ref zx6, .ref zx7]) ++ List.replicate (15 - (lg_sl ([.ref zx0, .ref zx1, .ref zx2, .ref zx3, .ref zx4, .ref zx5, .ref zx6, .ref zx7])).length) Slot.unset).toArray = ls at hl ⊢
  have hl : lv_has ls 15 [(0, .ref zx0), (1, .ref zx1), (2, .ref zx2), (3, .ref zx3), (4, .ref zx4), (5, .ref zx5), (6, .ref zx6), (7, .ref zx7)] := hl
  unfold m9_areReels at hf
  refine lv_iconst (v := (0 : Int32)) hx hb dL_areReels_0 (by decide) ?_
  refine lv_istore (lv' := [(8, .int (0 : Int32)), (0, .ref zx0), (1, .ref zx1), (2, .ref zx2), (3, .ref zx3), (4, .ref zx4), (5, .ref zx5), (6, .ref zx6), (7, .ref zx7)]) hx hb dL_areReels_1 hl (by decide) rfl (fun ls hl => ?_)
  refine lv_aload_n hx hb dL_areReels_3 rfl (lv_at hl 1 rfl) ?_
  refine lv_aload_n hx hb dL_areReels_4 rfl (lv_at hl 2 rfl) ?_
  refine lv_bipush (v := (7 : Int32)) hx hb dL_areReels_5 (by decide) ?_
  obtain ⟨zhb1, hf⟩ := ck_some hf
  refine x_iald C0 hw zt1 zhb1 dL_areReels_7 ?_
  refine lv_iconst (v := (0 : Int32)) hx hb dL_areReels_8 (by decide) ?_
  obtain ⟨zv2, ze3, hf⟩ := nn_some hf
  refine x_ci (r := zv2) (I1 := I) (X1 := X) (x_runV (As := [.int (gA I zx1 ((7 : Int32)).toNatClampNeg), .int (0 : Int32)]) (rest := []) C0 (c8_played l E G fl X I zx0 (gA I zx1 ((7 : Int32)).toNatClampNeg) (0 : Int32) zt0 ze3) hw 8 zt0 (by decide) rfl wd71 wd438 wd439 wd440 wd107 ⟨rfl, rfl⟩ hy8_played ⟨Nat.le_of_ble_eq_true rfl, Nat.le_of_ble_eq_true rfl⟩ rfl hl.1 (Nat.le_of_ble_eq_true rfl) ⟨Nat.zero_le _, Nat.zero_le _⟩ dL_areReels_9) hw (fun H locs hw => ?_)
  refine lv_iconst (v := (-1 : Int32)) hx hb dL_areReels_12 (by decide) ?_
  refine lv_icmp_ne (tgt := 20) hx hb dL_areReels_13 (by decide) (fun zc4 => ?_) (fun zc4 => ?_)
  · have hf := ite_f hf zc4
    refine lv_iconst (v := (0 : Int32)) hx hb dL_areReels_20 (by decide) ?_
    exact w9_areReels_21 C0 hr hz fl _ _ _ zx0 zx1 zx2 zx3 zx4 zx5 zx6 zx7 (0 : Int32) (0 : Int32) zt0 zt1 zt2 zt3 zt4 zt5 zt6 zt7 hw (lv_sub hl [1, 2, 3, 4, 5, 6, 7, 8, 0] rfl) hf
  · have hf := ite_t hf zc4
    refine lv_iconst (v := (1 : Int32)) hx hb dL_areReels_16 (by decide) ?_
    refine lv_goto (tgt := 21) hx hb dL_areReels_17 (by decide) ?_
    exact w9_areReels_21 C0 hr hz fl _ _ _ zx0 zx1 zx2 zx3 zx4 zx5 zx6 zx7 (0 : Int32) (1 : Int32) zt0 zt1 zt2 zt3 zt4 zt5 zt6 zt7 hw (lv_sub hl [1, 2, 3, 4, 5, 6, 7, 8, 0] rfl) hf
noncomputable def m9_isHeard_184 (fl : Nat) (len : Nat → Nat) (X : Xm) (I : Im) (zs0 : Int32) : Option (Int32) :=
  ck (isbl zs0 = true) <|
  some (zs0)
set_option maxHeartbeats 4000000 in
set_option maxRecDepth 100000 in
theorem w9_isHeard_184 {p : Program} {l : Launch} {e : Env} {s : State} {m : MethodId} {args : Array Value} {below : List Frame} {meth : Method} {c : Code} {E : EN} {G : GM} {X : Xm} {I : Im} (C0 : CX p s m args meth c E cL_isHeard RL 7) (hr : meth.sig.returnType = (some .boolean)) (hz : s.heap.size + 0 ≤ eB E + G.1) {rr : Int32} (fl : Nat) : ∀ (H : Heap) (locs : List Loc) (ls : Array Slot) (zs0 : Int32) , WD E G I X s.heap H locs → lv_has ls 7 [] → m9_isHeard_184 fl G.2.2 X I zs0 = some rr → W p l e ({ frames := 2, cells := 0, slots := 0, locals := 44 } : Room) s m args below meth c H locs 0 0 (MQ below (QI E G rr I X) args s 0 0 (eA E)) (F0 m 184 ls [.int zs0]) := by
  intro H locs ls zs0 hw hl hf
  unfold m9_isHeard_184 at hf
  have hx := C0.1; have hb := C0.2.1; have hml := C0.2.2.1; have hown := C0.2.2.2.1; have hts := C0.2.2.2.2.1
  obtain ⟨zhn1, hf⟩ := ck_some hf
  obtain rfl := Option.some.inj hf
  exact x_zret C0 hr (isbl_nar zhn1) hw dL_isHeard_184
noncomputable def m9_isHeard_183 (fl : Nat) (len : Nat → Nat) (X : Xm) (I : Im) : Option (Int32) :=
  m9_isHeard_184 fl len X I (0 : Int32)
set_option maxHeartbeats 4000000 in
set_option maxRecDepth 100000 in
theorem w9_isHeard_183 {p : Program} {l : Launch} {e : Env} {s : State} {m : MethodId} {args : Array Value} {below : List Frame} {meth : Method} {c : Code} {E : EN} {G : GM} {X : Xm} {I : Im} (C0 : CX p s m args meth c E cL_isHeard RL 7) (hr : meth.sig.returnType = (some .boolean)) (hz : s.heap.size + 0 ≤ eB E + G.1) {rr : Int32} (fl : Nat) : ∀ (H : Heap) (locs : List Loc) (ls : Array Slot) , WD E G I X s.heap H locs → lv_has ls 7 [] → m9_isHeard_183 fl G.2.2 X I = some rr → W p l e ({ frames := 2, cells := 0, slots := 0, locals := 44 } : Room) s m args below meth c H locs 0 0 (MQ below (QI E G rr I X) args s 0 0 (eA E)) (F0 m 183 ls []) := by
  intro H locs ls hw hl hf
  unfold m9_isHeard_183 at hf
  have hx := C0.1; have hb := C0.2.1; have hml := C0.2.2.1; have hown := C0.2.2.2.1; have hts := C0.2.2.2.2.1
  refine lv_iconst (v := (0 : Int32)) hx hb dL_isHeard_183 (by decide) ?_
  exact w9_isHeard_184 C0 hr hz fl _ _ _ (0 : Int32) hw (lv_sub hl [] rfl) hf
noncomputable def m9_isHeard_153 (fl : Nat) (len : Nat → Nat) (X : Xm) (I : Im) (zx0 : Nat) (zx3 : Int32) (zx4 : Int32) (zx5 : Int32) : Option (Int32) :=
  if zx5 = 0 then
    m9_isHeard_183 fl len X I 
  else
    nn (m8_count fl len X I zx0 (6 : Int32)) fun zv2 =>
    if zv2 = zx3 then
      nn (m8_count fl len X I zx0 (7 : Int32)) fun zv5 =>
      if zv5 = zx4 then
        m9_isHeard_184 fl len X I (1 : Int32)
      else
        m9_isHeard_183 fl len X I 
    else
      m9_isHeard_183 fl len X I 
set_option maxHeartbeats 4000000 in
set_option maxRecDepth 100000 in
theorem w9_isHeard_153 {p : Program} {l : Launch} {e : Env} {s : State} {m : MethodId} {args : Array Value} {below : List Frame} {meth : Method} {c : Code} {E : EN} {G : GM} {X : Xm} {I : Im} (C0 : CX p s m args meth c E cL_isHeard RL 7) (hr : meth.sig.returnType = (some .boolean)) (hz : s.heap.size + 0 ≤ eB E + G.1) {rr : Int32} (fl : Nat) : ∀ (H : Heap) (locs : List Loc) (ls : Array Slot) (zx0 : Nat) (zx3 : Int32) (zx4 : Int32) (zx5 : Int32) (zt0 : okA E G 8 zx0), WD E G I X s.heap H locs → lv_has ls 7 [(0, .ref zx0), (3, .int zx3), (4, .int zx4), (5, .int zx5)] → m9_isHeard_153 fl G.2.2 X I zx0 zx3 zx4 zx5 = some rr → W p l e ({ frames := 2, cells := 0, slots := 0, locals := 44 } : Room) s m args below meth c H locs 0 0 (MQ below (QI E G rr I X) args s 0 0 (eA E)) (F0 m 153 ls []) := by
  intro H locs ls zx0 zx3 zx4 zx5 zt0 hw hl hf
  unfold m9_isHeard_153 at hf
  have hx := C0.1; have hb := C0.2.1; have hml := C0.2.2.1; have hown := C0.2.2.2.1; have hts := C0.2.2.2.2.1
  refine lv_iload hx hb dL_isHeard_153 (lv_at hl 3 rfl) ?_
  refine lv_if_eq (tgt := 183) hx hb dL_isHeard_155 (by decide) (fun zc1 => ?_) (fun zc1 => ?_)
  · have hf := ite_t hf zc1
    exact w9_isHeard_183 C0 hr hz fl _ _ _ hw (lv_sub hl [] rfl) hf
  · have hf := ite_f hf zc1
    refine lv_aload_n hx hb dL_isHeard_158 rfl (lv_at hl 0 rfl) ?_
    refine lv_bipush (v := (6 : Int32)) hx hb dL_isHeard_159 (by decide) ?_
    obtain ⟨zv2, ze3, hf⟩ := nn_some hf
    refine x_ci (r := zv2) (I1 := I) (X1 := X) (x_runV (As := [.int (6 : Int32)]) (rest := []) C0 (c8_count l E G fl X I zx0 (6 : Int32) zt0 ze3) hw 8 zt0 (by decide) rfl wd74 wd435 wd436 wd437 wd107 ⟨rfl, rfl⟩ hy8_count ⟨Nat.le_of_ble_eq_true rfl, Nat.le_of_ble_eq_true rfl⟩ rfl hl.1 (Nat.le_of_ble_eq_true rfl) ⟨Nat.zero_le _, Nat.zero_le _⟩ dL_isHeard_161) hw (fun H locs hw => ?_)
    refine lv_iload_n hx hb dL_isHeard_164 rfl (lv_at hl 1 rfl) ?_
    refine lv_icmp_ne (tgt := 183) hx hb dL_isHeard_165 (by decide) (fun zc4 => ?_) (fun zc4 => ?_)
    · have hf := ite_f hf zc4
      exact w9_isHeard_183 C0 hr hz fl _ _ _ hw (lv_sub hl [] rfl) hf
    · have hf := ite_t hf zc4
      refine lv_aload_n hx hb dL_isHeard_168 rfl (lv_at hl 0 rfl) ?_
      refine lv_bipush (v := (7 : Int32)) hx hb dL_isHeard_169 (by decide) ?_
      obtain ⟨zv5, ze6, hf⟩ := nn_some hf
      refine x_ci (r := zv5) (I1 := I) (X1 := X) (x_runV (As := [.int (7 : Int32)]) (rest := []) C0 (c8_count l E G fl X I zx0 (7 : Int32) zt0 ze6) hw 8 zt0 (by decide) rfl wd74 wd435 wd436 wd437 wd107 ⟨rfl, rfl⟩ hy8_count ⟨Nat.le_of_ble_eq_true rfl, Nat.le_of_ble_eq_true rfl⟩ rfl hl.1 (Nat.le_of_ble_eq_true rfl) ⟨Nat.zero_le _, Nat.zero_le _⟩ dL_isHeard_171) hw (fun H locs hw => ?_)
      refine lv_iload hx hb dL_isHeard_174 (lv_at hl 2 rfl) ?_
      refine lv_icmp_ne (tgt := 183) hx hb dL_isHeard_176 (by decide) (fun zc7 => ?_) (fun zc7 => ?_)
      · have hf := ite_f hf zc7
        exact w9_isHeard_183 C0 hr hz fl _ _ _ hw (lv_sub hl [] rfl) hf
      · have hf := ite_t hf zc7
        refine lv_iconst (v := (1 : Int32)) hx hb dL_isHeard_179 (by decide) ?_
        refine lv_goto (tgt := 184) hx hb dL_isHeard_180 (by decide) ?_
        exact w9_isHeard_184 C0 hr hz fl _ _ _ (1 : Int32) hw (lv_sub hl [] rfl) hf
noncomputable def m9_isHeard_144 (fl : Nat) (len : Nat → Nat) (X : Xm) (I : Im) (zr36 : Nat → Nat → Nat → Int32 → Int32 → Int32 → Int32 → Option (Int32)) (zx0 : Nat) (zx1 : Nat) (zx2 : Nat) (zx3 : Int32) (zx5 : Int32) (zx6 : Int32) (zs0 : Int32) (zs1 : Int32) : Option (Int32) :=
  lt ((zs0 + zs1)) fun zv1 =>
  lt (zx6 + 1) fun zv2 =>
  zr36 zx0 zx1 zx2 zx3 zv1 zx5 zv2
set_option maxHeartbeats 4000000 in
set_option maxRecDepth 100000 in
theorem w9_isHeard_144 {p : Program} {l : Launch} {e : Env} {s : State} {m : MethodId} {args : Array Value} {below : List Frame} {meth : Method} {c : Code} {E : EN} {G : GM} {X : Xm} {I : Im} (C0 : CX p s m args meth c E cL_isHeard RL 7) (hr : meth.sig.returnType = (some .boolean)) (hz : s.heap.size + 0 ≤ eB E + G.1) {rr : Int32} (fl : Nat) (zr36 : Nat → Nat → Nat → Int32 → Int32 → Int32 → Int32 → Option (Int32)) (zhr36 : ∀ (H : Heap) (locs : List Loc) (ls : Array Slot) (zx0 : Nat) (zx1 : Nat) (zx2 : Nat) (zx3 : Int32) (zx4 : Int32) (zx5 : Int32) (zx6 : Int32) (zt0 : okA E G 8 zx0) (zt1 : okA E G 11 zx1) (zt2 : okA E G 11 zx2), WD E G I X s.heap H locs → lv_has ls 7 [(0, .ref zx0), (1, .ref zx1), (2, .ref zx2), (3, .int zx3), (4, .int zx4), (5, .int zx5), (6, .int zx6)] → zr36 zx0 zx1 zx2 zx3 zx4 zx5 zx6 = some rr → W p l e ({ frames := 2, cells := 0, slots := 0, locals := 44 } : Room) s m args below meth c H locs 0 0 (MQ below (QI E G rr I X) args s 0 0 (eA E)) (F0 m 36 ls [])) : ∀ (H : Heap) (locs : List Loc) (ls : Array Slot) (zx0 : Nat) (zx1 : Nat) (zx2 : Nat) (zx3 : Int32) (zx5 : Int32) (zx6 : Int32) (zs0 : Int32) (zs1 : Int32) (zt0 : okA E G 8 zx0) (zt1 : okA E G 11 zx1) (zt2 : okA E G 11 zx2), WD E G I X s.heap H locs → lv_has ls 7 [(0, .ref zx0), (1, .ref zx1), (2, .ref zx2), (3, .int zx3), (5, .int zx5), (6, .int zx6)] → m9_isHeard_144 fl G.2.2 X I zr36 zx0 zx1 zx2 zx3 zx5 zx6 zs0 zs1 = some rr → W p l e ({ frames := 2, cells := 0, slots := 0, locals := 44 } : Room) s m args below meth c H locs 0 0 (MQ below (QI E G rr I X) args s 0 0 (eA E)) (F0 m 144 ls [.int zs1, .int zs0]) := by
  intro H locs ls zx0 zx1 zx2 zx3 zx5 zx6 zs0 zs1 zt0 zt1 zt2 hw hl hf
  unfold m9_isHeard_144 at hf
  have hx := C0.1; have hb := C0.2.1; have hml := C0.2.2.1; have hown := C0.2.2.2.1; have hts := C0.2.2.2.2.1
  refine lv_iadd hx hb dL_isHeard_144 ?_
  refine lv_topi (fun zv1 ezv1 => ?_)
  have hf := lt_at hf ezv1
  refine lv_istore (lv' := [(4, .int zv1), (0, .ref zx0), (1, .ref zx1), (2, .ref zx2), (3, .int zx3), (5, .int zx5), (6, .int zx6)]) hx hb dL_isHeard_145 hl (by decide) rfl (fun ls hl => ?_)
  obtain ⟨zv2, ezv2⟩ : ∃ y : Int32, y = zx6 + 1 := ⟨_, rfl⟩
  have hf := lt_at hf ezv2
  refine lv_iinc (v := zv2) (lv' := [(6, .int zv2), (4, .int zv1), (0, .ref zx0), (1, .ref zx1), (2, .ref zx2), (3, .int zx3), (5, .int zx5)]) hx hb dL_isHeard_147 hl (k := 6) rfl (by rw [ezv2]; rfl) (by decide) rfl (fun ls hl => ?_)
  refine lv_goto (tgt := 36) hx hb dL_isHeard_150 (by decide) ?_
  exact zhr36 _ _ _ zx0 zx1 zx2 zx3 zv1 zx5 zv2 zt0 zt1 zt2 hw (lv_sub hl [2, 3, 4, 5, 1, 6, 0] rfl) hf
noncomputable def m9_isHeard_124 (fl : Nat) (len : Nat → Nat) (X : Xm) (I : Im) (zr36 : Nat → Nat → Nat → Int32 → Int32 → Int32 → Int32 → Option (Int32)) (zx0 : Nat) (zx1 : Nat) (zx2 : Nat) (zx4 : Int32) (zx5 : Int32) (zx6 : Int32) (zs0 : Int32) : Option (Int32) :=
  nn (m8_loud fl len X I zx0 zx6) fun zv1 =>
  ck (inb (3 : Int32) (len zx1) = true) <|
  if zv1 ≤ (gA I zx1 ((3 : Int32)).toNatClampNeg) then
    m9_isHeard_144 fl len X I zr36 zx0 zx1 zx2 zs0 zx5 zx6 zx4 (0 : Int32)
  else
    m9_isHeard_144 fl len X I zr36 zx0 zx1 zx2 zs0 zx5 zx6 zx4 (1 : Int32)
set_option maxHeartbeats 4000000 in
set_option maxRecDepth 100000 in
theorem w9_isHeard_124 {p : Program} {l : Launch} {e : Env} {s : State} {m : MethodId} {args : Array Value} {below : List Frame} {meth : Method} {c : Code} {E : EN} {G : GM} {X : Xm} {I : Im} (C0 : CX p s m args meth c E cL_isHeard RL 7) (hr : meth.sig.returnType = (some .boolean)) (hz : s.heap.size + 0 ≤ eB E + G.1) {rr : Int32} (fl : Nat) (zr36 : Nat → Nat → Nat → Int32 → Int32 → Int32 → Int32 → Option (Int32)) (zhr36 : ∀ (H : Heap) (locs : List Loc) (ls : Array Slot) (zx0 : Nat) (zx1 : Nat) (zx2 : Nat) (zx3 : Int32) (zx4 : Int32) (zx5 : Int32) (zx6 : Int32) (zt0 : okA E G 8 zx0) (zt1 : okA E G 11 zx1) (zt2 : okA E G 11 zx2), WD E G I X s.heap H locs → lv_has ls 7 [(0, .ref zx0), (1, .ref zx1), (2, .ref zx2), (3, .int zx3), (4, .int zx4), (5, .int zx5), (6, .int zx6)] → zr36 zx0 zx1 zx2 zx3 zx4 zx5 zx6 = some rr → W p l e ({ frames := 2, cells := 0, slots := 0, locals := 44 } : Room) s m args below meth c H locs 0 0 (MQ below (QI E G rr I X) args s 0 0 (eA E)) (F0 m 36 ls [])) : ∀ (H : Heap) (locs : List Loc) (ls : Array Slot) (zx0 : Nat) (zx1 : Nat) (zx2 : Nat) (zx4 : Int32) (zx5 : Int32) (zx6 : Int32) (zs0 : Int32) (zt0 : okA E G 8 zx0) (zt1 : okA E G 11 zx1) (zt2 : okA E G 11 zx2), WD E G I X s.heap H locs → lv_has ls 7 [(0, .ref zx0), (1, .ref zx1), (2, .ref zx2), (4, .int zx4), (5, .int zx5), (6, .int zx6)] → m9_isHeard_124 fl G.2.2 X I zr36 zx0 zx1 zx2 zx4 zx5 zx6 zs0 = some rr → W p l e ({ frames := 2, cells := 0, slots := 0, locals := 44 } : Room) s m args below meth c H locs 0 0 (MQ below (QI E G rr I X) args s 0 0 (eA E)) (F0 m 124 ls [.int zs0]) := by
  intro H locs ls zx0 zx1 zx2 zx4 zx5 zx6 zs0 zt0 zt1 zt2 hw hl hf
  unfold m9_isHeard_124 at hf
  have hx := C0.1; have hb := C0.2.1; have hml := C0.2.2.1; have hown := C0.2.2.2.1; have hts := C0.2.2.2.2.1
  refine lv_istore_n (lv' := [(3, .int zs0), (0, .ref zx0), (1, .ref zx1), (2, .ref zx2), (4, .int zx4), (5, .int zx5), (6, .int zx6)]) hx hb dL_isHeard_124 rfl hl (by decide) rfl (fun ls hl => ?_)
  refine lv_iload hx hb dL_isHeard_125 (lv_at hl 4 rfl) ?_
  refine lv_aload_n hx hb dL_isHeard_127 rfl (lv_at hl 1 rfl) ?_
  refine lv_iload hx hb dL_isHeard_128 (lv_at hl 6 rfl) ?_
  obtain ⟨zv1, ze2, hf⟩ := nn_some hf
  refine x_ci (r := zv1) (I1 := I) (X1 := X) (x_runV (As := [.int zx6]) (rest := [.int zx4]) C0 (c8_loud l E G fl X I zx0 zx6 zt0 ze2) hw 8 zt0 (by decide) rfl wd73 wd450 wd451 wd452 wd107 ⟨rfl, rfl⟩ hy8_loud ⟨Nat.le_of_ble_eq_true rfl, Nat.le_of_ble_eq_true rfl⟩ rfl hl.1 (Nat.le_of_ble_eq_true rfl) ⟨Nat.zero_le _, Nat.zero_le _⟩ dL_isHeard_130) hw (fun H locs hw => ?_)
  refine lv_aload_n hx hb dL_isHeard_133 rfl (lv_at hl 2 rfl) ?_
  refine lv_iconst (v := (3 : Int32)) hx hb dL_isHeard_134 (by decide) ?_
  obtain ⟨zhb3, hf⟩ := ck_some hf
  refine x_iald C0 hw zt1 zhb3 dL_isHeard_135 ?_
  refine lv_icmp_le (tgt := 143) hx hb dL_isHeard_136 (by decide) (fun zc4 => ?_) (fun zc4 => ?_)
  · have hf := ite_t hf zc4
    refine lv_iconst (v := (0 : Int32)) hx hb dL_isHeard_143 (by decide) ?_
    exact w9_isHeard_144 C0 hr hz fl zr36 zhr36 _ _ _ zx0 zx1 zx2 zs0 zx5 zx6 zx4 (0 : Int32) zt0 zt1 zt2 hw (lv_sub hl [1, 2, 3, 0, 5, 6] rfl) hf
  · have hf := ite_f hf zc4
    refine lv_iconst (v := (1 : Int32)) hx hb dL_isHeard_139 (by decide) ?_
    refine lv_goto (tgt := 144) hx hb dL_isHeard_140 (by decide) ?_
    exact w9_isHeard_144 C0 hr hz fl zr36 zhr36 _ _ _ zx0 zx1 zx2 zs0 zx5 zx6 zx4 (1 : Int32) zt0 zt1 zt2 hw (lv_sub hl [1, 2, 3, 0, 5, 6] rfl) hf
noncomputable def m9_isHeard_118 (fl : Nat) (len : Nat → Nat) (X : Xm) (I : Im) (zr36 : Nat → Nat → Nat → Int32 → Int32 → Int32 → Int32 → Option (Int32)) (zx0 : Nat) (zx1 : Nat) (zx2 : Nat) (zx4 : Int32) (zx5 : Int32) (zx6 : Int32) : Option (Int32) :=
  m9_isHeard_124 fl len X I zr36 zx0 zx1 zx2 zx4 zx5 zx6 zx6
set_option maxHeartbeats 4000000 in
set_option maxRecDepth 100000 in
theorem w9_isHeard_118 {p : Program} {l : Launch} {e : Env} {s : State} {m : MethodId} {args : Array Value} {below : List Frame} {meth : Method} {c : Code} {E : EN} {G : GM} {X : Xm} {I : Im} (C0 : CX p s m args meth c E cL_isHeard RL 7) (hr : meth.sig.returnType = (some .boolean)) (hz : s.heap.size + 0 ≤ eB E + G.1) {rr : Int32} (fl : Nat) (zr36 : Nat → Nat → Nat → Int32 → Int32 → Int32 → Int32 → Option (Int32)) (zhr36 : ∀ (H : Heap) (locs : List Loc) (ls : Array Slot) (zx0 : Nat) (zx1 : Nat) (zx2 : Nat) (zx3 : Int32) (zx4 : Int32) (zx5 : Int32) (zx6 : Int32) (zt0 : okA E G 8 zx0) (zt1 : okA E G 11 zx1) (zt2 : okA E G 11 zx2), WD E G I X s.heap H locs → lv_has ls 7 [(0, .ref zx0), (1, .ref zx1), (2, .ref zx2), (3, .int zx3), (4, .int zx4), (5, .int zx5), (6, .int zx6)] → zr36 zx0 zx1 zx2 zx3 zx4 zx5 zx6 = some rr → W p l e ({ frames := 2, cells := 0, slots := 0, locals := 44 } : Room) s m args below meth c H locs 0 0 (MQ below (QI E G rr I X) args s 0 0 (eA E)) (F0 m 36 ls [])) : ∀ (H : Heap) (locs : List Loc) (ls : Array Slot) (zx0 : Nat) (zx1 : Nat) (zx2 : Nat) (zx4 : Int32) (zx5 : Int32) (zx6 : Int32) (zt0 : okA E G 8 zx0) (zt1 : okA E G 11 zx1) (zt2 : okA E G 11 zx2), WD E G I X s.heap H locs → lv_has ls 7 [(0, .ref zx0), (1, .ref zx1), (2, .ref zx2), (4, .int zx4), (5, .int zx5), (6, .int zx6)] → m9_isHeard_118 fl G.2.2 X I zr36 zx0 zx1 zx2 zx4 zx5 zx6 = some rr → W p l e ({ frames := 2, cells := 0, slots := 0, locals := 44 } : Room) s m args below meth c H locs 0 0 (MQ below (QI E G rr I X) args s 0 0 (eA E)) (F0 m 118 ls []) := by
  intro H locs ls zx0 zx1 zx2 zx4 zx5 zx6 zt0 zt1 zt2 hw hl hf
  unfold m9_isHeard_118 at hf
  have hx := C0.1; have hb := C0.2.1; have hml := C0.2.2.1; have hown := C0.2.2.2.1; have hts := C0.2.2.2.2.1
  refine lv_iload hx hb dL_isHeard_118 (lv_at hl 5 rfl) ?_
  refine lv_goto (tgt := 124) hx hb dL_isHeard_120 (by decide) ?_
  exact w9_isHeard_124 C0 hr hz fl zr36 zhr36 _ _ _ zx0 zx1 zx2 zx4 zx5 zx6 zx6 zt0 zt1 zt2 hw (lv_sub hl [0, 1, 2, 3, 4, 5] rfl) hf
noncomputable def m9_isHeard_98 (fl : Nat) (len : Nat → Nat) (X : Xm) (I : Im) (zr36 : Nat → Nat → Nat → Int32 → Int32 → Int32 → Int32 → Option (Int32)) (zx0 : Nat) (zx1 : Nat) (zx2 : Nat) (zx3 : Int32) (zx4 : Int32) (zx6 : Int32) (zs0 : Int32) : Option (Int32) :=
  if zx3 < 0 then
    m9_isHeard_118 fl len X I zr36 zx0 zx1 zx2 zx4 zs0 zx6
  else
    nn (m8_loud fl len X I zx0 zx6) fun zv2 =>
    nn (m8_loud fl len X I zx0 zx3) fun zv4 =>
    if zv2 ≤ zv4 then
      m9_isHeard_124 fl len X I zr36 zx0 zx1 zx2 zx4 zs0 zx6 zx3
    else
      m9_isHeard_118 fl len X I zr36 zx0 zx1 zx2 zx4 zs0 zx6
set_option maxHeartbeats 4000000 in
set_option maxRecDepth 100000 in
theorem w9_isHeard_98 {p : Program} {l : Launch} {e : Env} {s : State} {m : MethodId} {args : Array Value} {below : List Frame} {meth : Method} {c : Code} {E : EN} {G : GM} {X : Xm} {I : Im} (C0 : CX p s m args meth c E cL_isHeard RL 7) (hr : meth.sig.returnType = (some .boolean)) (hz : s.heap.size + 0 ≤ eB E + G.1) {rr : Int32} (fl : Nat) (zr36 : Nat → Nat → Nat → Int32 → Int32 → Int32 → Int32 → Option (Int32)) (zhr36 : ∀ (H : Heap) (locs : List Loc) (ls : Array Slot) (zx0 : Nat) (zx1 : Nat) (zx2 : Nat) (zx3 : Int32) (zx4 : Int32) (zx5 : Int32) (zx6 : Int32) (zt0 : okA E G 8 zx0) (zt1 : okA E G 11 zx1) (zt2 : okA E G 11 zx2), WD E G I X s.heap H locs → lv_has ls 7 [(0, .ref zx0), (1, .ref zx1), (2, .ref zx2), (3, .int zx3), (4, .int zx4), (5, .int zx5), (6, .int zx6)] → zr36 zx0 zx1 zx2 zx3 zx4 zx5 zx6 = some rr → W p l e ({ frames := 2, cells := 0, slots := 0, locals := 44 } : Room) s m args below meth c H locs 0 0 (MQ below (QI E G rr I X) args s 0 0 (eA E)) (F0 m 36 ls [])) : ∀ (H : Heap) (locs : List Loc) (ls : Array Slot) (zx0 : Nat) (zx1 : Nat) (zx2 : Nat) (zx3 : Int32) (zx4 : Int32) (zx6 : Int32) (zs0 : Int32) (zt0 : okA E G 8 zx0) (zt1 : okA E G 11 zx1) (zt2 : okA E G 11 zx2), WD E G I X s.heap H locs → lv_has ls 7 [(0, .ref zx0), (1, .ref zx1), (2, .ref zx2), (3, .int zx3), (4, .int zx4), (6, .int zx6)] → m9_isHeard_98 fl G.2.2 X I zr36 zx0 zx1 zx2 zx3 zx4 zx6 zs0 = some rr → W p l e ({ frames := 2, cells := 0, slots := 0, locals := 44 } : Room) s m args below meth c H locs 0 0 (MQ below (QI E G rr I X) args s 0 0 (eA E)) (F0 m 98 ls [.int zs0]) := by
  intro H locs ls zx0 zx1 zx2 zx3 zx4 zx6 zs0 zt0 zt1 zt2 hw hl hf
  unfold m9_isHeard_98 at hf
  have hx := C0.1; have hb := C0.2.1; have hml := C0.2.2.1; have hown := C0.2.2.2.1; have hts := C0.2.2.2.2.1
  refine lv_istore (lv' := [(5, .int zs0), (0, .ref zx0), (1, .ref zx1), (2, .ref zx2), (3, .int zx3), (4, .int zx4), (6, .int zx6)]) hx hb dL_isHeard_98 hl (by decide) rfl (fun ls hl => ?_)
  refine lv_iload_n hx hb dL_isHeard_100 rfl (lv_at hl 4 rfl) ?_
  refine lv_if_lt (tgt := 118) hx hb dL_isHeard_101 (by decide) (fun zc1 => ?_) (fun zc1 => ?_)
  · have hf := ite_t hf zc1
    exact w9_isHeard_118 C0 hr hz fl zr36 zhr36 _ _ _ zx0 zx1 zx2 zx4 zs0 zx6 zt0 zt1 zt2 hw (lv_sub hl [1, 2, 3, 5, 0, 6] rfl) hf
  · have hf := ite_f hf zc1
    refine lv_aload_n hx hb dL_isHeard_104 rfl (lv_at hl 1 rfl) ?_
    refine lv_iload hx hb dL_isHeard_105 (lv_at hl 6 rfl) ?_
    obtain ⟨zv2, ze3, hf⟩ := nn_some hf
    refine x_ci (r := zv2) (I1 := I) (X1 := X) (x_runV (As := [.int zx6]) (rest := []) C0 (c8_loud l E G fl X I zx0 zx6 zt0 ze3) hw 8 zt0 (by decide) rfl wd73 wd450 wd451 wd452 wd107 ⟨rfl, rfl⟩ hy8_loud ⟨Nat.le_of_ble_eq_true rfl, Nat.le_of_ble_eq_true rfl⟩ rfl hl.1 (Nat.le_of_ble_eq_true rfl) ⟨Nat.zero_le _, Nat.zero_le _⟩ dL_isHeard_107) hw (fun H locs hw => ?_)
    refine lv_aload_n hx hb dL_isHeard_110 rfl (lv_at hl 1 rfl) ?_
    refine lv_iload_n hx hb dL_isHeard_111 rfl (lv_at hl 4 rfl) ?_
    obtain ⟨zv4, ze5, hf⟩ := nn_some hf
    refine x_ci (r := zv4) (I1 := I) (X1 := X) (x_runV (As := [.int zx3]) (rest := [.int zv2]) C0 (c8_loud l E G fl X I zx0 zx3 zt0 ze5) hw 8 zt0 (by decide) rfl wd73 wd450 wd451 wd452 wd107 ⟨rfl, rfl⟩ hy8_loud ⟨Nat.le_of_ble_eq_true rfl, Nat.le_of_ble_eq_true rfl⟩ rfl hl.1 (Nat.le_of_ble_eq_true rfl) ⟨Nat.zero_le _, Nat.zero_le _⟩ dL_isHeard_112) hw (fun H locs hw => ?_)
    refine lv_icmp_le (tgt := 123) hx hb dL_isHeard_115 (by decide) (fun zc6 => ?_) (fun zc6 => ?_)
    · have hf := ite_t hf zc6
      refine lv_iload_n hx hb dL_isHeard_123 rfl (lv_at hl 4 rfl) ?_
      exact w9_isHeard_124 C0 hr hz fl zr36 zhr36 _ _ _ zx0 zx1 zx2 zx4 zs0 zx6 zx3 zt0 zt1 zt2 hw (lv_sub hl [1, 2, 3, 5, 0, 6] rfl) hf
    · have hf := ite_f hf zc6
      exact w9_isHeard_118 C0 hr hz fl zr36 zhr36 _ _ _ zx0 zx1 zx2 zx4 zs0 zx6 zt0 zt1 zt2 hw (lv_sub hl [1, 2, 3, 5, 0, 6] rfl) hf
noncomputable def m9_isHeard_36b (fl : Nat) (len : Nat → Nat) (X : Xm) (I : Im) (zr36 : Nat → Nat → Nat → Int32 → Int32 → Int32 → Int32 → Option (Int32)) (zx0 : Nat) (zx1 : Nat) (zx2 : Nat) (zx3 : Int32) (zx4 : Int32) (zx5 : Int32) (zx6 : Int32) : Option (Int32) :=
  ck (inb (4 : Int32) (len zx1) = true) <|
  if (gA I zx1 ((4 : Int32)).toNatClampNeg) ≤ zx6 then
    m9_isHeard_153 fl len X I zx0 zx3 zx4 zx5
  else
    if zx5 = 0 then
      m9_isHeard_153 fl len X I zx0 zx3 zx4 zx5
    else
      if ((gA I zx1 ((4 : Int32)).toNatClampNeg) - (64 : Int32)) ≤ zx6 then
        nn (m8_loud fl len X I zx0 zx6) fun zv5 =>
        ck (inb (zx6 - zx6 / (64 : Int32) * (64 : Int32)) (len zx2) = true) <|
        if zv5 = (gA I zx2 ((zx6 - zx6 / (64 : Int32) * (64 : Int32))).toNatClampNeg) then
          m9_isHeard_98 fl len X I zr36 zx0 zx1 zx2 zx3 zx4 zx6 (1 : Int32)
        else
          m9_isHeard_98 fl len X I zr36 zx0 zx1 zx2 zx3 zx4 zx6 (0 : Int32)
      else
        nn (m8_loud fl len X I zx0 zx6) fun zv9 =>
        if zv9 < 0 then
          m9_isHeard_98 fl len X I zr36 zx0 zx1 zx2 zx3 zx4 zx6 (0 : Int32)
        else
          m9_isHeard_98 fl len X I zr36 zx0 zx1 zx2 zx3 zx4 zx6 (1 : Int32)
noncomputable def m9_isHeard_36 (fl : Nat) (len : Nat → Nat) (X : Xm) (I : Im) (n : Nat) : Nat → Nat → Nat → Int32 → Int32 → Int32 → Int32 → Option (Int32) :=
  Nat.rec (fun _ _ _ _ _ _ _ => none) (fun _ r => m9_isHeard_36b fl len X I r) n
set_option maxHeartbeats 4000000 in
set_option maxRecDepth 100000 in
theorem w9_isHeard_36b {p : Program} {l : Launch} {e : Env} {s : State} {m : MethodId} {args : Array Value} {below : List Frame} {meth : Method} {c : Code} {E : EN} {G : GM} {X : Xm} {I : Im} (C0 : CX p s m args meth c E cL_isHeard RL 7) (hr : meth.sig.returnType = (some .boolean)) (hz : s.heap.size + 0 ≤ eB E + G.1) {rr : Int32} (fl : Nat) (zr36 : Nat → Nat → Nat → Int32 → Int32 → Int32 → Int32 → Option (Int32)) (zhr36 : ∀ (H : Heap) (locs : List Loc) (ls : Array Slot) (zx0 : Nat) (zx1 : Nat) (zx2 : Nat) (zx3 : Int32) (zx4 : Int32) (zx5 : Int32) (zx6 : Int32) (zt0 : okA E G 8 zx0) (zt1 : okA E G 11 zx1) (zt2 : okA E G 11 zx2), WD E G I X s.heap H locs → lv_has ls 7 [(0, .ref zx0), (1, .ref zx1), (2, .ref zx2), (3, .int zx3), (4, .int zx4), (5, .int zx5), (6, .int zx6)] → zr36 zx0 zx1 zx2 zx3 zx4 zx5 zx6 = some rr → W p l e ({ frames := 2, cells := 0, slots := 0, locals := 44 } : Room) s m args below meth c H locs 0 0 (MQ below (QI E G rr I X) args s 0 0 (eA E)) (F0 m 36 ls [])) : ∀ (H : Heap) (locs : List Loc) (ls : Array Slot) (zx0 : Nat) (zx1 : Nat) (zx2 : Nat) (zx3 : Int32) (zx4 : Int32) (zx5 : Int32) (zx6 : Int32) (zt0 : okA E G 8 zx0) (zt1 : okA E G 11 zx1) (zt2 : okA E G 11 zx2), WD E G I X s.heap H locs → lv_has ls 7 [(0, .ref zx0), (1, .ref zx1), (2, .ref zx2), (3, .int zx3), (4, .int zx4), (5, .int zx5), (6, .int zx6)] → m9_isHeard_36b fl G.2.2 X I zr36 zx0 zx1 zx2 zx3 zx4 zx5 zx6 = some rr → W p l e ({ frames := 2, cells := 0, slots := 0, locals := 44 } : Room) s m args below meth c H locs 0 0 (MQ below (QI E G rr I X) args s 0 0 (eA E)) (F0 m 36 ls []) := by
  intro H locs ls zx0 zx1 zx2 zx3 zx4 zx5 zx6 zt0 zt1 zt2 hw hl hf
  unfold m9_isHeard_36b at hf
  have hx := C0.1; have hb := C0.2.1; have hml := C0.2.2.1; have hown := C0.2.2.2.1; have hts := C0.2.2.2.2.1
  refine lv_iload hx hb dL_isHeard_36 (lv_at hl 6 rfl) ?_
  refine lv_aload_n hx hb dL_isHeard_38 rfl (lv_at hl 1 rfl) ?_
  refine lv_iconst (v := (4 : Int32)) hx hb dL_isHeard_39 (by decide) ?_
  obtain ⟨zhb1, hf⟩ := ck_some hf
  refine x_iald C0 hw zt1 zhb1 dL_isHeard_40 ?_
  refine lv_icmp_ge (tgt := 153) hx hb dL_isHeard_41 (by decide) (fun zc2 => ?_) (fun zc2 => ?_)
  · have hf := ite_t hf zc2
    exact w9_isHeard_153 C0 hr hz fl _ _ _ zx0 zx3 zx4 zx5 zt0 hw (lv_sub hl [0, 3, 4, 5] rfl) hf
  · have hf := ite_f hf zc2
    refine lv_iload hx hb dL_isHeard_44 (lv_at hl 5 rfl) ?_
    refine lv_if_eq (tgt := 153) hx hb dL_isHeard_46 (by decide) (fun zc3 => ?_) (fun zc3 => ?_)
    · have hf := ite_t hf zc3
      exact w9_isHeard_153 C0 hr hz fl _ _ _ zx0 zx3 zx4 zx5 zt0 hw (lv_sub hl [0, 3, 4, 5] rfl) hf
    · have hf := ite_f hf zc3
      refine lv_iload hx hb dL_isHeard_49 (lv_at hl 6 rfl) ?_
      refine lv_aload_n hx hb dL_isHeard_51 rfl (lv_at hl 1 rfl) ?_
      refine lv_iconst (v := (4 : Int32)) hx hb dL_isHeard_52 (by decide) ?_
      refine x_iald C0 hw zt1 zhb1 dL_isHeard_53 ?_
      refine lv_bipush (v := (64 : Int32)) hx hb dL_isHeard_54 (by decide) ?_
      refine lv_isub hx hb dL_isHeard_56 ?_
      refine lv_icmp_ge (tgt := 77) hx hb dL_isHeard_57 (by decide) (fun zc4 => ?_) (fun zc4 => ?_)
      · have hf := ite_t hf zc4
        refine lv_aload_n hx hb dL_isHeard_77 rfl (lv_at hl 0 rfl) ?_
        refine lv_iload hx hb dL_isHeard_78 (lv_at hl 6 rfl) ?_
        obtain ⟨zv5, ze6, hf⟩ := nn_some hf
        refine x_ci (r := zv5) (I1 := I) (X1 := X) (x_runV (As := [.int zx6]) (rest := []) C0 (c8_loud l E G fl X I zx0 zx6 zt0 ze6) hw 8 zt0 (by decide) rfl wd73 wd450 wd451 wd452 wd107 ⟨rfl, rfl⟩ hy8_loud ⟨Nat.le_of_ble_eq_true rfl, Nat.le_of_ble_eq_true rfl⟩ rfl hl.1 (Nat.le_of_ble_eq_true rfl) ⟨Nat.zero_le _, Nat.zero_le _⟩ dL_isHeard_80) hw (fun H locs hw => ?_)
        refine lv_aload_n hx hb dL_isHeard_83 rfl (lv_at hl 2 rfl) ?_
        refine lv_iload hx hb dL_isHeard_84 (lv_at hl 6 rfl) ?_
        refine lv_bipush (v := (64 : Int32)) hx hb dL_isHeard_86 (by decide) ?_
        refine lv_irem hx hb dL_isHeard_88 (by decide) ?_
        obtain ⟨zhb7, hf⟩ := ck_some hf
        refine x_iald C0 hw zt2 zhb7 dL_isHeard_89 ?_
        refine lv_icmp_ne (tgt := 97) hx hb dL_isHeard_90 (by decide) (fun zc8 => ?_) (fun zc8 => ?_)
        · have hf := ite_f hf zc8
          refine lv_iconst (v := (0 : Int32)) hx hb dL_isHeard_97 (by decide) ?_
          exact w9_isHeard_98 C0 hr hz fl zr36 zhr36 _ _ _ zx0 zx1 zx2 zx3 zx4 zx6 (0 : Int32) zt0 zt1 zt2 hw (lv_sub hl [0, 1, 2, 3, 4, 6] rfl) hf
        · have hf := ite_t hf zc8
          refine lv_iconst (v := (1 : Int32)) hx hb dL_isHeard_93 (by decide) ?_
          refine lv_goto (tgt := 98) hx hb dL_isHeard_94 (by decide) ?_
          exact w9_isHeard_98 C0 hr hz fl zr36 zhr36 _ _ _ zx0 zx1 zx2 zx3 zx4 zx6 (1 : Int32) zt0 zt1 zt2 hw (lv_sub hl [0, 1, 2, 3, 4, 6] rfl) hf
      · have hf := ite_f hf zc4
        refine lv_aload_n hx hb dL_isHeard_60 rfl (lv_at hl 0 rfl) ?_
        refine lv_iload hx hb dL_isHeard_61 (lv_at hl 6 rfl) ?_
        obtain ⟨zv9, ze10, hf⟩ := nn_some hf
        refine x_ci (r := zv9) (I1 := I) (X1 := X) (x_runV (As := [.int zx6]) (rest := []) C0 (c8_loud l E G fl X I zx0 zx6 zt0 ze10) hw 8 zt0 (by decide) rfl wd73 wd450 wd451 wd452 wd107 ⟨rfl, rfl⟩ hy8_loud ⟨Nat.le_of_ble_eq_true rfl, Nat.le_of_ble_eq_true rfl⟩ rfl hl.1 (Nat.le_of_ble_eq_true rfl) ⟨Nat.zero_le _, Nat.zero_le _⟩ dL_isHeard_63) hw (fun H locs hw => ?_)
        refine lv_if_lt (tgt := 73) hx hb dL_isHeard_66 (by decide) (fun zc11 => ?_) (fun zc11 => ?_)
        · have hf := ite_t hf zc11
          refine lv_iconst (v := (0 : Int32)) hx hb dL_isHeard_73 (by decide) ?_
          refine lv_goto (tgt := 98) hx hb dL_isHeard_74 (by decide) ?_
          exact w9_isHeard_98 C0 hr hz fl zr36 zhr36 _ _ _ zx0 zx1 zx2 zx3 zx4 zx6 (0 : Int32) zt0 zt1 zt2 hw (lv_sub hl [0, 1, 2, 3, 4, 6] rfl) hf
        · have hf := ite_f hf zc11
          refine lv_iconst (v := (1 : Int32)) hx hb dL_isHeard_69 (by decide) ?_
          refine lv_goto (tgt := 98) hx hb dL_isHeard_70 (by decide) ?_
          exact w9_isHeard_98 C0 hr hz fl zr36 zhr36 _ _ _ zx0 zx1 zx2 zx3 zx4 zx6 (1 : Int32) zt0 zt1 zt2 hw (lv_sub hl [0, 1, 2, 3, 4, 6] rfl) hf
theorem w9_isHeard_36 {p : Program} {l : Launch} {e : Env} {s : State} {m : MethodId} {args : Array Value} {below : List Frame} {meth : Method} {c : Code} {E : EN} {G : GM} {X : Xm} {I : Im} (C0 : CX p s m args meth c E cL_isHeard RL 7) (hr : meth.sig.returnType = (some .boolean)) (hz : s.heap.size + 0 ≤ eB E + G.1) {rr : Int32} (fl : Nat) : ∀ (n : Nat) (H : Heap) (locs : List Loc) (ls : Array Slot) (zx0 : Nat) (zx1 : Nat) (zx2 : Nat) (zx3 : Int32) (zx4 : Int32) (zx5 : Int32) (zx6 : Int32) (zt0 : okA E G 8 zx0) (zt1 : okA E G 11 zx1) (zt2 : okA E G 11 zx2), WD E G I X s.heap H locs → lv_has ls 7 [(0, .ref zx0), (1, .ref zx1), (2, .ref zx2), (3, .int zx3), (4, .int zx4), (5, .int zx5), (6, .int zx6)] → m9_isHeard_36 fl G.2.2 X I n zx0 zx1 zx2 zx3 zx4 zx5 zx6 = some rr → W p l e ({ frames := 2, cells := 0, slots := 0, locals := 44 } : Room) s m args below meth c H locs 0 0 (MQ below (QI E G rr I X) args s 0 0 (eA E)) (F0 m 36 ls []) := by
  intro n
  induction n with
  | zero => intro H locs ls zx0 zx1 zx2 zx3 zx4 zx5 zx6 zt0 zt1 zt2 hw hl hf; exact absurd (show (none : Option (Int32)) = some rr from hf) (by simp)
  | succ n ih => intro H locs ls zx0 zx1 zx2 zx3 zx4 zx5 zx6 zt0 zt1 zt2 hw hl hf; exact w9_isHeard_36b C0 hr hz fl _ ih H locs ls zx0 zx1 zx2 zx3 zx4 zx5 zx6 zt0 zt1 zt2 hw hl hf
noncomputable def m9_isHeard_31 (fl : Nat) (len : Nat → Nat) (X : Xm) (I : Im) (zx0 : Nat) (zx1 : Nat) (zx2 : Nat) (zx3 : Int32) (zx4 : Int32) (zs0 : Int32) : Option (Int32) :=
  m9_isHeard_36 fl len X I fl zx0 zx1 zx2 zx3 zx4 zs0 (0 : Int32)
set_option maxHeartbeats 4000000 in
set_option maxRecDepth 100000 in
theorem w9_isHeard_31 {p : Program} {l : Launch} {e : Env} {s : State} {m : MethodId} {args : Array Value} {below : List Frame} {meth : Method} {c : Code} {E : EN} {G : GM} {X : Xm} {I : Im} (C0 : CX p s m args meth c E cL_isHeard RL 7) (hr : meth.sig.returnType = (some .boolean)) (hz : s.heap.size + 0 ≤ eB E + G.1) {rr : Int32} (fl : Nat) : ∀ (H : Heap) (locs : List Loc) (ls : Array Slot) (zx0 : Nat) (zx1 : Nat) (zx2 : Nat) (zx3 : Int32) (zx4 : Int32) (zs0 : Int32) (zt0 : okA E G 8 zx0) (zt1 : okA E G 11 zx1) (zt2 : okA E G 11 zx2), WD E G I X s.heap H locs → lv_has ls 7 [(0, .ref zx0), (1, .ref zx1), (2, .ref zx2), (3, .int zx3), (4, .int zx4)] → m9_isHeard_31 fl G.2.2 X I zx0 zx1 zx2 zx3 zx4 zs0 = some rr → W p l e ({ frames := 2, cells := 0, slots := 0, locals := 44 } : Room) s m args below meth c H locs 0 0 (MQ below (QI E G rr I X) args s 0 0 (eA E)) (F0 m 31 ls [.int zs0]) := by
  intro H locs ls zx0 zx1 zx2 zx3 zx4 zs0 zt0 zt1 zt2 hw hl hf
  unfold m9_isHeard_31 at hf
  have hx := C0.1; have hb := C0.2.1; have hml := C0.2.2.1; have hown := C0.2.2.2.1; have hts := C0.2.2.2.2.1
  refine lv_istore (lv' := [(5, .int zs0), (0, .ref zx0), (1, .ref zx1), (2, .ref zx2), (3, .int zx3), (4, .int zx4)]) hx hb dL_isHeard_31 hl (by decide) rfl (fun ls hl => ?_)
  refine lv_iconst (v := (0 : Int32)) hx hb dL_isHeard_33 (by decide) ?_
  refine lv_istore (lv' := [(6, .int (0 : Int32)), (5, .int zs0), (0, .ref zx0), (1, .ref zx1), (2, .ref zx2), (3, .int zx3), (4, .int zx4)]) hx hb dL_isHeard_34 hl (by decide) rfl (fun ls hl => ?_)
  exact w9_isHeard_36 C0 hr hz fl fl _ _ _ zx0 zx1 zx2 zx3 zx4 zs0 (0 : Int32) zt0 zt1 zt2 hw (lv_sub hl [2, 3, 4, 5, 6, 1, 0] rfl) hf
noncomputable def m9_isHeard_30 (fl : Nat) (len : Nat → Nat) (X : Xm) (I : Im) (zx0 : Nat) (zx1 : Nat) (zx2 : Nat) (zx3 : Int32) (zx4 : Int32) : Option (Int32) :=
  m9_isHeard_31 fl len X I zx0 zx1 zx2 zx3 zx4 (0 : Int32)
set_option maxHeartbeats 4000000 in
set_option maxRecDepth 100000 in
theorem w9_isHeard_30 {p : Program} {l : Launch} {e : Env} {s : State} {m : MethodId} {args : Array Value} {below : List Frame} {meth : Method} {c : Code} {E : EN} {G : GM} {X : Xm} {I : Im} (C0 : CX p s m args meth c E cL_isHeard RL 7) (hr : meth.sig.returnType = (some .boolean)) (hz : s.heap.size + 0 ≤ eB E + G.1) {rr : Int32} (fl : Nat) : ∀ (H : Heap) (locs : List Loc) (ls : Array Slot) (zx0 : Nat) (zx1 : Nat) (zx2 : Nat) (zx3 : Int32) (zx4 : Int32) (zt0 : okA E G 8 zx0) (zt1 : okA E G 11 zx1) (zt2 : okA E G 11 zx2), WD E G I X s.heap H locs → lv_has ls 7 [(0, .ref zx0), (1, .ref zx1), (2, .ref zx2), (3, .int zx3), (4, .int zx4)] → m9_isHeard_30 fl G.2.2 X I zx0 zx1 zx2 zx3 zx4 = some rr → W p l e ({ frames := 2, cells := 0, slots := 0, locals := 44 } : Room) s m args below meth c H locs 0 0 (MQ below (QI E G rr I X) args s 0 0 (eA E)) (F0 m 30 ls []) := by
  intro H locs ls zx0 zx1 zx2 zx3 zx4 zt0 zt1 zt2 hw hl hf
  unfold m9_isHeard_30 at hf
  have hx := C0.1; have hb := C0.2.1; have hml := C0.2.2.1; have hown := C0.2.2.2.1; have hts := C0.2.2.2.2.1
  refine lv_iconst (v := (0 : Int32)) hx hb dL_isHeard_30 (by decide) ?_
  exact w9_isHeard_31 C0 hr hz fl _ _ _ zx0 zx1 zx2 zx3 zx4 (0 : Int32) zt0 zt1 zt2 hw (lv_sub hl [0, 1, 2, 3, 4] rfl) hf
noncomputable def m9_isHeard (fl : Nat) (len : Nat → Nat) (X : Xm) (I : Im) (zx0 : Nat) (zx1 : Nat) (zx2 : Nat) : Option (Int32) :=
  ck (inb (4 : Int32) (len zx1) = true) <|
  nn (m8_loud fl len X I zx0 (gA I zx1 ((4 : Int32)).toNatClampNeg)) fun zv2 =>
  if zv2 = (-1 : Int32) then
    nn (m8_loud fl len X I zx0 (-1 : Int32)) fun zv5 =>
    if zv5 = (-1 : Int32) then
      m9_isHeard_31 fl len X I zx0 zx1 zx2 (-6 : Int32) (0 : Int32) (1 : Int32)
    else
      m9_isHeard_30 fl len X I zx0 zx1 zx2 (-6 : Int32) (0 : Int32)
  else
    m9_isHeard_30 fl len X I zx0 zx1 zx2 (-6 : Int32) (0 : Int32)
theorem hy9_isHeard : yL_isHeard.cls = RL ∧ yL_isHeard.cls ≠ "java/lang/invoke/MethodHandle" ∧ yL_isHeard.cls ≠ "java/lang/invoke/VarHandle" ∧ (parseMethodDescriptor yL_isHeard.desc).map (fun d => d.parameters.length) = some 3 := ⟨rfl, by decide +kernel, by decide +kernel, by decide +kernel⟩
set_option maxHeartbeats 4000000 in
set_option maxRecDepth 100000 in
theorem c9_isHeard (l : Launch) (E : EN) (G : GM) (fl : Nat) (X : Xm) (I : Im) (zx0 : Nat) (zx1 : Nat) (zx2 : Nat) (zt0 : okA E G 8 zx0) (zt1 : okA E G 11 zx1) (zt2 : okA E G 11 zx2) {rr : Int32} (hf : m9_isHeard fl G.2.2 X I zx0 zx1 zx2 = some rr) : MT l yL_isHeard cL_isHeard 7 (some .boolean) ({ frames := 2, cells := 0, slots := 0, locals := 44 } : Room) E G I X [.ref zx0, .ref zx1, .ref zx2] (QI E G rr I X) 0 0 := by
  refine Met.ofW (cc := cL_isHeard) (maxL := 7) (ret := (some .boolean)) (by decide +kernel) rfl ?_
  intro p e s m args below meth c s₁ B hml hv
  obtain ⟨rfl, hw0, hSE⟩ := hv
  have C0 : CX p s m ([.ref zx0, .ref zx1, .ref zx2] : List Value).toArray meth c E cL_isHeard RL 7 := ⟨B.exec, B.bytes, hml, findClass_of_methodNamed B.named, fun w hw => atoms_spec (ws := WS yL_isHeard cL_isHeard 7 (some .boolean)) B.pre w (List.mem_cons_of_mem _ hw), B.notSynchronized, hSE⟩
  have hz : s.heap.size + 0 ≤ eB E + G.1 := Nat.le_of_eq hw0.2.1
  have hw : WD E G I X s.heap s.heap [] := ⟨hw0, va_S.rf⟩
  have hr := B.returns
  have hx := C0.1; have hb := C0.2.1; have hml := C0.2.2.1; have hown := C0.2.2.2.1; have hts := C0.2.2.2.2.1
  have hl := lv_entry ([.ref zx0, .ref zx1, .ref zx2]) (n := 7) (Nat.le_of_ble_eq_true rfl)
  rw [lg_entry_eq]
  generalize (lg_sl ([.ref zx0, .ref zx1, .ref zx2]) ++ List.replicate (7 - (lg_sl ([.ref zx0, .ref zx1, .ref zx2])).length) Slot.unset).toArray = ls at hl ⊢
  have hl : lv_has ls 7 [(0, .ref zx0), (1, .ref zx1), (2, .ref zx2)] := hl
  unfold m9_isHeard at hf
  refine lv_bipush (v := (-6 : Int32)) hx hb dL_isHeard_0 (by decide) ?_
  refine lv_istore_n (lv' := [(3, .int (-6 : Int32)), (0, .ref zx0), (1, .ref zx1), (2, .ref zx2)]) hx hb dL_isHeard_2 rfl hl (by decide) rfl (fun ls hl => ?_)
  refine lv_iconst (v := (0 : Int32)) hx hb dL_isHeard_3 (by decide) ?_
  refine lv_istore (lv' := [(4, .int (0 : Int32)), (3, .int (-6 : Int32)), (0, .ref zx0), (1, .ref zx1), (2, .ref zx2)]) hx hb dL_isHeard_4 hl (by decide) rfl (fun ls hl => ?_)
  refine lv_aload_n hx hb dL_isHeard_6 rfl (lv_at hl 2 rfl) ?_
  refine lv_aload_n hx hb dL_isHeard_7 rfl (lv_at hl 3 rfl) ?_
  refine lv_iconst (v := (4 : Int32)) hx hb dL_isHeard_8 (by decide) ?_
  obtain ⟨zhb1, hf⟩ := ck_some hf
  refine x_iald C0 hw zt1 zhb1 dL_isHeard_9 ?_
  obtain ⟨zv2, ze3, hf⟩ := nn_some hf
  refine x_ci (r := zv2) (I1 := I) (X1 := X) (x_runV (As := [.int (gA I zx1 ((4 : Int32)).toNatClampNeg)]) (rest := []) C0 (c8_loud l E G fl X I zx0 (gA I zx1 ((4 : Int32)).toNatClampNeg) zt0 ze3) hw 8 zt0 (by decide) rfl wd73 wd450 wd451 wd452 wd107 ⟨rfl, rfl⟩ hy8_loud ⟨Nat.le_of_ble_eq_true rfl, Nat.le_of_ble_eq_true rfl⟩ rfl hl.1 (Nat.le_of_ble_eq_true rfl) ⟨Nat.zero_le _, Nat.zero_le _⟩ dL_isHeard_10) hw (fun H locs hw => ?_)
  refine lv_iconst (v := (-1 : Int32)) hx hb dL_isHeard_13 (by decide) ?_
  refine lv_icmp_ne (tgt := 30) hx hb dL_isHeard_14 (by decide) (fun zc4 => ?_) (fun zc4 => ?_)
  · have hf := ite_f hf zc4
    exact w9_isHeard_30 C0 hr hz fl _ _ _ zx0 zx1 zx2 (-6 : Int32) (0 : Int32) zt0 zt1 zt2 hw (lv_sub hl [2, 3, 4, 1, 0] rfl) hf
  · have hf := ite_t hf zc4
    refine lv_aload_n hx hb dL_isHeard_17 rfl (lv_at hl 2 rfl) ?_
    refine lv_iconst (v := (-1 : Int32)) hx hb dL_isHeard_18 (by decide) ?_
    obtain ⟨zv5, ze6, hf⟩ := nn_some hf
    refine x_ci (r := zv5) (I1 := I) (X1 := X) (x_runV (As := [.int (-1 : Int32)]) (rest := []) C0 (c8_loud l E G fl X I zx0 (-1 : Int32) zt0 ze6) hw 8 zt0 (by decide) rfl wd73 wd450 wd451 wd452 wd107 ⟨rfl, rfl⟩ hy8_loud ⟨Nat.le_of_ble_eq_true rfl, Nat.le_of_ble_eq_true rfl⟩ rfl hl.1 (Nat.le_of_ble_eq_true rfl) ⟨Nat.zero_le _, Nat.zero_le _⟩ dL_isHeard_19) hw (fun H locs hw => ?_)
    refine lv_iconst (v := (-1 : Int32)) hx hb dL_isHeard_22 (by decide) ?_
    refine lv_icmp_ne (tgt := 30) hx hb dL_isHeard_23 (by decide) (fun zc7 => ?_) (fun zc7 => ?_)
    · have hf := ite_f hf zc7
      exact w9_isHeard_30 C0 hr hz fl _ _ _ zx0 zx1 zx2 (-6 : Int32) (0 : Int32) zt0 zt1 zt2 hw (lv_sub hl [2, 3, 4, 1, 0] rfl) hf
    · have hf := ite_t hf zc7
      refine lv_iconst (v := (1 : Int32)) hx hb dL_isHeard_26 (by decide) ?_
      refine lv_goto (tgt := 31) hx hb dL_isHeard_27 (by decide) ?_
      exact w9_isHeard_31 C0 hr hz fl _ _ _ zx0 zx1 zx2 (-6 : Int32) (0 : Int32) (1 : Int32) zt0 zt1 zt2 hw (lv_sub hl [2, 3, 4, 1, 0] rfl) hf
