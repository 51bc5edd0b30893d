section LAW
variable {p : Program} {l : Launch} {e : Env} {s : State} {m : MethodId} {AA : Array Value} {below : List Frame} {meth : Method} {c : Code} {H : Heap} {locs : List Loc} {cells slots : Nat} {Q : State → Prop} {ls : Array Slot} {D : va_G} {cA : Nat → ClassId} {A : Nat → Prop} {ad : Nat → Nat} {σ : Mem} {b L : Nat} {xs : Nat → Int32} {i : Int}
theorem law_0 (C0 : kC p s m AA c code 4 RL D cA) (hI : wI ad) (hX : va_X b L xs s s.heap) (hbl : b < s.heap.size) (hbA : ¬ A b) (w : kW D A s.heap H locs (wl cA ad σ)) (hrel : Rel σ) (h0 : 0 ≤ i) (h3 : i + 3 ≤ (L : Int)) (hL : L ≤ 192) (hl : lv_has ls 4 [(0, .ref b), (1, .ref (ad 0)), (2, .ref (ad 65)), (3, .int (iI i))]) (hcs : cells ≤ room_1.cells ∧ slots ≤ room_1.slots) (hnext : ∀ (σ : Mem) (H : Heap) (locs : List Loc), Rel σ → kW D A s.heap H locs (wl cA ad σ) → W p l e room_1 s m AA below meth c H locs cells slots Q (F0 m 908 ls [])) : W p l e room_1 s m AA below meth c H locs cells slots Q (F0 m 168 ls []) := by
  have hx := C0.1
  have hb := C0.2.1
  refine lv_aload_n hx hb dL_law_168 rfl (lv_at hl 1 rfl) ?_
  refine lv_aload_n hx hb dL_law_169 rfl (lv_at hl 0 rfl) ?_
  refine lv_iload_n hx hb dL_law_170 rfl (lv_at hl 3 rfl) ?_
  refine lv_iconst (v := iI 1) hx hb dL_law_171 rfl ?_
  refine wk_iadd hx hb dL_law_172 ?_
  refine kk_sld C0 hX hbl hbA w (by omega) (by omega) hL dL_law_173 ?_
  have hw := pub_feed (inR_of (xs (i + 1).toNat)) σ hrel
  refine kk_wi (n := 1) (As := [.int (iI (xs (i + 1).toNat).toInt)]) (rest := []) C0 hI cl_L_13 (ok_X11_feed hI hw) w (by decide) sh_0 rfl rfl rfl (Nat.le_of_ble_eq_true rfl) ⟨(Nat.le_of_ble_eq_true rfl), (Nat.le_of_ble_eq_true rfl)⟩ hl.1 dL_law_174 hcs (fun z1 u1 H locs hw w => ?_)
  refine lv_aload_n hx hb dL_law_177 rfl (lv_at hl 2 rfl) ?_
  refine lv_aload_n hx hb dL_law_178 rfl (lv_at hl 0 rfl) ?_
  refine lv_iload_n hx hb dL_law_179 rfl (lv_at hl 3 rfl) ?_
  refine lv_iconst (v := iI 1) hx hb dL_law_180 rfl ?_
  refine wk_iadd hx hb dL_law_181 ?_
  refine kk_sld C0 hX hbl hbA w (by omega) (by omega) hL dL_law_182 ?_
  refine kk_wi (n := 1) (As := [.int (iI (xs (i + 1).toNat).toInt)]) (rest := [.int (iI z1)]) C0 hI cl_L_17 (ok_X12_feed hI hw) w (by decide) sh_65 rfl rfl rfl (Nat.le_of_ble_eq_true rfl) ⟨(Nat.le_of_ble_eq_true rfl), (Nat.le_of_ble_eq_true rfl)⟩ hl.1 dL_law_183 hcs (fun z2 u2 H locs hw w => ?_)
  obtain ⟨rfl, hrel⟩ := hw
  exact lv_icmp_eq (tgt := 908) hx hb dL_law_186 (by decide) (fun _ => hnext _ _ _ hrel w) (fun h => absurd rfl h)
theorem law_1 (C0 : kC p s m AA c code 4 RL D cA) (hI : wI ad) (hX : va_X b L xs s s.heap) (hbl : b < s.heap.size) (hbA : ¬ A b) (w : kW D A s.heap H locs (wl cA ad σ)) (hrel : Rel σ) (h0 : 0 ≤ i) (h3 : i + 3 ≤ (L : Int)) (hL : L ≤ 192) (hl : lv_has ls 4 [(0, .ref b), (1, .ref (ad 0)), (2, .ref (ad 65)), (3, .int (iI i))]) (hcs : cells ≤ room_1.cells ∧ slots ≤ room_1.slots) (hnext : ∀ (σ : Mem) (H : Heap) (locs : List Loc), Rel σ → kW D A s.heap H locs (wl cA ad σ) → W p l e room_1 s m AA below meth c H locs cells slots Q (F0 m 908 ls [])) : W p l e room_1 s m AA below meth c H locs cells slots Q (F0 m 191 ls []) := by
  have hx := C0.1
  have hb := C0.2.1
  refine lv_aload_n hx hb dL_law_191 rfl (lv_at hl 1 rfl) ?_
  have hw := pub_bed σ hrel
  refine kk_wi (n := 0) (As := []) (rest := []) C0 hI cl_L_18 (ok_X11_bed hI hw) w (by decide) sh_0 rfl rfl rfl (Nat.le_of_ble_eq_true rfl) ⟨(Nat.le_of_ble_eq_true rfl), (Nat.le_of_ble_eq_true rfl)⟩ hl.1 dL_law_192 hcs (fun z1 u1 H locs hw w => ?_)
  refine lv_aload_n hx hb dL_law_195 rfl (lv_at hl 2 rfl) ?_
  refine kk_wi (n := 0) (As := []) (rest := [.int (iI z1)]) C0 hI cl_L_22 (ok_X12_bed hI hw) w (by decide) sh_65 rfl rfl rfl (Nat.le_of_ble_eq_true rfl) ⟨(Nat.le_of_ble_eq_true rfl), (Nat.le_of_ble_eq_true rfl)⟩ hl.1 dL_law_196 hcs (fun z2 u2 H locs hw w => ?_)
  obtain ⟨rfl, hrel⟩ := hw
  exact lv_icmp_eq (tgt := 908) hx hb dL_law_199 (by decide) (fun _ => hnext _ _ _ hrel w) (fun h => absurd rfl h)
theorem law_2 (C0 : kC p s m AA c code 4 RL D cA) (hI : wI ad) (hX : va_X b L xs s s.heap) (hbl : b < s.heap.size) (hbA : ¬ A b) (w : kW D A s.heap H locs (wl cA ad σ)) (hrel : Rel σ) (h0 : 0 ≤ i) (h3 : i + 3 ≤ (L : Int)) (hL : L ≤ 192) (hl : lv_has ls 4 [(0, .ref b), (1, .ref (ad 0)), (2, .ref (ad 65)), (3, .int (iI i))]) (hcs : cells ≤ room_1.cells ∧ slots ≤ room_1.slots) (hnext : ∀ (σ : Mem) (H : Heap) (locs : List Loc), Rel σ → kW D A s.heap H locs (wl cA ad σ) → W p l e room_1 s m AA below meth c H locs cells slots Q (F0 m 908 ls [])) : W p l e room_1 s m AA below meth c H locs cells slots Q (F0 m 204 ls []) := by
  have hx := C0.1
  have hb := C0.2.1
  refine lv_aload_n hx hb dL_law_204 rfl (lv_at hl 1 rfl) ?_
  have hw := pub_fault σ hrel
  refine kk_wi (n := 0) (As := []) (rest := []) C0 hI cl_L_23 (ok_X11_fault hI hw) w (by decide) sh_0 rfl rfl rfl (Nat.le_of_ble_eq_true rfl) ⟨(Nat.le_of_ble_eq_true rfl), (Nat.le_of_ble_eq_true rfl)⟩ hl.1 dL_law_205 hcs (fun z1 u1 H locs hw w => ?_)
  rw [hw.1] at w
  have hw := hw.2
  refine lv_aload_n hx hb dL_law_208 rfl (lv_at hl 2 rfl) ?_
  refine kk_wi (n := 0) (As := []) (rest := [.int (iI z1)]) C0 hI cl_L_26 (ok_X12_fault hI hw) w (by decide) sh_65 rfl rfl rfl (Nat.le_of_ble_eq_true rfl) ⟨(Nat.le_of_ble_eq_true rfl), (Nat.le_of_ble_eq_true rfl)⟩ hl.1 dL_law_209 hcs (fun z2 u2 H locs hw w => ?_)
  rw [hw.1] at w
  have hw := hw.2
  subst hw
  exact lv_icmp_eq (tgt := 908) hx hb dL_law_212 (by decide) (fun _ => hnext _ _ _ hrel w) (fun h => absurd rfl h)
theorem law_3 (C0 : kC p s m AA c code 4 RL D cA) (hI : wI ad) (hX : va_X b L xs s s.heap) (hbl : b < s.heap.size) (hbA : ¬ A b) (w : kW D A s.heap H locs (wl cA ad σ)) (hrel : Rel σ) (h0 : 0 ≤ i) (h3 : i + 3 ≤ (L : Int)) (hL : L ≤ 192) (hl : lv_has ls 4 [(0, .ref b), (1, .ref (ad 0)), (2, .ref (ad 65)), (3, .int (iI i))]) (hcs : cells ≤ room_1.cells ∧ slots ≤ room_1.slots) (hnext : ∀ (σ : Mem) (H : Heap) (locs : List Loc), Rel σ → kW D A s.heap H locs (wl cA ad σ) → W p l e room_1 s m AA below meth c H locs cells slots Q (F0 m 908 ls [])) : W p l e room_1 s m AA below meth c H locs cells slots Q (F0 m 217 ls []) := by
  have hx := C0.1
  have hb := C0.2.1
  refine lv_aload_n hx hb dL_law_217 rfl (lv_at hl 1 rfl) ?_
  refine lv_aload_n hx hb dL_law_218 rfl (lv_at hl 0 rfl) ?_
  refine lv_iload_n hx hb dL_law_219 rfl (lv_at hl 3 rfl) ?_
  refine lv_iconst (v := iI 1) hx hb dL_law_220 rfl ?_
  refine wk_iadd hx hb dL_law_221 ?_
  refine kk_sld C0 hX hbl hbA w (by omega) (by omega) hL dL_law_222 ?_
  have hw := pub_told (inR_of (xs (i + 1).toNat)) σ hrel
  refine kk_wi (n := 1) (As := [.int (iI (xs (i + 1).toNat).toInt)]) (rest := []) C0 hI cl_L_27 (ok_X11_told hI hw) w (by decide) sh_0 rfl rfl rfl (Nat.le_of_ble_eq_true rfl) ⟨(Nat.le_of_ble_eq_true rfl), (Nat.le_of_ble_eq_true rfl)⟩ hl.1 dL_law_223 hcs (fun z1 u1 H locs hw w => ?_)
  rw [hw.1] at w
  have hw := hw.2
  refine lv_aload_n hx hb dL_law_226 rfl (lv_at hl 2 rfl) ?_
  refine lv_aload_n hx hb dL_law_227 rfl (lv_at hl 0 rfl) ?_
  refine lv_iload_n hx hb dL_law_228 rfl (lv_at hl 3 rfl) ?_
  refine lv_iconst (v := iI 1) hx hb dL_law_229 rfl ?_
  refine wk_iadd hx hb dL_law_230 ?_
  refine kk_sld C0 hX hbl hbA w (by omega) (by omega) hL dL_law_231 ?_
  refine kk_wi (n := 1) (As := [.int (iI (xs (i + 1).toNat).toInt)]) (rest := [.int (iI z1)]) C0 hI cl_L_30 (ok_X12_told hI hw) w (by decide) sh_65 rfl rfl rfl (Nat.le_of_ble_eq_true rfl) ⟨(Nat.le_of_ble_eq_true rfl), (Nat.le_of_ble_eq_true rfl)⟩ hl.1 dL_law_232 hcs (fun z2 u2 H locs hw w => ?_)
  rw [hw.1] at w
  have hw := hw.2
  subst hw
  exact lv_icmp_eq (tgt := 908) hx hb dL_law_235 (by decide) (fun _ => hnext _ _ _ hrel w) (fun h => absurd rfl h)
theorem law_4 (C0 : kC p s m AA c code 4 RL D cA) (hI : wI ad) (hX : va_X b L xs s s.heap) (hbl : b < s.heap.size) (hbA : ¬ A b) (w : kW D A s.heap H locs (wl cA ad σ)) (hrel : Rel σ) (h0 : 0 ≤ i) (h3 : i + 3 ≤ (L : Int)) (hL : L ≤ 192) (hl : lv_has ls 4 [(0, .ref b), (1, .ref (ad 0)), (2, .ref (ad 65)), (3, .int (iI i))]) (hcs : cells ≤ room_1.cells ∧ slots ≤ room_1.slots) (hnext : ∀ (σ : Mem) (H : Heap) (locs : List Loc), Rel σ → kW D A s.heap H locs (wl cA ad σ) → W p l e room_1 s m AA below meth c H locs cells slots Q (F0 m 908 ls [])) : W p l e room_1 s m AA below meth c H locs cells slots Q (F0 m 240 ls []) := by
  have hx := C0.1
  have hb := C0.2.1
  refine lv_aload_n hx hb dL_law_240 rfl (lv_at hl 1 rfl) ?_
  refine lv_aload_n hx hb dL_law_241 rfl (lv_at hl 0 rfl) ?_
  refine lv_iload_n hx hb dL_law_242 rfl (lv_at hl 3 rfl) ?_
  refine lv_iconst (v := iI 1) hx hb dL_law_243 rfl ?_
  refine wk_iadd hx hb dL_law_244 ?_
  refine kk_sld C0 hX hbl hbA w (by omega) (by omega) hL dL_law_245 ?_
  refine lv_aload_n hx hb dL_law_246 rfl (lv_at hl 0 rfl) ?_
  refine lv_iload_n hx hb dL_law_247 rfl (lv_at hl 3 rfl) ?_
  refine lv_iconst (v := iI 2) hx hb dL_law_248 rfl ?_
  refine wk_iadd hx hb dL_law_249 ?_
  refine kk_sld C0 hX hbl hbA w (by omega) (by omega) hL dL_law_250 ?_
  have hw := pub_place (inR_of (xs (i + 1).toNat)) (inR_of (xs (i + 2).toNat)) σ hrel
  refine kk_wi (n := 2) (As := [.int (iI (xs (i + 1).toNat).toInt), .int (iI (xs (i + 2).toNat).toInt)]) (rest := []) C0 hI cl_L_31 (ok_X11_place hI hw) w (by decide) sh_0 rfl rfl rfl (Nat.le_of_ble_eq_true rfl) ⟨(Nat.le_of_ble_eq_true rfl), (Nat.le_of_ble_eq_true rfl)⟩ hl.1 dL_law_251 hcs (fun z1 u1 H locs hw w => ?_)
  rw [hw.1] at w
  have hw := hw.2
  refine lv_aload_n hx hb dL_law_254 rfl (lv_at hl 2 rfl) ?_
  refine lv_aload_n hx hb dL_law_255 rfl (lv_at hl 0 rfl) ?_
  refine lv_iload_n hx hb dL_law_256 rfl (lv_at hl 3 rfl) ?_
  refine lv_iconst (v := iI 1) hx hb dL_law_257 rfl ?_
  refine wk_iadd hx hb dL_law_258 ?_
  refine kk_sld C0 hX hbl hbA w (by omega) (by omega) hL dL_law_259 ?_
  refine lv_aload_n hx hb dL_law_260 rfl (lv_at hl 0 rfl) ?_
  refine lv_iload_n hx hb dL_law_261 rfl (lv_at hl 3 rfl) ?_
  refine lv_iconst (v := iI 2) hx hb dL_law_262 rfl ?_
  refine wk_iadd hx hb dL_law_263 ?_
  refine kk_sld C0 hX hbl hbA w (by omega) (by omega) hL dL_law_264 ?_
  refine kk_wi (n := 2) (As := [.int (iI (xs (i + 1).toNat).toInt), .int (iI (xs (i + 2).toNat).toInt)]) (rest := [.int (iI z1)]) C0 hI cl_L_35 (ok_X12_place hI hw) w (by decide) sh_65 rfl rfl rfl (Nat.le_of_ble_eq_true rfl) ⟨(Nat.le_of_ble_eq_true rfl), (Nat.le_of_ble_eq_true rfl)⟩ hl.1 dL_law_265 hcs (fun z2 u2 H locs hw w => ?_)
  rw [hw.1] at w
  have hw := hw.2
  subst hw
  exact lv_icmp_eq (tgt := 908) hx hb dL_law_268 (by decide) (fun _ => hnext _ _ _ hrel w) (fun h => absurd rfl h)
theorem law_5 (C0 : kC p s m AA c code 4 RL D cA) (hI : wI ad) (hX : va_X b L xs s s.heap) (hbl : b < s.heap.size) (hbA : ¬ A b) (w : kW D A s.heap H locs (wl cA ad σ)) (hrel : Rel σ) (h0 : 0 ≤ i) (h3 : i + 3 ≤ (L : Int)) (hL : L ≤ 192) (hl : lv_has ls 4 [(0, .ref b), (1, .ref (ad 0)), (2, .ref (ad 65)), (3, .int (iI i))]) (hcs : cells ≤ room_1.cells ∧ slots ≤ room_1.slots) (hnext : ∀ (σ : Mem) (H : Heap) (locs : List Loc), Rel σ → kW D A s.heap H locs (wl cA ad σ) → W p l e room_1 s m AA below meth c H locs cells slots Q (F0 m 908 ls [])) : W p l e room_1 s m AA below meth c H locs cells slots Q (F0 m 273 ls []) := by
  have hx := C0.1
  have hb := C0.2.1
  refine lv_aload_n hx hb dL_law_273 rfl (lv_at hl 1 rfl) ?_
  refine lv_aload_n hx hb dL_law_274 rfl (lv_at hl 0 rfl) ?_
  refine lv_iload_n hx hb dL_law_275 rfl (lv_at hl 3 rfl) ?_
  refine lv_iconst (v := iI 1) hx hb dL_law_276 rfl ?_
  refine wk_iadd hx hb dL_law_277 ?_
  refine kk_sld C0 hX hbl hbA w (by omega) (by omega) hL dL_law_278 ?_
  refine lv_aload_n hx hb dL_law_279 rfl (lv_at hl 0 rfl) ?_
  refine lv_iload_n hx hb dL_law_280 rfl (lv_at hl 3 rfl) ?_
  refine lv_iconst (v := iI 2) hx hb dL_law_281 rfl ?_
  refine wk_iadd hx hb dL_law_282 ?_
  refine kk_sld C0 hX hbl hbA w (by omega) (by omega) hL dL_law_283 ?_
  have hw := pub_sleeper (inR_of (xs (i + 1).toNat)) (inR_of (xs (i + 2).toNat)) σ hrel
  refine kk_wi (n := 2) (As := [.int (iI (xs (i + 1).toNat).toInt), .int (iI (xs (i + 2).toNat).toInt)]) (rest := []) C0 hI cl_L_36 (ok_X11_sleeper hI hw) w (by decide) sh_0 rfl rfl rfl (Nat.le_of_ble_eq_true rfl) ⟨(Nat.le_of_ble_eq_true rfl), (Nat.le_of_ble_eq_true rfl)⟩ hl.1 dL_law_284 hcs (fun z1 u1 H locs hw w => ?_)
  rw [hw.1] at w
  have hw := hw.2
  refine lv_aload_n hx hb dL_law_287 rfl (lv_at hl 2 rfl) ?_
  refine lv_aload_n hx hb dL_law_288 rfl (lv_at hl 0 rfl) ?_
  refine lv_iload_n hx hb dL_law_289 rfl (lv_at hl 3 rfl) ?_
  refine lv_iconst (v := iI 1) hx hb dL_law_290 rfl ?_
  refine wk_iadd hx hb dL_law_291 ?_
  refine kk_sld C0 hX hbl hbA w (by omega) (by omega) hL dL_law_292 ?_
  refine lv_aload_n hx hb dL_law_293 rfl (lv_at hl 0 rfl) ?_
  refine lv_iload_n hx hb dL_law_294 rfl (lv_at hl 3 rfl) ?_
  refine lv_iconst (v := iI 2) hx hb dL_law_295 rfl ?_
  refine wk_iadd hx hb dL_law_296 ?_
  refine kk_sld C0 hX hbl hbA w (by omega) (by omega) hL dL_law_297 ?_
  refine kk_wi (n := 2) (As := [.int (iI (xs (i + 1).toNat).toInt), .int (iI (xs (i + 2).toNat).toInt)]) (rest := [.int (iI z1)]) C0 hI cl_L_39 (ok_X12_sleeper hI hw) w (by decide) sh_65 rfl rfl rfl (Nat.le_of_ble_eq_true rfl) ⟨(Nat.le_of_ble_eq_true rfl), (Nat.le_of_ble_eq_true rfl)⟩ hl.1 dL_law_298 hcs (fun z2 u2 H locs hw w => ?_)
  rw [hw.1] at w
  have hw := hw.2
  subst hw
  exact lv_icmp_eq (tgt := 908) hx hb dL_law_301 (by decide) (fun _ => hnext _ _ _ hrel w) (fun h => absurd rfl h)
theorem law_6 (C0 : kC p s m AA c code 4 RL D cA) (hI : wI ad) (hX : va_X b L xs s s.heap) (hbl : b < s.heap.size) (hbA : ¬ A b) (w : kW D A s.heap H locs (wl cA ad σ)) (hrel : Rel σ) (h0 : 0 ≤ i) (h3 : i + 3 ≤ (L : Int)) (hL : L ≤ 192) (hl : lv_has ls 4 [(0, .ref b), (1, .ref (ad 0)), (2, .ref (ad 65)), (3, .int (iI i))]) (hcs : cells ≤ room_1.cells ∧ slots ≤ room_1.slots) (hnext : ∀ (σ : Mem) (H : Heap) (locs : List Loc), Rel σ → kW D A s.heap H locs (wl cA ad σ) → W p l e room_1 s m AA below meth c H locs cells slots Q (F0 m 908 ls [])) : W p l e room_1 s m AA below meth c H locs cells slots Q (F0 m 306 ls []) := by
  have hx := C0.1
  have hb := C0.2.1
  refine lv_aload_n hx hb dL_law_306 rfl (lv_at hl 1 rfl) ?_
  refine lv_aload_n hx hb dL_law_307 rfl (lv_at hl 0 rfl) ?_
  refine lv_iload_n hx hb dL_law_308 rfl (lv_at hl 3 rfl) ?_
  refine lv_iconst (v := iI 1) hx hb dL_law_309 rfl ?_
  refine wk_iadd hx hb dL_law_310 ?_
  refine kk_sld C0 hX hbl hbA w (by omega) (by omega) hL dL_law_311 ?_
  have hw := pub_rule (inR_of (xs (i + 1).toNat)) σ hrel
  refine kk_wi (n := 1) (As := [.int (iI (xs (i + 1).toNat).toInt)]) (rest := []) C0 hI cl_L_40 (ok_X11_rule hI hw) w (by decide) sh_0 rfl rfl rfl (Nat.le_of_ble_eq_true rfl) ⟨(Nat.le_of_ble_eq_true rfl), (Nat.le_of_ble_eq_true rfl)⟩ hl.1 dL_law_312 hcs (fun z1 u1 H locs hw w => ?_)
  rw [hw.1] at w
  have hw := hw.2
  refine lv_aload_n hx hb dL_law_315 rfl (lv_at hl 2 rfl) ?_
  refine lv_aload_n hx hb dL_law_316 rfl (lv_at hl 0 rfl) ?_
  refine lv_iload_n hx hb dL_law_317 rfl (lv_at hl 3 rfl) ?_
  refine lv_iconst (v := iI 1) hx hb dL_law_318 rfl ?_
  refine wk_iadd hx hb dL_law_319 ?_
  refine kk_sld C0 hX hbl hbA w (by omega) (by omega) hL dL_law_320 ?_
  refine kk_wi (n := 1) (As := [.int (iI (xs (i + 1).toNat).toInt)]) (rest := [.int (iI z1)]) C0 hI cl_L_43 (ok_X12_rule hI hw) w (by decide) sh_65 rfl rfl rfl (Nat.le_of_ble_eq_true rfl) ⟨(Nat.le_of_ble_eq_true rfl), (Nat.le_of_ble_eq_true rfl)⟩ hl.1 dL_law_321 hcs (fun z2 u2 H locs hw w => ?_)
  rw [hw.1] at w
  have hw := hw.2
  subst hw
  exact lv_icmp_eq (tgt := 908) hx hb dL_law_324 (by decide) (fun _ => hnext _ _ _ hrel w) (fun h => absurd rfl h)
theorem law_7 (C0 : kC p s m AA c code 4 RL D cA) (hI : wI ad) (hX : va_X b L xs s s.heap) (hbl : b < s.heap.size) (hbA : ¬ A b) (w : kW D A s.heap H locs (wl cA ad σ)) (hrel : Rel σ) (h0 : 0 ≤ i) (h3 : i + 3 ≤ (L : Int)) (hL : L ≤ 192) (hl : lv_has ls 4 [(0, .ref b), (1, .ref (ad 0)), (2, .ref (ad 65)), (3, .int (iI i))]) (hcs : cells ≤ room_1.cells ∧ slots ≤ room_1.slots) (hnext : ∀ (σ : Mem) (H : Heap) (locs : List Loc), Rel σ → kW D A s.heap H locs (wl cA ad σ) → W p l e room_1 s m AA below meth c H locs cells slots Q (F0 m 908 ls [])) : W p l e room_1 s m AA below meth c H locs cells slots Q (F0 m 329 ls []) := by
  have hx := C0.1
  have hb := C0.2.1
  refine lv_aload_n hx hb dL_law_329 rfl (lv_at hl 1 rfl) ?_
  refine lv_aload_n hx hb dL_law_330 rfl (lv_at hl 0 rfl) ?_
  refine lv_iload_n hx hb dL_law_331 rfl (lv_at hl 3 rfl) ?_
  refine lv_iconst (v := iI 1) hx hb dL_law_332 rfl ?_
  refine wk_iadd hx hb dL_law_333 ?_
  refine kk_sld C0 hX hbl hbA w (by omega) (by omega) hL dL_law_334 ?_
  have hw := pub_hour (inR_of (xs (i + 1).toNat)) σ hrel
  refine kk_wi (n := 1) (As := [.int (iI (xs (i + 1).toNat).toInt)]) (rest := []) C0 hI cl_L_44 (ok_X11_hour hI hw) w (by decide) sh_0 rfl rfl rfl (Nat.le_of_ble_eq_true rfl) ⟨(Nat.le_of_ble_eq_true rfl), (Nat.le_of_ble_eq_true rfl)⟩ hl.1 dL_law_335 hcs (fun z1 u1 H locs hw w => ?_)
  refine lv_aload_n hx hb dL_law_338 rfl (lv_at hl 2 rfl) ?_
  refine lv_aload_n hx hb dL_law_339 rfl (lv_at hl 0 rfl) ?_
  refine lv_iload_n hx hb dL_law_340 rfl (lv_at hl 3 rfl) ?_
  refine lv_iconst (v := iI 1) hx hb dL_law_341 rfl ?_
  refine wk_iadd hx hb dL_law_342 ?_
  refine kk_sld C0 hX hbl hbA w (by omega) (by omega) hL dL_law_343 ?_
  refine kk_wi (n := 1) (As := [.int (iI (xs (i + 1).toNat).toInt)]) (rest := [.int (iI z1)]) C0 hI cl_L_47 (ok_X12_hour hI hw) w (by decide) sh_65 rfl rfl rfl (Nat.le_of_ble_eq_true rfl) ⟨(Nat.le_of_ble_eq_true rfl), (Nat.le_of_ble_eq_true rfl)⟩ hl.1 dL_law_344 hcs (fun z2 u2 H locs hw w => ?_)
  obtain ⟨rfl, hrel⟩ := hw
  exact lv_icmp_eq (tgt := 908) hx hb dL_law_347 (by decide) (fun _ => hnext _ _ _ hrel w) (fun h => absurd rfl h)
theorem law_8 (C0 : kC p s m AA c code 4 RL D cA) (hI : wI ad) (hX : va_X b L xs s s.heap) (hbl : b < s.heap.size) (hbA : ¬ A b) (w : kW D A s.heap H locs (wl cA ad σ)) (hrel : Rel σ) (h0 : 0 ≤ i) (h3 : i + 3 ≤ (L : Int)) (hL : L ≤ 192) (hl : lv_has ls 4 [(0, .ref b), (1, .ref (ad 0)), (2, .ref (ad 65)), (3, .int (iI i))]) (hcs : cells ≤ room_1.cells ∧ slots ≤ room_1.slots) (hnext : ∀ (σ : Mem) (H : Heap) (locs : List Loc), Rel σ → kW D A s.heap H locs (wl cA ad σ) → W p l e room_1 s m AA below meth c H locs cells slots Q (F0 m 908 ls [])) : W p l e room_1 s m AA below meth c H locs cells slots Q (F0 m 352 ls []) := by
  have hx := C0.1
  have hb := C0.2.1
  refine lv_aload_n hx hb dL_law_352 rfl (lv_at hl 1 rfl) ?_
  refine lv_aload_n hx hb dL_law_353 rfl (lv_at hl 0 rfl) ?_
  refine lv_iload_n hx hb dL_law_354 rfl (lv_at hl 3 rfl) ?_
  refine lv_iconst (v := iI 1) hx hb dL_law_355 rfl ?_
  refine wk_iadd hx hb dL_law_356 ?_
  refine kk_sld C0 hX hbl hbA w (by omega) (by omega) hL dL_law_357 ?_
  have hw := pub_night (inR_of (xs (i + 1).toNat)) σ hrel
  refine kk_wi (n := 1) (As := [.int (iI (xs (i + 1).toNat).toInt)]) (rest := []) C0 hI cl_L_48 (ok_X11_night hI hw) w (by decide) sh_0 rfl rfl rfl (Nat.le_of_ble_eq_true rfl) ⟨(Nat.le_of_ble_eq_true rfl), (Nat.le_of_ble_eq_true rfl)⟩ hl.1 dL_law_358 hcs (fun z1 u1 H locs hw w => ?_)
  refine lv_aload_n hx hb dL_law_361 rfl (lv_at hl 2 rfl) ?_
  refine lv_aload_n hx hb dL_law_362 rfl (lv_at hl 0 rfl) ?_
  refine lv_iload_n hx hb dL_law_363 rfl (lv_at hl 3 rfl) ?_
  refine lv_iconst (v := iI 1) hx hb dL_law_364 rfl ?_
  refine wk_iadd hx hb dL_law_365 ?_
  refine kk_sld C0 hX hbl hbA w (by omega) (by omega) hL dL_law_366 ?_
  refine kk_wi (n := 1) (As := [.int (iI (xs (i + 1).toNat).toInt)]) (rest := [.int (iI z1)]) C0 hI cl_L_51 (ok_X12_night hI hw) w (by decide) sh_65 rfl rfl rfl (Nat.le_of_ble_eq_true rfl) ⟨(Nat.le_of_ble_eq_true rfl), (Nat.le_of_ble_eq_true rfl)⟩ hl.1 dL_law_367 hcs (fun z2 u2 H locs hw w => ?_)
  obtain ⟨rfl, hrel⟩ := hw
  exact lv_icmp_eq (tgt := 908) hx hb dL_law_370 (by decide) (fun _ => hnext _ _ _ hrel w) (fun h => absurd rfl h)
theorem law_9 (C0 : kC p s m AA c code 4 RL D cA) (hI : wI ad) (hX : va_X b L xs s s.heap) (hbl : b < s.heap.size) (hbA : ¬ A b) (w : kW D A s.heap H locs (wl cA ad σ)) (hrel : Rel σ) (h0 : 0 ≤ i) (h3 : i + 3 ≤ (L : Int)) (hL : L ≤ 192) (hl : lv_has ls 4 [(0, .ref b), (1, .ref (ad 0)), (2, .ref (ad 65)), (3, .int (iI i))]) (hcs : cells ≤ room_1.cells ∧ slots ≤ room_1.slots) (hnext : ∀ (σ : Mem) (H : Heap) (locs : List Loc), Rel σ → kW D A s.heap H locs (wl cA ad σ) → W p l e room_1 s m AA below meth c H locs cells slots Q (F0 m 908 ls [])) : W p l e room_1 s m AA below meth c H locs cells slots Q (F0 m 375 ls []) := by
  have hx := C0.1
  have hb := C0.2.1
  refine lv_aload_n hx hb dL_law_375 rfl (lv_at hl 1 rfl) ?_
  refine lv_aload_n hx hb dL_law_376 rfl (lv_at hl 0 rfl) ?_
  refine lv_iload_n hx hb dL_law_377 rfl (lv_at hl 3 rfl) ?_
  refine lv_iconst (v := iI 1) hx hb dL_law_378 rfl ?_
  refine wk_iadd hx hb dL_law_379 ?_
  refine kk_sld C0 hX hbl hbA w (by omega) (by omega) hL dL_law_380 ?_
  have hw := pub_getUp (inR_of (xs (i + 1).toNat)) σ hrel
  refine kk_wi (n := 1) (As := [.int (iI (xs (i + 1).toNat).toInt)]) (rest := []) C0 hI cl_L_52 (ok_X11_getUp hI hw) w (by decide) sh_0 rfl rfl rfl (Nat.le_of_ble_eq_true rfl) ⟨(Nat.le_of_ble_eq_true rfl), (Nat.le_of_ble_eq_true rfl)⟩ hl.1 dL_law_381 hcs (fun z1 u1 H locs hw w => ?_)
  refine lv_aload_n hx hb dL_law_384 rfl (lv_at hl 2 rfl) ?_
  refine lv_aload_n hx hb dL_law_385 rfl (lv_at hl 0 rfl) ?_
  refine lv_iload_n hx hb dL_law_386 rfl (lv_at hl 3 rfl) ?_
  refine lv_iconst (v := iI 1) hx hb dL_law_387 rfl ?_
  refine wk_iadd hx hb dL_law_388 ?_
  refine kk_sld C0 hX hbl hbA w (by omega) (by omega) hL dL_law_389 ?_
  refine kk_wi (n := 1) (As := [.int (iI (xs (i + 1).toNat).toInt)]) (rest := [.int (iI z1)]) C0 hI cl_L_55 (ok_X12_getUp hI hw) w (by decide) sh_65 rfl rfl rfl (Nat.le_of_ble_eq_true rfl) ⟨(Nat.le_of_ble_eq_true rfl), (Nat.le_of_ble_eq_true rfl)⟩ hl.1 dL_law_390 hcs (fun z2 u2 H locs hw w => ?_)
  obtain ⟨rfl, hrel⟩ := hw
  exact lv_icmp_eq (tgt := 908) hx hb dL_law_393 (by decide) (fun _ => hnext _ _ _ hrel w) (fun h => absurd rfl h)
theorem law_10 (C0 : kC p s m AA c code 4 RL D cA) (hI : wI ad) (hX : va_X b L xs s s.heap) (hbl : b < s.heap.size) (hbA : ¬ A b) (w : kW D A s.heap H locs (wl cA ad σ)) (hrel : Rel σ) (h0 : 0 ≤ i) (h3 : i + 3 ≤ (L : Int)) (hL : L ≤ 192) (hl : lv_has ls 4 [(0, .ref b), (1, .ref (ad 0)), (2, .ref (ad 65)), (3, .int (iI i))]) (hcs : cells ≤ room_1.cells ∧ slots ≤ room_1.slots) (hnext : ∀ (σ : Mem) (H : Heap) (locs : List Loc), Rel σ → kW D A s.heap H locs (wl cA ad σ) → W p l e room_1 s m AA below meth c H locs cells slots Q (F0 m 908 ls [])) : W p l e room_1 s m AA below meth c H locs cells slots Q (F0 m 398 ls []) := by
  have hx := C0.1
  have hb := C0.2.1
  refine lv_aload_n hx hb dL_law_398 rfl (lv_at hl 1 rfl) ?_
  refine lv_aload_n hx hb dL_law_399 rfl (lv_at hl 0 rfl) ?_
  refine lv_iload_n hx hb dL_law_400 rfl (lv_at hl 3 rfl) ?_
  refine lv_iconst (v := iI 1) hx hb dL_law_401 rfl ?_
  refine wk_iadd hx hb dL_law_402 ?_
  refine kk_sld C0 hX hbl hbA w (by omega) (by omega) hL dL_law_403 ?_
  have hw := pub_comeIn (inR_of (xs (i + 1).toNat)) σ hrel
  refine kk_wi (n := 1) (As := [.int (iI (xs (i + 1).toNat).toInt)]) (rest := []) C0 hI cl_L_56 (ok_X11_comeIn hI hw) w (by decide) sh_0 rfl rfl rfl (Nat.le_of_ble_eq_true rfl) ⟨(Nat.le_of_ble_eq_true rfl), (Nat.le_of_ble_eq_true rfl)⟩ hl.1 dL_law_404 hcs (fun z1 u1 H locs hw w => ?_)
  refine lv_aload_n hx hb dL_law_407 rfl (lv_at hl 2 rfl) ?_
  refine lv_aload_n hx hb dL_law_408 rfl (lv_at hl 0 rfl) ?_
  refine lv_iload_n hx hb dL_law_409 rfl (lv_at hl 3 rfl) ?_
  refine lv_iconst (v := iI 1) hx hb dL_law_410 rfl ?_
  refine wk_iadd hx hb dL_law_411 ?_
  refine kk_sld C0 hX hbl hbA w (by omega) (by omega) hL dL_law_412 ?_
  refine kk_wi (n := 1) (As := [.int (iI (xs (i + 1).toNat).toInt)]) (rest := [.int (iI z1)]) C0 hI cl_L_59 (ok_X12_comeIn hI hw) w (by decide) sh_65 rfl rfl rfl (Nat.le_of_ble_eq_true rfl) ⟨(Nat.le_of_ble_eq_true rfl), (Nat.le_of_ble_eq_true rfl)⟩ hl.1 dL_law_413 hcs (fun z2 u2 H locs hw w => ?_)
  obtain ⟨rfl, hrel⟩ := hw
  exact lv_icmp_eq (tgt := 908) hx hb dL_law_416 (by decide) (fun _ => hnext _ _ _ hrel w) (fun h => absurd rfl h)
theorem law_11 (C0 : kC p s m AA c code 4 RL D cA) (hI : wI ad) (hX : va_X b L xs s s.heap) (hbl : b < s.heap.size) (hbA : ¬ A b) (w : kW D A s.heap H locs (wl cA ad σ)) (hrel : Rel σ) (h0 : 0 ≤ i) (h3 : i + 3 ≤ (L : Int)) (hL : L ≤ 192) (hl : lv_has ls 4 [(0, .ref b), (1, .ref (ad 0)), (2, .ref (ad 65)), (3, .int (iI i))]) (hcs : cells ≤ room_1.cells ∧ slots ≤ room_1.slots) (hnext : ∀ (σ : Mem) (H : Heap) (locs : List Loc), Rel σ → kW D A s.heap H locs (wl cA ad σ) → W p l e room_1 s m AA below meth c H locs cells slots Q (F0 m 908 ls [])) : W p l e room_1 s m AA below meth c H locs cells slots Q (F0 m 421 ls []) := by
  have hx := C0.1
  have hb := C0.2.1
  refine lv_aload_n hx hb dL_law_421 rfl (lv_at hl 1 rfl) ?_
  refine lv_aload_n hx hb dL_law_422 rfl (lv_at hl 0 rfl) ?_
  refine lv_iload_n hx hb dL_law_423 rfl (lv_at hl 3 rfl) ?_
  refine lv_iconst (v := iI 1) hx hb dL_law_424 rfl ?_
  refine wk_iadd hx hb dL_law_425 ?_
  refine kk_sld C0 hX hbl hbA w (by omega) (by omega) hL dL_law_426 ?_
  have hw := pub_drift (inR_of (xs (i + 1).toNat)) σ hrel
  refine kk_wi (n := 1) (As := [.int (iI (xs (i + 1).toNat).toInt)]) (rest := []) C0 hI cl_L_60 (ok_X11_drift hI hw) w (by decide) sh_0 rfl rfl rfl (Nat.le_of_ble_eq_true rfl) ⟨(Nat.le_of_ble_eq_true rfl), (Nat.le_of_ble_eq_true rfl)⟩ hl.1 dL_law_427 hcs (fun z1 u1 H locs hw w => ?_)
  refine lv_aload_n hx hb dL_law_430 rfl (lv_at hl 2 rfl) ?_
  refine lv_aload_n hx hb dL_law_431 rfl (lv_at hl 0 rfl) ?_
  refine lv_iload_n hx hb dL_law_432 rfl (lv_at hl 3 rfl) ?_
  refine lv_iconst (v := iI 1) hx hb dL_law_433 rfl ?_
  refine wk_iadd hx hb dL_law_434 ?_
  refine kk_sld C0 hX hbl hbA w (by omega) (by omega) hL dL_law_435 ?_
  refine kk_wi (n := 1) (As := [.int (iI (xs (i + 1).toNat).toInt)]) (rest := [.int (iI z1)]) C0 hI cl_L_63 (ok_X12_drift hI hw) w (by decide) sh_65 rfl rfl rfl (Nat.le_of_ble_eq_true rfl) ⟨(Nat.le_of_ble_eq_true rfl), (Nat.le_of_ble_eq_true rfl)⟩ hl.1 dL_law_436 hcs (fun z2 u2 H locs hw w => ?_)
  obtain ⟨rfl, hrel⟩ := hw
  exact lv_icmp_eq (tgt := 908) hx hb dL_law_439 (by decide) (fun _ => hnext _ _ _ hrel w) (fun h => absurd rfl h)
theorem law_12 (C0 : kC p s m AA c code 4 RL D cA) (hI : wI ad) (hX : va_X b L xs s s.heap) (hbl : b < s.heap.size) (hbA : ¬ A b) (w : kW D A s.heap H locs (wl cA ad σ)) (hrel : Rel σ) (h0 : 0 ≤ i) (h3 : i + 3 ≤ (L : Int)) (hL : L ≤ 192) (hl : lv_has ls 4 [(0, .ref b), (1, .ref (ad 0)), (2, .ref (ad 65)), (3, .int (iI i))]) (hcs : cells ≤ room_1.cells ∧ slots ≤ room_1.slots) (hnext : ∀ (σ : Mem) (H : Heap) (locs : List Loc), Rel σ → kW D A s.heap H locs (wl cA ad σ) → W p l e room_1 s m AA below meth c H locs cells slots Q (F0 m 908 ls [])) : W p l e room_1 s m AA below meth c H locs cells slots Q (F0 m 444 ls []) := by
  have hx := C0.1
  have hb := C0.2.1
  refine lv_aload_n hx hb dL_law_444 rfl (lv_at hl 1 rfl) ?_
  refine lv_aload_n hx hb dL_law_445 rfl (lv_at hl 0 rfl) ?_
  refine lv_iload_n hx hb dL_law_446 rfl (lv_at hl 3 rfl) ?_
  refine lv_iconst (v := iI 1) hx hb dL_law_447 rfl ?_
  refine wk_iadd hx hb dL_law_448 ?_
  refine kk_sld C0 hX hbl hbA w (by omega) (by omega) hL dL_law_449 ?_
  have hw := pub_undo (inR_of (xs (i + 1).toNat)) σ hrel
  refine kk_wi (n := 1) (As := [.int (iI (xs (i + 1).toNat).toInt)]) (rest := []) C0 hI cl_L_64 (ok_X11_undo hI hw) w (by decide) sh_0 rfl rfl rfl (Nat.le_of_ble_eq_true rfl) ⟨(Nat.le_of_ble_eq_true rfl), (Nat.le_of_ble_eq_true rfl)⟩ hl.1 dL_law_450 hcs (fun z1 u1 H locs hw w => ?_)
  refine lv_aload_n hx hb dL_law_453 rfl (lv_at hl 2 rfl) ?_
  refine lv_aload_n hx hb dL_law_454 rfl (lv_at hl 0 rfl) ?_
  refine lv_iload_n hx hb dL_law_455 rfl (lv_at hl 3 rfl) ?_
  refine lv_iconst (v := iI 1) hx hb dL_law_456 rfl ?_
  refine wk_iadd hx hb dL_law_457 ?_
  refine kk_sld C0 hX hbl hbA w (by omega) (by omega) hL dL_law_458 ?_
  refine kk_wi (n := 1) (As := [.int (iI (xs (i + 1).toNat).toInt)]) (rest := [.int (iI z1)]) C0 hI cl_L_67 (ok_X12_undo hI hw) w (by decide) sh_65 rfl rfl rfl (Nat.le_of_ble_eq_true rfl) ⟨(Nat.le_of_ble_eq_true rfl), (Nat.le_of_ble_eq_true rfl)⟩ hl.1 dL_law_459 hcs (fun z2 u2 H locs hw w => ?_)
  obtain ⟨rfl, hrel⟩ := hw
  exact lv_icmp_eq (tgt := 908) hx hb dL_law_462 (by decide) (fun _ => hnext _ _ _ hrel w) (fun h => absurd rfl h)
theorem law_13 (C0 : kC p s m AA c code 4 RL D cA) (hI : wI ad) (hX : va_X b L xs s s.heap) (hbl : b < s.heap.size) (hbA : ¬ A b) (w : kW D A s.heap H locs (wl cA ad σ)) (hrel : Rel σ) (h0 : 0 ≤ i) (h3 : i + 3 ≤ (L : Int)) (hL : L ≤ 192) (hl : lv_has ls 4 [(0, .ref b), (1, .ref (ad 0)), (2, .ref (ad 65)), (3, .int (iI i))]) (hcs : cells ≤ room_1.cells ∧ slots ≤ room_1.slots) (hnext : ∀ (σ : Mem) (H : Heap) (locs : List Loc), Rel σ → kW D A s.heap H locs (wl cA ad σ) → W p l e room_1 s m AA below meth c H locs cells slots Q (F0 m 908 ls [])) : W p l e room_1 s m AA below meth c H locs cells slots Q (F0 m 467 ls []) := by
  have hx := C0.1
  have hb := C0.2.1
  refine lv_aload_n hx hb dL_law_467 rfl (lv_at hl 1 rfl) ?_
  refine lv_aload_n hx hb dL_law_468 rfl (lv_at hl 0 rfl) ?_
  refine lv_iload_n hx hb dL_law_469 rfl (lv_at hl 3 rfl) ?_
  refine lv_iconst (v := iI 1) hx hb dL_law_470 rfl ?_
  refine wk_iadd hx hb dL_law_471 ?_
  refine kk_sld C0 hX hbl hbA w (by omega) (by omega) hL dL_law_472 ?_
  have hw := pub_firstAwake (inR_of (xs (i + 1).toNat)) σ hrel
  refine kk_wi (n := 1) (As := [.int (iI (xs (i + 1).toNat).toInt)]) (rest := []) C0 hI cl_L_68 (ok_X11_firstAwake hI hw) w (by decide) sh_0 rfl rfl rfl (Nat.le_of_ble_eq_true rfl) ⟨(Nat.le_of_ble_eq_true rfl), (Nat.le_of_ble_eq_true rfl)⟩ hl.1 dL_law_473 hcs (fun z1 u1 H locs hw w => ?_)
  refine lv_aload_n hx hb dL_law_476 rfl (lv_at hl 2 rfl) ?_
  refine lv_aload_n hx hb dL_law_477 rfl (lv_at hl 0 rfl) ?_
  refine lv_iload_n hx hb dL_law_478 rfl (lv_at hl 3 rfl) ?_
  refine lv_iconst (v := iI 1) hx hb dL_law_479 rfl ?_
  refine wk_iadd hx hb dL_law_480 ?_
  refine kk_sld C0 hX hbl hbA w (by omega) (by omega) hL dL_law_481 ?_
  refine kk_wi (n := 1) (As := [.int (iI (xs (i + 1).toNat).toInt)]) (rest := [.int (iI z1)]) C0 hI cl_L_71 (ok_X12_firstAwake hI hw) w (by decide) sh_65 rfl rfl rfl (Nat.le_of_ble_eq_true rfl) ⟨(Nat.le_of_ble_eq_true rfl), (Nat.le_of_ble_eq_true rfl)⟩ hl.1 dL_law_482 hcs (fun z2 u2 H locs hw w => ?_)
  obtain ⟨rfl, hrel⟩ := hw
  exact lv_icmp_eq (tgt := 908) hx hb dL_law_485 (by decide) (fun _ => hnext _ _ _ hrel w) (fun h => absurd rfl h)
theorem law_14 (C0 : kC p s m AA c code 4 RL D cA) (hI : wI ad) (hX : va_X b L xs s s.heap) (hbl : b < s.heap.size) (hbA : ¬ A b) (w : kW D A s.heap H locs (wl cA ad σ)) (hrel : Rel σ) (h0 : 0 ≤ i) (h3 : i + 3 ≤ (L : Int)) (hL : L ≤ 192) (hl : lv_has ls 4 [(0, .ref b), (1, .ref (ad 0)), (2, .ref (ad 65)), (3, .int (iI i))]) (hcs : cells ≤ room_1.cells ∧ slots ≤ room_1.slots) (hnext : ∀ (σ : Mem) (H : Heap) (locs : List Loc), Rel σ → kW D A s.heap H locs (wl cA ad σ) → W p l e room_1 s m AA below meth c H locs cells slots Q (F0 m 908 ls [])) : W p l e room_1 s m AA below meth c H locs cells slots Q (F0 m 490 ls []) := by
  have hx := C0.1
  have hb := C0.2.1
  refine lv_aload_n hx hb dL_law_490 rfl (lv_at hl 1 rfl) ?_
  refine lv_aload_n hx hb dL_law_491 rfl (lv_at hl 0 rfl) ?_
  refine lv_iload_n hx hb dL_law_492 rfl (lv_at hl 3 rfl) ?_
  refine lv_iconst (v := iI 1) hx hb dL_law_493 rfl ?_
  refine wk_iadd hx hb dL_law_494 ?_
  refine kk_sld C0 hX hbl hbA w (by omega) (by omega) hL dL_law_495 ?_
  refine lv_aload_n hx hb dL_law_496 rfl (lv_at hl 0 rfl) ?_
  refine lv_iload_n hx hb dL_law_497 rfl (lv_at hl 3 rfl) ?_
  refine lv_iconst (v := iI 2) hx hb dL_law_498 rfl ?_
  refine wk_iadd hx hb dL_law_499 ?_
  refine kk_sld C0 hX hbl hbA w (by omega) (by omega) hL dL_law_500 ?_
  have hw := pub_turnsFor (inR_of (xs (i + 1).toNat)) (inR_of (xs (i + 2).toNat)) σ hrel
  refine kk_wi (n := 2) (As := [.int (iI (xs (i + 1).toNat).toInt), .int (iI (xs (i + 2).toNat).toInt)]) (rest := []) C0 hI cl_L_72 (ok_X11_turnsFor hI hw) w (by decide) sh_0 rfl rfl rfl (Nat.le_of_ble_eq_true rfl) ⟨(Nat.le_of_ble_eq_true rfl), (Nat.le_of_ble_eq_true rfl)⟩ hl.1 dL_law_501 hcs (fun z1 u1 H locs hw w => ?_)
  refine lv_aload_n hx hb dL_law_504 rfl (lv_at hl 2 rfl) ?_
  refine lv_aload_n hx hb dL_law_505 rfl (lv_at hl 0 rfl) ?_
  refine lv_iload_n hx hb dL_law_506 rfl (lv_at hl 3 rfl) ?_
  refine lv_iconst (v := iI 1) hx hb dL_law_507 rfl ?_
  refine wk_iadd hx hb dL_law_508 ?_
  refine kk_sld C0 hX hbl hbA w (by omega) (by omega) hL dL_law_509 ?_
  refine lv_aload_n hx hb dL_law_510 rfl (lv_at hl 0 rfl) ?_
  refine lv_iload_n hx hb dL_law_511 rfl (lv_at hl 3 rfl) ?_
  refine lv_iconst (v := iI 2) hx hb dL_law_512 rfl ?_
  refine wk_iadd hx hb dL_law_513 ?_
  refine kk_sld C0 hX hbl hbA w (by omega) (by omega) hL dL_law_514 ?_
  refine kk_wi (n := 2) (As := [.int (iI (xs (i + 1).toNat).toInt), .int (iI (xs (i + 2).toNat).toInt)]) (rest := [.int (iI z1)]) C0 hI cl_L_75 (ok_X12_turnsFor hI hw) w (by decide) sh_65 rfl rfl rfl (Nat.le_of_ble_eq_true rfl) ⟨(Nat.le_of_ble_eq_true rfl), (Nat.le_of_ble_eq_true rfl)⟩ hl.1 dL_law_515 hcs (fun z2 u2 H locs hw w => ?_)
  obtain ⟨rfl, hrel⟩ := hw
  exact lv_icmp_eq (tgt := 908) hx hb dL_law_518 (by decide) (fun _ => hnext _ _ _ hrel w) (fun h => absurd rfl h)
theorem law_15 (C0 : kC p s m AA c code 4 RL D cA) (hI : wI ad) (hX : va_X b L xs s s.heap) (hbl : b < s.heap.size) (hbA : ¬ A b) (w : kW D A s.heap H locs (wl cA ad σ)) (hrel : Rel σ) (h0 : 0 ≤ i) (h3 : i + 3 ≤ (L : Int)) (hL : L ≤ 192) (hl : lv_has ls 4 [(0, .ref b), (1, .ref (ad 0)), (2, .ref (ad 65)), (3, .int (iI i))]) (hcs : cells ≤ room_1.cells ∧ slots ≤ room_1.slots) (hnext : ∀ (σ : Mem) (H : Heap) (locs : List Loc), Rel σ → kW D A s.heap H locs (wl cA ad σ) → W p l e room_1 s m AA below meth c H locs cells slots Q (F0 m 908 ls [])) : W p l e room_1 s m AA below meth c H locs cells slots Q (F0 m 523 ls []) := by
  have hx := C0.1
  have hb := C0.2.1
  refine lv_aload_n hx hb dL_law_523 rfl (lv_at hl 1 rfl) ?_
  refine lv_aload_n hx hb dL_law_524 rfl (lv_at hl 0 rfl) ?_
  refine lv_iload_n hx hb dL_law_525 rfl (lv_at hl 3 rfl) ?_
  refine lv_iconst (v := iI 1) hx hb dL_law_526 rfl ?_
  refine wk_iadd hx hb dL_law_527 ?_
  refine kk_sld C0 hX hbl hbA w (by omega) (by omega) hL dL_law_528 ?_
  refine lv_aload_n hx hb dL_law_529 rfl (lv_at hl 0 rfl) ?_
  refine lv_iload_n hx hb dL_law_530 rfl (lv_at hl 3 rfl) ?_
  refine lv_iconst (v := iI 2) hx hb dL_law_531 rfl ?_
  refine wk_iadd hx hb dL_law_532 ?_
  refine kk_sld C0 hX hbl hbA w (by omega) (by omega) hL dL_law_533 ?_
  have hw := pub_rhyme (inR_of (xs (i + 1).toNat)) (inR_of (xs (i + 2).toNat)) σ hrel
  refine kk_wi (n := 2) (As := [.int (iI (xs (i + 1).toNat).toInt), .int (iI (xs (i + 2).toNat).toInt)]) (rest := []) C0 hI cl_L_76 (ok_X11_rhyme hI hw) w (by decide) sh_0 rfl rfl rfl (Nat.le_of_ble_eq_true rfl) ⟨(Nat.le_of_ble_eq_true rfl), (Nat.le_of_ble_eq_true rfl)⟩ hl.1 dL_law_534 hcs (fun z1 u1 H locs hw w => ?_)
  refine lv_aload_n hx hb dL_law_537 rfl (lv_at hl 2 rfl) ?_
  refine lv_aload_n hx hb dL_law_538 rfl (lv_at hl 0 rfl) ?_
  refine lv_iload_n hx hb dL_law_539 rfl (lv_at hl 3 rfl) ?_
  refine lv_iconst (v := iI 1) hx hb dL_law_540 rfl ?_
  refine wk_iadd hx hb dL_law_541 ?_
  refine kk_sld C0 hX hbl hbA w (by omega) (by omega) hL dL_law_542 ?_
  refine lv_aload_n hx hb dL_law_543 rfl (lv_at hl 0 rfl) ?_
  refine lv_iload_n hx hb dL_law_544 rfl (lv_at hl 3 rfl) ?_
  refine lv_iconst (v := iI 2) hx hb dL_law_545 rfl ?_
  refine wk_iadd hx hb dL_law_546 ?_
  refine kk_sld C0 hX hbl hbA w (by omega) (by omega) hL dL_law_547 ?_
  refine kk_wi (n := 2) (As := [.int (iI (xs (i + 1).toNat).toInt), .int (iI (xs (i + 2).toNat).toInt)]) (rest := [.int (iI z1)]) C0 hI cl_L_79 (ok_X12_rhyme hI hw) w (by decide) sh_65 rfl rfl rfl (Nat.le_of_ble_eq_true rfl) ⟨(Nat.le_of_ble_eq_true rfl), (Nat.le_of_ble_eq_true rfl)⟩ hl.1 dL_law_548 hcs (fun z2 u2 H locs hw w => ?_)
  obtain ⟨rfl, hrel⟩ := hw
  exact lv_icmp_eq (tgt := 908) hx hb dL_law_551 (by decide) (fun _ => hnext _ _ _ hrel w) (fun h => absurd rfl h)
theorem law_16 (C0 : kC p s m AA c code 4 RL D cA) (hI : wI ad) (hX : va_X b L xs s s.heap) (hbl : b < s.heap.size) (hbA : ¬ A b) (w : kW D A s.heap H locs (wl cA ad σ)) (hrel : Rel σ) (h0 : 0 ≤ i) (h3 : i + 3 ≤ (L : Int)) (hL : L ≤ 192) (hl : lv_has ls 4 [(0, .ref b), (1, .ref (ad 0)), (2, .ref (ad 65)), (3, .int (iI i))]) (hcs : cells ≤ room_1.cells ∧ slots ≤ room_1.slots) (hnext : ∀ (σ : Mem) (H : Heap) (locs : List Loc), Rel σ → kW D A s.heap H locs (wl cA ad σ) → W p l e room_1 s m AA below meth c H locs cells slots Q (F0 m 908 ls [])) : W p l e room_1 s m AA below meth c H locs cells slots Q (F0 m 556 ls []) := by
  have hx := C0.1
  have hb := C0.2.1
  refine lv_aload_n hx hb dL_law_556 rfl (lv_at hl 1 rfl) ?_
  refine lv_aload_n hx hb dL_law_557 rfl (lv_at hl 0 rfl) ?_
  refine lv_iload_n hx hb dL_law_558 rfl (lv_at hl 3 rfl) ?_
  refine lv_iconst (v := iI 1) hx hb dL_law_559 rfl ?_
  refine wk_iadd hx hb dL_law_560 ?_
  refine kk_sld C0 hX hbl hbA w (by omega) (by omega) hL dL_law_561 ?_
  refine lv_aload_n hx hb dL_law_562 rfl (lv_at hl 0 rfl) ?_
  refine lv_iload_n hx hb dL_law_563 rfl (lv_at hl 3 rfl) ?_
  refine lv_iconst (v := iI 2) hx hb dL_law_564 rfl ?_
  refine wk_iadd hx hb dL_law_565 ?_
  refine kk_sld C0 hX hbl hbA w (by omega) (by omega) hL dL_law_566 ?_
  have hw := pub_laid (inR_of (xs (i + 1).toNat)) (inR_of (xs (i + 2).toNat)) σ hrel
  refine kk_wi (n := 2) (As := [.int (iI (xs (i + 1).toNat).toInt), .int (iI (xs (i + 2).toNat).toInt)]) (rest := []) C0 hI cl_L_80 (ok_X11_laid hI hw) w (by decide) sh_0 rfl rfl rfl (Nat.le_of_ble_eq_true rfl) ⟨(Nat.le_of_ble_eq_true rfl), (Nat.le_of_ble_eq_true rfl)⟩ hl.1 dL_law_567 hcs (fun z1 u1 H locs hw w => ?_)
  refine lv_aload_n hx hb dL_law_570 rfl (lv_at hl 2 rfl) ?_
  refine lv_aload_n hx hb dL_law_571 rfl (lv_at hl 0 rfl) ?_
  refine lv_iload_n hx hb dL_law_572 rfl (lv_at hl 3 rfl) ?_
  refine lv_iconst (v := iI 1) hx hb dL_law_573 rfl ?_
  refine wk_iadd hx hb dL_law_574 ?_
  refine kk_sld C0 hX hbl hbA w (by omega) (by omega) hL dL_law_575 ?_
  refine lv_aload_n hx hb dL_law_576 rfl (lv_at hl 0 rfl) ?_
  refine lv_iload_n hx hb dL_law_577 rfl (lv_at hl 3 rfl) ?_
  refine lv_iconst (v := iI 2) hx hb dL_law_578 rfl ?_
  refine wk_iadd hx hb dL_law_579 ?_
  refine kk_sld C0 hX hbl hbA w (by omega) (by omega) hL dL_law_580 ?_
  refine kk_wi (n := 2) (As := [.int (iI (xs (i + 1).toNat).toInt), .int (iI (xs (i + 2).toNat).toInt)]) (rest := [.int (iI z1)]) C0 hI cl_L_83 (ok_X12_laid hI hw) w (by decide) sh_65 rfl rfl rfl (Nat.le_of_ble_eq_true rfl) ⟨(Nat.le_of_ble_eq_true rfl), (Nat.le_of_ble_eq_true rfl)⟩ hl.1 dL_law_581 hcs (fun z2 u2 H locs hw w => ?_)
  obtain ⟨rfl, hrel⟩ := hw
  exact lv_icmp_eq (tgt := 908) hx hb dL_law_584 (by decide) (fun _ => hnext _ _ _ hrel w) (fun h => absurd rfl h)
theorem law_17 (C0 : kC p s m AA c code 4 RL D cA) (hI : wI ad) (hX : va_X b L xs s s.heap) (hbl : b < s.heap.size) (hbA : ¬ A b) (w : kW D A s.heap H locs (wl cA ad σ)) (hrel : Rel σ) (h0 : 0 ≤ i) (h3 : i + 3 ≤ (L : Int)) (hL : L ≤ 192) (hl : lv_has ls 4 [(0, .ref b), (1, .ref (ad 0)), (2, .ref (ad 65)), (3, .int (iI i))]) (hcs : cells ≤ room_1.cells ∧ slots ≤ room_1.slots) (hnext : ∀ (σ : Mem) (H : Heap) (locs : List Loc), Rel σ → kW D A s.heap H locs (wl cA ad σ) → W p l e room_1 s m AA below meth c H locs cells slots Q (F0 m 908 ls [])) : W p l e room_1 s m AA below meth c H locs cells slots Q (F0 m 589 ls []) := by
  have hx := C0.1
  have hb := C0.2.1
  refine lv_aload_n hx hb dL_law_589 rfl (lv_at hl 1 rfl) ?_
  refine lv_aload_n hx hb dL_law_590 rfl (lv_at hl 0 rfl) ?_
  refine lv_iload_n hx hb dL_law_591 rfl (lv_at hl 3 rfl) ?_
  refine lv_iconst (v := iI 1) hx hb dL_law_592 rfl ?_
  refine wk_iadd hx hb dL_law_593 ?_
  refine kk_sld C0 hX hbl hbA w (by omega) (by omega) hL dL_law_594 ?_
  have hw := pub_change (inR_of (xs (i + 1).toNat)) σ hrel
  refine kk_wi (n := 1) (As := [.int (iI (xs (i + 1).toNat).toInt)]) (rest := []) C0 hI cl_L_84 (ok_X11_change hI hw) w (by decide) sh_0 rfl rfl rfl (Nat.le_of_ble_eq_true rfl) ⟨(Nat.le_of_ble_eq_true rfl), (Nat.le_of_ble_eq_true rfl)⟩ hl.1 dL_law_595 hcs (fun z1 u1 H locs hw w => ?_)
  refine lv_aload_n hx hb dL_law_598 rfl (lv_at hl 2 rfl) ?_
  refine lv_aload_n hx hb dL_law_599 rfl (lv_at hl 0 rfl) ?_
  refine lv_iload_n hx hb dL_law_600 rfl (lv_at hl 3 rfl) ?_
  refine lv_iconst (v := iI 1) hx hb dL_law_601 rfl ?_
  refine wk_iadd hx hb dL_law_602 ?_
  refine kk_sld C0 hX hbl hbA w (by omega) (by omega) hL dL_law_603 ?_
  refine kk_wi (n := 1) (As := [.int (iI (xs (i + 1).toNat).toInt)]) (rest := [.int (iI z1)]) C0 hI cl_L_87 (ok_X12_change hI hw) w (by decide) sh_65 rfl rfl rfl (Nat.le_of_ble_eq_true rfl) ⟨(Nat.le_of_ble_eq_true rfl), (Nat.le_of_ble_eq_true rfl)⟩ hl.1 dL_law_604 hcs (fun z2 u2 H locs hw w => ?_)
  obtain ⟨rfl, hrel⟩ := hw
  exact lv_icmp_eq (tgt := 908) hx hb dL_law_607 (by decide) (fun _ => hnext _ _ _ hrel w) (fun h => absurd rfl h)
theorem law_18 (C0 : kC p s m AA c code 4 RL D cA) (hI : wI ad) (hX : va_X b L xs s s.heap) (hbl : b < s.heap.size) (hbA : ¬ A b) (w : kW D A s.heap H locs (wl cA ad σ)) (hrel : Rel σ) (h0 : 0 ≤ i) (h3 : i + 3 ≤ (L : Int)) (hL : L ≤ 192) (hl : lv_has ls 4 [(0, .ref b), (1, .ref (ad 0)), (2, .ref (ad 65)), (3, .int (iI i))]) (hcs : cells ≤ room_1.cells ∧ slots ≤ room_1.slots) (hnext : ∀ (σ : Mem) (H : Heap) (locs : List Loc), Rel σ → kW D A s.heap H locs (wl cA ad σ) → W p l e room_1 s m AA below meth c H locs cells slots Q (F0 m 908 ls [])) : W p l e room_1 s m AA below meth c H locs cells slots Q (F0 m 612 ls []) := by
  have hx := C0.1
  have hb := C0.2.1
  refine lv_aload_n hx hb dL_law_612 rfl (lv_at hl 1 rfl) ?_
  refine lv_aload_n hx hb dL_law_613 rfl (lv_at hl 0 rfl) ?_
  refine lv_iload_n hx hb dL_law_614 rfl (lv_at hl 3 rfl) ?_
  refine lv_iconst (v := iI 1) hx hb dL_law_615 rfl ?_
  refine wk_iadd hx hb dL_law_616 ?_
  refine kk_sld C0 hX hbl hbA w (by omega) (by omega) hL dL_law_617 ?_
  have hw := pub_steady (inR_of (xs (i + 1).toNat)) σ hrel
  refine kk_wi (n := 1) (As := [.int (iI (xs (i + 1).toNat).toInt)]) (rest := []) C0 hI cl_L_88 (ok_X11_steady hI hw) w (by decide) sh_0 rfl rfl rfl (Nat.le_of_ble_eq_true rfl) ⟨(Nat.le_of_ble_eq_true rfl), (Nat.le_of_ble_eq_true rfl)⟩ hl.1 dL_law_618 hcs (fun z1 u1 H locs hw w => ?_)
  refine lv_aload_n hx hb dL_law_621 rfl (lv_at hl 2 rfl) ?_
  refine lv_aload_n hx hb dL_law_622 rfl (lv_at hl 0 rfl) ?_
  refine lv_iload_n hx hb dL_law_623 rfl (lv_at hl 3 rfl) ?_
  refine lv_iconst (v := iI 1) hx hb dL_law_624 rfl ?_
  refine wk_iadd hx hb dL_law_625 ?_
  refine kk_sld C0 hX hbl hbA w (by omega) (by omega) hL dL_law_626 ?_
  refine kk_wi (n := 1) (As := [.int (iI (xs (i + 1).toNat).toInt)]) (rest := [.int (iI z1)]) C0 hI cl_L_91 (ok_X12_steady hI hw) w (by decide) sh_65 rfl rfl rfl (Nat.le_of_ble_eq_true rfl) ⟨(Nat.le_of_ble_eq_true rfl), (Nat.le_of_ble_eq_true rfl)⟩ hl.1 dL_law_627 hcs (fun z2 u2 H locs hw w => ?_)
  obtain ⟨rfl, hrel⟩ := hw
  exact lv_icmp_eq (tgt := 908) hx hb dL_law_630 (by decide) (fun _ => hnext _ _ _ hrel w) (fun h => absurd rfl h)
theorem law_19 (C0 : kC p s m AA c code 4 RL D cA) (hI : wI ad) (hX : va_X b L xs s s.heap) (hbl : b < s.heap.size) (hbA : ¬ A b) (w : kW D A s.heap H locs (wl cA ad σ)) (hrel : Rel σ) (h0 : 0 ≤ i) (h3 : i + 3 ≤ (L : Int)) (hL : L ≤ 192) (hl : lv_has ls 4 [(0, .ref b), (1, .ref (ad 0)), (2, .ref (ad 65)), (3, .int (iI i))]) (hcs : cells ≤ room_1.cells ∧ slots ≤ room_1.slots) (hnext : ∀ (σ : Mem) (H : Heap) (locs : List Loc), Rel σ → kW D A s.heap H locs (wl cA ad σ) → W p l e room_1 s m AA below meth c H locs cells slots Q (F0 m 908 ls [])) : W p l e room_1 s m AA below meth c H locs cells slots Q (F0 m 635 ls []) := by
  have hx := C0.1
  have hb := C0.2.1
  refine lv_aload_n hx hb dL_law_635 rfl (lv_at hl 1 rfl) ?_
  refine lv_aload_n hx hb dL_law_636 rfl (lv_at hl 0 rfl) ?_
  refine lv_iload_n hx hb dL_law_637 rfl (lv_at hl 3 rfl) ?_
  refine lv_iconst (v := iI 1) hx hb dL_law_638 rfl ?_
  refine wk_iadd hx hb dL_law_639 ?_
  refine kk_sld C0 hX hbl hbA w (by omega) (by omega) hL dL_law_640 ?_
  have hw := pub_twoBeds (inR_of (xs (i + 1).toNat)) σ hrel
  refine kk_wi (n := 1) (As := [.int (iI (xs (i + 1).toNat).toInt)]) (rest := []) C0 hI cl_L_92 (ok_X11_twoBeds hI hw) w (by decide) sh_0 rfl rfl rfl (Nat.le_of_ble_eq_true rfl) ⟨(Nat.le_of_ble_eq_true rfl), (Nat.le_of_ble_eq_true rfl)⟩ hl.1 dL_law_641 hcs (fun z1 u1 H locs hw w => ?_)
  rw [hw.1] at w
  have hw := hw.2
  refine lv_aload_n hx hb dL_law_644 rfl (lv_at hl 2 rfl) ?_
  refine lv_aload_n hx hb dL_law_645 rfl (lv_at hl 0 rfl) ?_
  refine lv_iload_n hx hb dL_law_646 rfl (lv_at hl 3 rfl) ?_
  refine lv_iconst (v := iI 1) hx hb dL_law_647 rfl ?_
  refine wk_iadd hx hb dL_law_648 ?_
  refine kk_sld C0 hX hbl hbA w (by omega) (by omega) hL dL_law_649 ?_
  refine kk_wi (n := 1) (As := [.int (iI (xs (i + 1).toNat).toInt)]) (rest := [.int (iI z1)]) C0 hI cl_L_95 (ok_X12_twoBeds hI hw) w (by decide) sh_65 rfl rfl rfl (Nat.le_of_ble_eq_true rfl) ⟨(Nat.le_of_ble_eq_true rfl), (Nat.le_of_ble_eq_true rfl)⟩ hl.1 dL_law_650 hcs (fun z2 u2 H locs hw w => ?_)
  rw [hw.1] at w
  have hw := hw.2
  subst hw
  exact lv_icmp_eq (tgt := 908) hx hb dL_law_653 (by decide) (fun _ => hnext _ _ _ hrel w) (fun h => absurd rfl h)
theorem law_20 (C0 : kC p s m AA c code 4 RL D cA) (hI : wI ad) (hX : va_X b L xs s s.heap) (hbl : b < s.heap.size) (hbA : ¬ A b) (w : kW D A s.heap H locs (wl cA ad σ)) (hrel : Rel σ) (h0 : 0 ≤ i) (h3 : i + 3 ≤ (L : Int)) (hL : L ≤ 192) (hl : lv_has ls 4 [(0, .ref b), (1, .ref (ad 0)), (2, .ref (ad 65)), (3, .int (iI i))]) (hcs : cells ≤ room_1.cells ∧ slots ≤ room_1.slots) (hnext : ∀ (σ : Mem) (H : Heap) (locs : List Loc), Rel σ → kW D A s.heap H locs (wl cA ad σ) → W p l e room_1 s m AA below meth c H locs cells slots Q (F0 m 908 ls [])) : W p l e room_1 s m AA below meth c H locs cells slots Q (F0 m 658 ls []) := by
  have hx := C0.1
  have hb := C0.2.1
  refine lv_aload_n hx hb dL_law_658 rfl (lv_at hl 1 rfl) ?_
  refine lv_aload_n hx hb dL_law_659 rfl (lv_at hl 0 rfl) ?_
  refine lv_iload_n hx hb dL_law_660 rfl (lv_at hl 3 rfl) ?_
  refine lv_iconst (v := iI 1) hx hb dL_law_661 rfl ?_
  refine wk_iadd hx hb dL_law_662 ?_
  refine kk_sld C0 hX hbl hbA w (by omega) (by omega) hL dL_law_663 ?_
  refine lv_aload_n hx hb dL_law_664 rfl (lv_at hl 0 rfl) ?_
  refine lv_iload_n hx hb dL_law_665 rfl (lv_at hl 3 rfl) ?_
  refine lv_iconst (v := iI 2) hx hb dL_law_666 rfl ?_
  refine wk_iadd hx hb dL_law_667 ?_
  refine kk_sld C0 hX hbl hbA w (by omega) (by omega) hL dL_law_668 ?_
  have hw := pub_nobodyUp (inR_of (xs (i + 1).toNat)) (inR_of (xs (i + 2).toNat)) σ hrel
  refine kk_wi (n := 2) (As := [.int (iI (xs (i + 1).toNat).toInt), .int (iI (xs (i + 2).toNat).toInt)]) (rest := []) C0 hI cl_L_96 (ok_X11_nobodyUp hI hw) w (by decide) sh_0 rfl rfl rfl (Nat.le_of_ble_eq_true rfl) ⟨(Nat.le_of_ble_eq_true rfl), (Nat.le_of_ble_eq_true rfl)⟩ hl.1 dL_law_669 hcs (fun z1 u1 H locs hw w => ?_)
  rw [hw.1] at w
  have hw := hw.2
  refine lv_aload_n hx hb dL_law_672 rfl (lv_at hl 2 rfl) ?_
  refine lv_aload_n hx hb dL_law_673 rfl (lv_at hl 0 rfl) ?_
  refine lv_iload_n hx hb dL_law_674 rfl (lv_at hl 3 rfl) ?_
  refine lv_iconst (v := iI 1) hx hb dL_law_675 rfl ?_
  refine wk_iadd hx hb dL_law_676 ?_
  refine kk_sld C0 hX hbl hbA w (by omega) (by omega) hL dL_law_677 ?_
  refine lv_aload_n hx hb dL_law_678 rfl (lv_at hl 0 rfl) ?_
  refine lv_iload_n hx hb dL_law_679 rfl (lv_at hl 3 rfl) ?_
  refine lv_iconst (v := iI 2) hx hb dL_law_680 rfl ?_
  refine wk_iadd hx hb dL_law_681 ?_
  refine kk_sld C0 hX hbl hbA w (by omega) (by omega) hL dL_law_682 ?_
  refine kk_wi (n := 2) (As := [.int (iI (xs (i + 1).toNat).toInt), .int (iI (xs (i + 2).toNat).toInt)]) (rest := [.int (iI z1)]) C0 hI cl_L_99 (ok_X12_nobodyUp hI hw) w (by decide) sh_65 rfl rfl rfl (Nat.le_of_ble_eq_true rfl) ⟨(Nat.le_of_ble_eq_true rfl), (Nat.le_of_ble_eq_true rfl)⟩ hl.1 dL_law_683 hcs (fun z2 u2 H locs hw w => ?_)
  rw [hw.1] at w
  have hw := hw.2
  subst hw
  exact lv_icmp_eq (tgt := 908) hx hb dL_law_686 (by decide) (fun _ => hnext _ _ _ hrel w) (fun h => absurd rfl h)
theorem law_21 (C0 : kC p s m AA c code 4 RL D cA) (hI : wI ad) (hX : va_X b L xs s s.heap) (hbl : b < s.heap.size) (hbA : ¬ A b) (w : kW D A s.heap H locs (wl cA ad σ)) (hrel : Rel σ) (h0 : 0 ≤ i) (h3 : i + 3 ≤ (L : Int)) (hL : L ≤ 192) (hl : lv_has ls 4 [(0, .ref b), (1, .ref (ad 0)), (2, .ref (ad 65)), (3, .int (iI i))]) (hcs : cells ≤ room_1.cells ∧ slots ≤ room_1.slots) (hnext : ∀ (σ : Mem) (H : Heap) (locs : List Loc), Rel σ → kW D A s.heap H locs (wl cA ad σ) → W p l e room_1 s m AA below meth c H locs cells slots Q (F0 m 908 ls [])) : W p l e room_1 s m AA below meth c H locs cells slots Q (F0 m 691 ls []) := by
  have hx := C0.1
  have hb := C0.2.1
  refine lv_aload_n hx hb dL_law_691 rfl (lv_at hl 1 rfl) ?_
  refine lv_aload_n hx hb dL_law_692 rfl (lv_at hl 0 rfl) ?_
  refine lv_iload_n hx hb dL_law_693 rfl (lv_at hl 3 rfl) ?_
  refine lv_iconst (v := iI 1) hx hb dL_law_694 rfl ?_
  refine wk_iadd hx hb dL_law_695 ?_
  refine kk_sld C0 hX hbl hbA w (by omega) (by omega) hL dL_law_696 ?_
  refine lv_aload_n hx hb dL_law_697 rfl (lv_at hl 0 rfl) ?_
  refine lv_iload_n hx hb dL_law_698 rfl (lv_at hl 3 rfl) ?_
  refine lv_iconst (v := iI 2) hx hb dL_law_699 rfl ?_
  refine wk_iadd hx hb dL_law_700 ?_
  refine kk_sld C0 hX hbl hbA w (by omega) (by omega) hL dL_law_701 ?_
  have hw := pub_morning (inR_of (xs (i + 1).toNat)) (inR_of (xs (i + 2).toNat)) σ hrel
  refine kk_wi (n := 2) (As := [.int (iI (xs (i + 1).toNat).toInt), .int (iI (xs (i + 2).toNat).toInt)]) (rest := []) C0 hI cl_L_100 (ok_X11_morning hI hw) w (by decide) sh_0 rfl rfl rfl (Nat.le_of_ble_eq_true rfl) ⟨(Nat.le_of_ble_eq_true rfl), (Nat.le_of_ble_eq_true rfl)⟩ hl.1 dL_law_702 hcs (fun z1 u1 H locs hw w => ?_)
  refine lv_aload_n hx hb dL_law_705 rfl (lv_at hl 2 rfl) ?_
  refine lv_aload_n hx hb dL_law_706 rfl (lv_at hl 0 rfl) ?_
  refine lv_iload_n hx hb dL_law_707 rfl (lv_at hl 3 rfl) ?_
  refine lv_iconst (v := iI 1) hx hb dL_law_708 rfl ?_
  refine wk_iadd hx hb dL_law_709 ?_
  refine kk_sld C0 hX hbl hbA w (by omega) (by omega) hL dL_law_710 ?_
  refine lv_aload_n hx hb dL_law_711 rfl (lv_at hl 0 rfl) ?_
  refine lv_iload_n hx hb dL_law_712 rfl (lv_at hl 3 rfl) ?_
  refine lv_iconst (v := iI 2) hx hb dL_law_713 rfl ?_
  refine wk_iadd hx hb dL_law_714 ?_
  refine kk_sld C0 hX hbl hbA w (by omega) (by omega) hL dL_law_715 ?_
  refine kk_wi (n := 2) (As := [.int (iI (xs (i + 1).toNat).toInt), .int (iI (xs (i + 2).toNat).toInt)]) (rest := [.int (iI z1)]) C0 hI cl_L_103 (ok_X12_morning hI hw) w (by decide) sh_65 rfl rfl rfl (Nat.le_of_ble_eq_true rfl) ⟨(Nat.le_of_ble_eq_true rfl), (Nat.le_of_ble_eq_true rfl)⟩ hl.1 dL_law_716 hcs (fun z2 u2 H locs hw w => ?_)
  obtain ⟨rfl, hrel⟩ := hw
  exact lv_icmp_eq (tgt := 908) hx hb dL_law_719 (by decide) (fun _ => hnext _ _ _ hrel w) (fun h => absurd rfl h)
theorem law_22 (C0 : kC p s m AA c code 4 RL D cA) (hI : wI ad) (hX : va_X b L xs s s.heap) (hbl : b < s.heap.size) (hbA : ¬ A b) (w : kW D A s.heap H locs (wl cA ad σ)) (hrel : Rel σ) (h0 : 0 ≤ i) (h3 : i + 3 ≤ (L : Int)) (hL : L ≤ 192) (hl : lv_has ls 4 [(0, .ref b), (1, .ref (ad 0)), (2, .ref (ad 65)), (3, .int (iI i))]) (hcs : cells ≤ room_1.cells ∧ slots ≤ room_1.slots) (hnext : ∀ (σ : Mem) (H : Heap) (locs : List Loc), Rel σ → kW D A s.heap H locs (wl cA ad σ) → W p l e room_1 s m AA below meth c H locs cells slots Q (F0 m 908 ls [])) : W p l e room_1 s m AA below meth c H locs cells slots Q (F0 m 724 ls []) := by
  have hx := C0.1
  have hb := C0.2.1
  refine lv_aload_n hx hb dL_law_724 rfl (lv_at hl 1 rfl) ?_
  refine lv_aload_n hx hb dL_law_725 rfl (lv_at hl 0 rfl) ?_
  refine lv_iload_n hx hb dL_law_726 rfl (lv_at hl 3 rfl) ?_
  refine lv_iconst (v := iI 1) hx hb dL_law_727 rfl ?_
  refine wk_iadd hx hb dL_law_728 ?_
  refine kk_sld C0 hX hbl hbA w (by omega) (by omega) hL dL_law_729 ?_
  refine lv_aload_n hx hb dL_law_730 rfl (lv_at hl 0 rfl) ?_
  refine lv_iload_n hx hb dL_law_731 rfl (lv_at hl 3 rfl) ?_
  refine lv_iconst (v := iI 2) hx hb dL_law_732 rfl ?_
  refine wk_iadd hx hb dL_law_733 ?_
  refine kk_sld C0 hX hbl hbA w (by omega) (by omega) hL dL_law_734 ?_
  have hw := pub_counted (inR_of (xs (i + 1).toNat)) (inR_of (xs (i + 2).toNat)) σ hrel
  refine kk_wi (n := 2) (As := [.int (iI (xs (i + 1).toNat).toInt), .int (iI (xs (i + 2).toNat).toInt)]) (rest := []) C0 hI cl_L_104 (ok_X11_counted hI hw) w (by decide) sh_0 rfl rfl rfl (Nat.le_of_ble_eq_true rfl) ⟨(Nat.le_of_ble_eq_true rfl), (Nat.le_of_ble_eq_true rfl)⟩ hl.1 dL_law_735 hcs (fun z1 u1 H locs hw w => ?_)
  refine lv_aload_n hx hb dL_law_738 rfl (lv_at hl 2 rfl) ?_
  refine lv_aload_n hx hb dL_law_739 rfl (lv_at hl 0 rfl) ?_
  refine lv_iload_n hx hb dL_law_740 rfl (lv_at hl 3 rfl) ?_
  refine lv_iconst (v := iI 1) hx hb dL_law_741 rfl ?_
  refine wk_iadd hx hb dL_law_742 ?_
  refine kk_sld C0 hX hbl hbA w (by omega) (by omega) hL dL_law_743 ?_
  refine lv_aload_n hx hb dL_law_744 rfl (lv_at hl 0 rfl) ?_
  refine lv_iload_n hx hb dL_law_745 rfl (lv_at hl 3 rfl) ?_
  refine lv_iconst (v := iI 2) hx hb dL_law_746 rfl ?_
  refine wk_iadd hx hb dL_law_747 ?_
  refine kk_sld C0 hX hbl hbA w (by omega) (by omega) hL dL_law_748 ?_
  refine kk_wi (n := 2) (As := [.int (iI (xs (i + 1).toNat).toInt), .int (iI (xs (i + 2).toNat).toInt)]) (rest := [.int (iI z1)]) C0 hI cl_L_107 (ok_X12_counted hI hw) w (by decide) sh_65 rfl rfl rfl (Nat.le_of_ble_eq_true rfl) ⟨(Nat.le_of_ble_eq_true rfl), (Nat.le_of_ble_eq_true rfl)⟩ hl.1 dL_law_749 hcs (fun z2 u2 H locs hw w => ?_)
  obtain ⟨rfl, hrel⟩ := hw
  exact lv_icmp_eq (tgt := 908) hx hb dL_law_752 (by decide) (fun _ => hnext _ _ _ hrel w) (fun h => absurd rfl h)
theorem law_23 (C0 : kC p s m AA c code 4 RL D cA) (hI : wI ad) (hX : va_X b L xs s s.heap) (hbl : b < s.heap.size) (hbA : ¬ A b) (w : kW D A s.heap H locs (wl cA ad σ)) (hrel : Rel σ) (h0 : 0 ≤ i) (h3 : i + 3 ≤ (L : Int)) (hL : L ≤ 192) (hl : lv_has ls 4 [(0, .ref b), (1, .ref (ad 0)), (2, .ref (ad 65)), (3, .int (iI i))]) (hcs : cells ≤ room_1.cells ∧ slots ≤ room_1.slots) (hnext : ∀ (σ : Mem) (H : Heap) (locs : List Loc), Rel σ → kW D A s.heap H locs (wl cA ad σ) → W p l e room_1 s m AA below meth c H locs cells slots Q (F0 m 908 ls [])) : W p l e room_1 s m AA below meth c H locs cells slots Q (F0 m 757 ls []) := by
  have hx := C0.1
  have hb := C0.2.1
  refine lv_aload_n hx hb dL_law_757 rfl (lv_at hl 1 rfl) ?_
  refine lv_aload_n hx hb dL_law_758 rfl (lv_at hl 0 rfl) ?_
  refine lv_iload_n hx hb dL_law_759 rfl (lv_at hl 3 rfl) ?_
  refine lv_iconst (v := iI 1) hx hb dL_law_760 rfl ?_
  refine wk_iadd hx hb dL_law_761 ?_
  refine kk_sld C0 hX hbl hbA w (by omega) (by omega) hL dL_law_762 ?_
  have hw := pub_sure (inR_of (xs (i + 1).toNat)) σ hrel
  refine kk_wi (n := 1) (As := [.int (iI (xs (i + 1).toNat).toInt)]) (rest := []) C0 hI cl_L_108 (ok_X11_sure hI hw) w (by decide) sh_0 rfl rfl rfl (Nat.le_of_ble_eq_true rfl) ⟨(Nat.le_of_ble_eq_true rfl), (Nat.le_of_ble_eq_true rfl)⟩ hl.1 dL_law_763 hcs (fun z1 u1 H locs hw w => ?_)
  refine lv_aload_n hx hb dL_law_766 rfl (lv_at hl 2 rfl) ?_
  refine lv_aload_n hx hb dL_law_767 rfl (lv_at hl 0 rfl) ?_
  refine lv_iload_n hx hb dL_law_768 rfl (lv_at hl 3 rfl) ?_
  refine lv_iconst (v := iI 1) hx hb dL_law_769 rfl ?_
  refine wk_iadd hx hb dL_law_770 ?_
  refine kk_sld C0 hX hbl hbA w (by omega) (by omega) hL dL_law_771 ?_
  refine kk_wi (n := 1) (As := [.int (iI (xs (i + 1).toNat).toInt)]) (rest := [.int (iI z1)]) C0 hI cl_L_111 (ok_X12_sure hI hw) w (by decide) sh_65 rfl rfl rfl (Nat.le_of_ble_eq_true rfl) ⟨(Nat.le_of_ble_eq_true rfl), (Nat.le_of_ble_eq_true rfl)⟩ hl.1 dL_law_772 hcs (fun z2 u2 H locs hw w => ?_)
  obtain ⟨rfl, hrel⟩ := hw
  exact lv_icmp_eq (tgt := 908) hx hb dL_law_775 (by decide) (fun _ => hnext _ _ _ hrel w) (fun h => absurd rfl h)
theorem law_24 (C0 : kC p s m AA c code 4 RL D cA) (hI : wI ad) (hX : va_X b L xs s s.heap) (hbl : b < s.heap.size) (hbA : ¬ A b) (w : kW D A s.heap H locs (wl cA ad σ)) (hrel : Rel σ) (h0 : 0 ≤ i) (h3 : i + 3 ≤ (L : Int)) (hL : L ≤ 192) (hl : lv_has ls 4 [(0, .ref b), (1, .ref (ad 0)), (2, .ref (ad 65)), (3, .int (iI i))]) (hcs : cells ≤ room_1.cells ∧ slots ≤ room_1.slots) (hnext : ∀ (σ : Mem) (H : Heap) (locs : List Loc), Rel σ → kW D A s.heap H locs (wl cA ad σ) → W p l e room_1 s m AA below meth c H locs cells slots Q (F0 m 908 ls [])) : W p l e room_1 s m AA below meth c H locs cells slots Q (F0 m 780 ls []) := by
  have hx := C0.1
  have hb := C0.2.1
  refine lv_aload_n hx hb dL_law_780 rfl (lv_at hl 1 rfl) ?_
  refine lv_aload_n hx hb dL_law_781 rfl (lv_at hl 0 rfl) ?_
  refine lv_iload_n hx hb dL_law_782 rfl (lv_at hl 3 rfl) ?_
  refine lv_iconst (v := iI 1) hx hb dL_law_783 rfl ?_
  refine wk_iadd hx hb dL_law_784 ?_
  refine kk_sld C0 hX hbl hbA w (by omega) (by omega) hL dL_law_785 ?_
  have hw := pub_write (inR_of (xs (i + 1).toNat)) σ hrel
  refine kk_wi (n := 1) (As := [.int (iI (xs (i + 1).toNat).toInt)]) (rest := []) C0 hI cl_L_112 (ok_X11_write hI hw) w (by decide) sh_0 rfl rfl rfl (Nat.le_of_ble_eq_true rfl) ⟨(Nat.le_of_ble_eq_true rfl), (Nat.le_of_ble_eq_true rfl)⟩ hl.1 dL_law_786 hcs (fun z1 u1 H locs hw w => ?_)
  refine lv_aload_n hx hb dL_law_789 rfl (lv_at hl 2 rfl) ?_
  refine lv_aload_n hx hb dL_law_790 rfl (lv_at hl 0 rfl) ?_
  refine lv_iload_n hx hb dL_law_791 rfl (lv_at hl 3 rfl) ?_
  refine lv_iconst (v := iI 1) hx hb dL_law_792 rfl ?_
  refine wk_iadd hx hb dL_law_793 ?_
  refine kk_sld C0 hX hbl hbA w (by omega) (by omega) hL dL_law_794 ?_
  refine kk_wi (n := 1) (As := [.int (iI (xs (i + 1).toNat).toInt)]) (rest := [.int (iI z1)]) C0 hI cl_L_115 (ok_X12_write hI hw) w (by decide) sh_65 rfl rfl rfl (Nat.le_of_ble_eq_true rfl) ⟨(Nat.le_of_ble_eq_true rfl), (Nat.le_of_ble_eq_true rfl)⟩ hl.1 dL_law_795 hcs (fun z2 u2 H locs hw w => ?_)
  obtain ⟨rfl, hrel⟩ := hw
  exact lv_icmp_eq (tgt := 908) hx hb dL_law_798 (by decide) (fun _ => hnext _ _ _ hrel w) (fun h => absurd rfl h)
theorem law_25 (C0 : kC p s m AA c code 4 RL D cA) (hI : wI ad) (hX : va_X b L xs s s.heap) (hbl : b < s.heap.size) (hbA : ¬ A b) (w : kW D A s.heap H locs (wl cA ad σ)) (hrel : Rel σ) (h0 : 0 ≤ i) (h3 : i + 3 ≤ (L : Int)) (hL : L ≤ 192) (hl : lv_has ls 4 [(0, .ref b), (1, .ref (ad 0)), (2, .ref (ad 65)), (3, .int (iI i))]) (hcs : cells ≤ room_1.cells ∧ slots ≤ room_1.slots) (hnext : ∀ (σ : Mem) (H : Heap) (locs : List Loc), Rel σ → kW D A s.heap H locs (wl cA ad σ) → W p l e room_1 s m AA below meth c H locs cells slots Q (F0 m 908 ls [])) : W p l e room_1 s m AA below meth c H locs cells slots Q (F0 m 803 ls []) := by
  have hx := C0.1
  have hb := C0.2.1
  refine lv_aload_n hx hb dL_law_803 rfl (lv_at hl 1 rfl) ?_
  refine lv_aload_n hx hb dL_law_804 rfl (lv_at hl 0 rfl) ?_
  refine lv_iload_n hx hb dL_law_805 rfl (lv_at hl 3 rfl) ?_
  refine lv_iconst (v := iI 1) hx hb dL_law_806 rfl ?_
  refine wk_iadd hx hb dL_law_807 ?_
  refine kk_sld C0 hX hbl hbA w (by omega) (by omega) hL dL_law_808 ?_
  have hw := pub_judge (inR_of (xs (i + 1).toNat)) σ hrel
  refine kk_wi (n := 1) (As := [.int (iI (xs (i + 1).toNat).toInt)]) (rest := []) C0 hI cl_L_116 (ok_X11_judge hI hw) w (by decide) sh_0 rfl rfl rfl (Nat.le_of_ble_eq_true rfl) ⟨(Nat.le_of_ble_eq_true rfl), (Nat.le_of_ble_eq_true rfl)⟩ hl.1 dL_law_809 hcs (fun z1 u1 H locs hw w => ?_)
  refine lv_aload_n hx hb dL_law_812 rfl (lv_at hl 2 rfl) ?_
  refine lv_aload_n hx hb dL_law_813 rfl (lv_at hl 0 rfl) ?_
  refine lv_iload_n hx hb dL_law_814 rfl (lv_at hl 3 rfl) ?_
  refine lv_iconst (v := iI 1) hx hb dL_law_815 rfl ?_
  refine wk_iadd hx hb dL_law_816 ?_
  refine kk_sld C0 hX hbl hbA w (by omega) (by omega) hL dL_law_817 ?_
  refine kk_wi (n := 1) (As := [.int (iI (xs (i + 1).toNat).toInt)]) (rest := [.int (iI z1)]) C0 hI cl_L_119 (ok_X12_judge hI hw) w (by decide) sh_65 rfl rfl rfl (Nat.le_of_ble_eq_true rfl) ⟨(Nat.le_of_ble_eq_true rfl), (Nat.le_of_ble_eq_true rfl)⟩ hl.1 dL_law_818 hcs (fun z2 u2 H locs hw w => ?_)
  obtain ⟨rfl, hrel⟩ := hw
  exact lv_icmp_eq (tgt := 908) hx hb dL_law_821 (by decide) (fun _ => hnext _ _ _ hrel w) (fun h => absurd rfl h)
theorem law_26 (C0 : kC p s m AA c code 4 RL D cA) (hI : wI ad) (hX : va_X b L xs s s.heap) (hbl : b < s.heap.size) (hbA : ¬ A b) (w : kW D A s.heap H locs (wl cA ad σ)) (hrel : Rel σ) (h0 : 0 ≤ i) (h3 : i + 3 ≤ (L : Int)) (hL : L ≤ 192) (hl : lv_has ls 4 [(0, .ref b), (1, .ref (ad 0)), (2, .ref (ad 65)), (3, .int (iI i))]) (hcs : cells ≤ room_1.cells ∧ slots ≤ room_1.slots) (hnext : ∀ (σ : Mem) (H : Heap) (locs : List Loc), Rel σ → kW D A s.heap H locs (wl cA ad σ) → W p l e room_1 s m AA below meth c H locs cells slots Q (F0 m 908 ls [])) : W p l e room_1 s m AA below meth c H locs cells slots Q (F0 m 826 ls []) := by
  have hx := C0.1
  have hb := C0.2.1
  refine lv_aload_n hx hb dL_law_826 rfl (lv_at hl 1 rfl) ?_
  have hw := pub_tear σ hrel
  refine kk_wi (n := 0) (As := []) (rest := []) C0 hI cl_L_120 (ok_X11_tear hI hw) w (by decide) sh_0 rfl rfl rfl (Nat.le_of_ble_eq_true rfl) ⟨(Nat.le_of_ble_eq_true rfl), (Nat.le_of_ble_eq_true rfl)⟩ hl.1 dL_law_827 hcs (fun z1 u1 H locs hw w => ?_)
  refine lv_aload_n hx hb dL_law_830 rfl (lv_at hl 2 rfl) ?_
  refine kk_wi (n := 0) (As := []) (rest := [.int (iI z1)]) C0 hI cl_L_123 (ok_X12_tear hI hw) w (by decide) sh_65 rfl rfl rfl (Nat.le_of_ble_eq_true rfl) ⟨(Nat.le_of_ble_eq_true rfl), (Nat.le_of_ble_eq_true rfl)⟩ hl.1 dL_law_831 hcs (fun z2 u2 H locs hw w => ?_)
  obtain ⟨rfl, hrel⟩ := hw
  exact lv_icmp_eq (tgt := 908) hx hb dL_law_834 (by decide) (fun _ => hnext _ _ _ hrel w) (fun h => absurd rfl h)
theorem law_27 (C0 : kC p s m AA c code 4 RL D cA) (hI : wI ad) (hX : va_X b L xs s s.heap) (hbl : b < s.heap.size) (hbA : ¬ A b) (w : kW D A s.heap H locs (wl cA ad σ)) (hrel : Rel σ) (h0 : 0 ≤ i) (h3 : i + 3 ≤ (L : Int)) (hL : L ≤ 192) (hl : lv_has ls 4 [(0, .ref b), (1, .ref (ad 0)), (2, .ref (ad 65)), (3, .int (iI i))]) (hcs : cells ≤ room_1.cells ∧ slots ≤ room_1.slots) (hnext : ∀ (σ : Mem) (H : Heap) (locs : List Loc), Rel σ → kW D A s.heap H locs (wl cA ad σ) → W p l e room_1 s m AA below meth c H locs cells slots Q (F0 m 908 ls [])) : W p l e room_1 s m AA below meth c H locs cells slots Q (F0 m 839 ls []) := by
  have hx := C0.1
  have hb := C0.2.1
  refine lv_aload_n hx hb dL_law_839 rfl (lv_at hl 1 rfl) ?_
  refine lv_aload_n hx hb dL_law_840 rfl (lv_at hl 0 rfl) ?_
  refine lv_iload_n hx hb dL_law_841 rfl (lv_at hl 3 rfl) ?_
  refine lv_iconst (v := iI 1) hx hb dL_law_842 rfl ?_
  refine wk_iadd hx hb dL_law_843 ?_
  refine kk_sld C0 hX hbl hbA w (by omega) (by omega) hL dL_law_844 ?_
  have hw := pub_seed (inR_of (xs (i + 1).toNat)) σ hrel
  refine kk_wi (n := 1) (As := [.int (iI (xs (i + 1).toNat).toInt)]) (rest := []) C0 hI cl_L_124 (ok_X11_seed hI hw) w (by decide) sh_0 rfl rfl rfl (Nat.le_of_ble_eq_true rfl) ⟨(Nat.le_of_ble_eq_true rfl), (Nat.le_of_ble_eq_true rfl)⟩ hl.1 dL_law_845 hcs (fun z1 u1 H locs hw w => ?_)
  refine lv_aload_n hx hb dL_law_848 rfl (lv_at hl 2 rfl) ?_
  refine lv_aload_n hx hb dL_law_849 rfl (lv_at hl 0 rfl) ?_
  refine lv_iload_n hx hb dL_law_850 rfl (lv_at hl 3 rfl) ?_
  refine lv_iconst (v := iI 1) hx hb dL_law_851 rfl ?_
  refine wk_iadd hx hb dL_law_852 ?_
  refine kk_sld C0 hX hbl hbA w (by omega) (by omega) hL dL_law_853 ?_
  refine kk_wi (n := 1) (As := [.int (iI (xs (i + 1).toNat).toInt)]) (rest := [.int (iI z1)]) C0 hI cl_L_127 (ok_X12_seed hI hw) w (by decide) sh_65 rfl rfl rfl (Nat.le_of_ble_eq_true rfl) ⟨(Nat.le_of_ble_eq_true rfl), (Nat.le_of_ble_eq_true rfl)⟩ hl.1 dL_law_854 hcs (fun z2 u2 H locs hw w => ?_)
  obtain ⟨rfl, hrel⟩ := hw
  exact lv_icmp_eq (tgt := 908) hx hb dL_law_857 (by decide) (fun _ => hnext _ _ _ hrel w) (fun h => absurd rfl h)
theorem law_28 (C0 : kC p s m AA c code 4 RL D cA) (hI : wI ad) (hX : va_X b L xs s s.heap) (hbl : b < s.heap.size) (hbA : ¬ A b) (w : kW D A s.heap H locs (wl cA ad σ)) (hrel : Rel σ) (h0 : 0 ≤ i) (h3 : i + 3 ≤ (L : Int)) (hL : L ≤ 192) (hl : lv_has ls 4 [(0, .ref b), (1, .ref (ad 0)), (2, .ref (ad 65)), (3, .int (iI i))]) (hcs : cells ≤ room_1.cells ∧ slots ≤ room_1.slots) (hnext : ∀ (σ : Mem) (H : Heap) (locs : List Loc), Rel σ → kW D A s.heap H locs (wl cA ad σ) → W p l e room_1 s m AA below meth c H locs cells slots Q (F0 m 908 ls [])) : W p l e room_1 s m AA below meth c H locs cells slots Q (F0 m 862 ls []) := by
  have hx := C0.1
  have hb := C0.2.1
  refine lv_aload_n hx hb dL_law_862 rfl (lv_at hl 1 rfl) ?_
  refine lv_aload_n hx hb dL_law_863 rfl (lv_at hl 0 rfl) ?_
  refine lv_iload_n hx hb dL_law_864 rfl (lv_at hl 3 rfl) ?_
  refine lv_iconst (v := iI 1) hx hb dL_law_865 rfl ?_
  refine wk_iadd hx hb dL_law_866 ?_
  refine kk_sld C0 hX hbl hbA w (by omega) (by omega) hL dL_law_867 ?_
  have hw := pub_keep (inR_of (xs (i + 1).toNat)) σ hrel
  refine kk_wi (n := 1) (As := [.int (iI (xs (i + 1).toNat).toInt)]) (rest := []) C0 hI cl_L_128 (ok_X11_keep hI hw) w (by decide) sh_0 rfl rfl rfl (Nat.le_of_ble_eq_true rfl) ⟨(Nat.le_of_ble_eq_true rfl), (Nat.le_of_ble_eq_true rfl)⟩ hl.1 dL_law_868 hcs (fun z1 u1 H locs hw w => ?_)
  refine lv_aload_n hx hb dL_law_871 rfl (lv_at hl 2 rfl) ?_
  refine lv_aload_n hx hb dL_law_872 rfl (lv_at hl 0 rfl) ?_
  refine lv_iload_n hx hb dL_law_873 rfl (lv_at hl 3 rfl) ?_
  refine lv_iconst (v := iI 1) hx hb dL_law_874 rfl ?_
  refine wk_iadd hx hb dL_law_875 ?_
  refine kk_sld C0 hX hbl hbA w (by omega) (by omega) hL dL_law_876 ?_
  refine kk_wi (n := 1) (As := [.int (iI (xs (i + 1).toNat).toInt)]) (rest := [.int (iI z1)]) C0 hI cl_L_131 (ok_X12_keep hI hw) w (by decide) sh_65 rfl rfl rfl (Nat.le_of_ble_eq_true rfl) ⟨(Nat.le_of_ble_eq_true rfl), (Nat.le_of_ble_eq_true rfl)⟩ hl.1 dL_law_877 hcs (fun z2 u2 H locs hw w => ?_)
  obtain ⟨rfl, hrel⟩ := hw
  exact lv_icmp_eq (tgt := 908) hx hb dL_law_880 (by decide) (fun _ => hnext _ _ _ hrel w) (fun h => absurd rfl h)
theorem law_29 (C0 : kC p s m AA c code 4 RL D cA) (hI : wI ad) (hX : va_X b L xs s s.heap) (hbl : b < s.heap.size) (hbA : ¬ A b) (w : kW D A s.heap H locs (wl cA ad σ)) (hrel : Rel σ) (h0 : 0 ≤ i) (h3 : i + 3 ≤ (L : Int)) (hL : L ≤ 192) (hl : lv_has ls 4 [(0, .ref b), (1, .ref (ad 0)), (2, .ref (ad 65)), (3, .int (iI i))]) (hcs : cells ≤ room_1.cells ∧ slots ≤ room_1.slots) (hnext : ∀ (σ : Mem) (H : Heap) (locs : List Loc), Rel σ → kW D A s.heap H locs (wl cA ad σ) → W p l e room_1 s m AA below meth c H locs cells slots Q (F0 m 908 ls [])) : W p l e room_1 s m AA below meth c H locs cells slots Q (F0 m 885 ls []) := by
  have hx := C0.1
  have hb := C0.2.1
  refine lv_aload_n hx hb dL_law_885 rfl (lv_at hl 1 rfl) ?_
  refine lv_aload_n hx hb dL_law_886 rfl (lv_at hl 0 rfl) ?_
  refine lv_iload_n hx hb dL_law_887 rfl (lv_at hl 3 rfl) ?_
  refine lv_iconst (v := iI 1) hx hb dL_law_888 rfl ?_
  refine wk_iadd hx hb dL_law_889 ?_
  refine kk_sld C0 hX hbl hbA w (by omega) (by omega) hL dL_law_890 ?_
  have hw := pub_goBack (inR_of (xs (i + 1).toNat)) σ hrel
  refine kk_wi (n := 1) (As := [.int (iI (xs (i + 1).toNat).toInt)]) (rest := []) C0 hI cl_L_132 (ok_X11_goBack hI hw) w (by decide) sh_0 rfl rfl rfl (Nat.le_of_ble_eq_true rfl) ⟨(Nat.le_of_ble_eq_true rfl), (Nat.le_of_ble_eq_true rfl)⟩ hl.1 dL_law_891 hcs (fun z1 u1 H locs hw w => ?_)
  refine lv_aload_n hx hb dL_law_894 rfl (lv_at hl 2 rfl) ?_
  refine lv_aload_n hx hb dL_law_895 rfl (lv_at hl 0 rfl) ?_
  refine lv_iload_n hx hb dL_law_896 rfl (lv_at hl 3 rfl) ?_
  refine lv_iconst (v := iI 1) hx hb dL_law_897 rfl ?_
  refine wk_iadd hx hb dL_law_898 ?_
  refine kk_sld C0 hX hbl hbA w (by omega) (by omega) hL dL_law_899 ?_
  refine kk_wi (n := 1) (As := [.int (iI (xs (i + 1).toNat).toInt)]) (rest := [.int (iI z1)]) C0 hI cl_L_135 (ok_X12_goBack hI hw) w (by decide) sh_65 rfl rfl rfl (Nat.le_of_ble_eq_true rfl) ⟨(Nat.le_of_ble_eq_true rfl), (Nat.le_of_ble_eq_true rfl)⟩ hl.1 dL_law_900 hcs (fun z2 u2 H locs hw w => ?_)
  obtain ⟨rfl, hrel⟩ := hw
  exact lv_icmp_eq (tgt := 908) hx hb dL_law_903 (by decide) (fun _ => hnext _ _ _ hrel w) (fun h => absurd rfl h)
theorem law_sw {z : Int} (hz : inR z) (C0 : kC p s m AA c code 4 RL D cA) (hI : wI ad) (hX : va_X b L xs s s.heap) (hbl : b < s.heap.size) (hbA : ¬ A b) (w : kW D A s.heap H locs (wl cA ad σ)) (hrel : Rel σ) (h0 : 0 ≤ i) (h3 : i + 3 ≤ (L : Int)) (hL : L ≤ 192) (hl : lv_has ls 4 [(0, .ref b), (1, .ref (ad 0)), (2, .ref (ad 65)), (3, .int (iI i))]) (hcs : cells ≤ room_1.cells ∧ slots ≤ room_1.slots) (hnext : ∀ (σ : Mem) (H : Heap) (locs : List Loc), Rel σ → kW D A s.heap H locs (wl cA ad σ) → W p l e room_1 s m AA below meth c H locs cells slots Q (F0 m 908 ls [])) : W p l e room_1 s m AA below meth c H locs cells slots Q (F0 m 32 ls [.int (iI z)]) := by
  have hx := C0.1
  have hb := C0.2.1
  by_cases hh0 : z = 0
  · subst hh0
    exact lv_tableIn (x := iI 0) (off := 136) (tgt := 168) hx hb dL_law_32 (by decide +kernel) (by decide +kernel) (by decide +kernel) (by decide) (law_0 C0 hI hX hbl hbA w hrel h0 h3 hL hl hcs hnext)
  by_cases hh1 : z = 1
  · subst hh1
    exact lv_tableIn (x := iI 1) (off := 159) (tgt := 191) hx hb dL_law_32 (by decide +kernel) (by decide +kernel) (by decide +kernel) (by decide) (law_1 C0 hI hX hbl hbA w hrel h0 h3 hL hl hcs hnext)
  by_cases hh2 : z = 2
  · subst hh2
    exact lv_tableIn (x := iI 2) (off := 172) (tgt := 204) hx hb dL_law_32 (by decide +kernel) (by decide +kernel) (by decide +kernel) (by decide) (law_2 C0 hI hX hbl hbA w hrel h0 h3 hL hl hcs hnext)
  by_cases hh3 : z = 3
  · subst hh3
    exact lv_tableIn (x := iI 3) (off := 185) (tgt := 217) hx hb dL_law_32 (by decide +kernel) (by decide +kernel) (by decide +kernel) (by decide) (law_3 C0 hI hX hbl hbA w hrel h0 h3 hL hl hcs hnext)
  by_cases hh4 : z = 4
  · subst hh4
    exact lv_tableIn (x := iI 4) (off := 208) (tgt := 240) hx hb dL_law_32 (by decide +kernel) (by decide +kernel) (by decide +kernel) (by decide) (law_4 C0 hI hX hbl hbA w hrel h0 h3 hL hl hcs hnext)
  by_cases hh5 : z = 5
  · subst hh5
    exact lv_tableIn (x := iI 5) (off := 241) (tgt := 273) hx hb dL_law_32 (by decide +kernel) (by decide +kernel) (by decide +kernel) (by decide) (law_5 C0 hI hX hbl hbA w hrel h0 h3 hL hl hcs hnext)
  by_cases hh6 : z = 6
  · subst hh6
    exact lv_tableIn (x := iI 6) (off := 274) (tgt := 306) hx hb dL_law_32 (by decide +kernel) (by decide +kernel) (by decide +kernel) (by decide) (law_6 C0 hI hX hbl hbA w hrel h0 h3 hL hl hcs hnext)
  by_cases hh7 : z = 7
  · subst hh7
    exact lv_tableIn (x := iI 7) (off := 297) (tgt := 329) hx hb dL_law_32 (by decide +kernel) (by decide +kernel) (by decide +kernel) (by decide) (law_7 C0 hI hX hbl hbA w hrel h0 h3 hL hl hcs hnext)
  by_cases hh8 : z = 8
  · subst hh8
    exact lv_tableIn (x := iI 8) (off := 320) (tgt := 352) hx hb dL_law_32 (by decide +kernel) (by decide +kernel) (by decide +kernel) (by decide) (law_8 C0 hI hX hbl hbA w hrel h0 h3 hL hl hcs hnext)
  by_cases hh9 : z = 9
  · subst hh9
    exact lv_tableIn (x := iI 9) (off := 343) (tgt := 375) hx hb dL_law_32 (by decide +kernel) (by decide +kernel) (by decide +kernel) (by decide) (law_9 C0 hI hX hbl hbA w hrel h0 h3 hL hl hcs hnext)
  by_cases hh10 : z = 10
  · subst hh10
    exact lv_tableIn (x := iI 10) (off := 366) (tgt := 398) hx hb dL_law_32 (by decide +kernel) (by decide +kernel) (by decide +kernel) (by decide) (law_10 C0 hI hX hbl hbA w hrel h0 h3 hL hl hcs hnext)
  by_cases hh11 : z = 11
  · subst hh11
    exact lv_tableIn (x := iI 11) (off := 389) (tgt := 421) hx hb dL_law_32 (by decide +kernel) (by decide +kernel) (by decide +kernel) (by decide) (law_11 C0 hI hX hbl hbA w hrel h0 h3 hL hl hcs hnext)
  by_cases hh12 : z = 12
  · subst hh12
    exact lv_tableIn (x := iI 12) (off := 412) (tgt := 444) hx hb dL_law_32 (by decide +kernel) (by decide +kernel) (by decide +kernel) (by decide) (law_12 C0 hI hX hbl hbA w hrel h0 h3 hL hl hcs hnext)
  by_cases hh13 : z = 13
  · subst hh13
    exact lv_tableIn (x := iI 13) (off := 435) (tgt := 467) hx hb dL_law_32 (by decide +kernel) (by decide +kernel) (by decide +kernel) (by decide) (law_13 C0 hI hX hbl hbA w hrel h0 h3 hL hl hcs hnext)
  by_cases hh14 : z = 14
  · subst hh14
    exact lv_tableIn (x := iI 14) (off := 458) (tgt := 490) hx hb dL_law_32 (by decide +kernel) (by decide +kernel) (by decide +kernel) (by decide) (law_14 C0 hI hX hbl hbA w hrel h0 h3 hL hl hcs hnext)
  by_cases hh15 : z = 15
  · subst hh15
    exact lv_tableIn (x := iI 15) (off := 491) (tgt := 523) hx hb dL_law_32 (by decide +kernel) (by decide +kernel) (by decide +kernel) (by decide) (law_15 C0 hI hX hbl hbA w hrel h0 h3 hL hl hcs hnext)
  by_cases hh16 : z = 16
  · subst hh16
    exact lv_tableIn (x := iI 16) (off := 524) (tgt := 556) hx hb dL_law_32 (by decide +kernel) (by decide +kernel) (by decide +kernel) (by decide) (law_16 C0 hI hX hbl hbA w hrel h0 h3 hL hl hcs hnext)
  by_cases hh17 : z = 17
  · subst hh17
    exact lv_tableIn (x := iI 17) (off := 557) (tgt := 589) hx hb dL_law_32 (by decide +kernel) (by decide +kernel) (by decide +kernel) (by decide) (law_17 C0 hI hX hbl hbA w hrel h0 h3 hL hl hcs hnext)
  by_cases hh18 : z = 18
  · subst hh18
    exact lv_tableIn (x := iI 18) (off := 580) (tgt := 612) hx hb dL_law_32 (by decide +kernel) (by decide +kernel) (by decide +kernel) (by decide) (law_18 C0 hI hX hbl hbA w hrel h0 h3 hL hl hcs hnext)
  by_cases hh19 : z = 19
  · subst hh19
    exact lv_tableIn (x := iI 19) (off := 603) (tgt := 635) hx hb dL_law_32 (by decide +kernel) (by decide +kernel) (by decide +kernel) (by decide) (law_19 C0 hI hX hbl hbA w hrel h0 h3 hL hl hcs hnext)
  by_cases hh20 : z = 20
  · subst hh20
    exact lv_tableIn (x := iI 20) (off := 626) (tgt := 658) hx hb dL_law_32 (by decide +kernel) (by decide +kernel) (by decide +kernel) (by decide) (law_20 C0 hI hX hbl hbA w hrel h0 h3 hL hl hcs hnext)
  by_cases hh21 : z = 21
  · subst hh21
    exact lv_tableIn (x := iI 21) (off := 659) (tgt := 691) hx hb dL_law_32 (by decide +kernel) (by decide +kernel) (by decide +kernel) (by decide) (law_21 C0 hI hX hbl hbA w hrel h0 h3 hL hl hcs hnext)
  by_cases hh22 : z = 22
  · subst hh22
    exact lv_tableIn (x := iI 22) (off := 692) (tgt := 724) hx hb dL_law_32 (by decide +kernel) (by decide +kernel) (by decide +kernel) (by decide) (law_22 C0 hI hX hbl hbA w hrel h0 h3 hL hl hcs hnext)
  by_cases hh23 : z = 23
  · subst hh23
    exact lv_tableIn (x := iI 23) (off := 725) (tgt := 757) hx hb dL_law_32 (by decide +kernel) (by decide +kernel) (by decide +kernel) (by decide) (law_23 C0 hI hX hbl hbA w hrel h0 h3 hL hl hcs hnext)
  by_cases hh24 : z = 24
  · subst hh24
    exact lv_tableIn (x := iI 24) (off := 748) (tgt := 780) hx hb dL_law_32 (by decide +kernel) (by decide +kernel) (by decide +kernel) (by decide) (law_24 C0 hI hX hbl hbA w hrel h0 h3 hL hl hcs hnext)
  by_cases hh25 : z = 25
  · subst hh25
    exact lv_tableIn (x := iI 25) (off := 771) (tgt := 803) hx hb dL_law_32 (by decide +kernel) (by decide +kernel) (by decide +kernel) (by decide) (law_25 C0 hI hX hbl hbA w hrel h0 h3 hL hl hcs hnext)
  by_cases hh26 : z = 26
  · subst hh26
    exact lv_tableIn (x := iI 26) (off := 794) (tgt := 826) hx hb dL_law_32 (by decide +kernel) (by decide +kernel) (by decide +kernel) (by decide) (law_26 C0 hI hX hbl hbA w hrel h0 h3 hL hl hcs hnext)
  by_cases hh27 : z = 27
  · subst hh27
    exact lv_tableIn (x := iI 27) (off := 807) (tgt := 839) hx hb dL_law_32 (by decide +kernel) (by decide +kernel) (by decide +kernel) (by decide) (law_27 C0 hI hX hbl hbA w hrel h0 h3 hL hl hcs hnext)
  by_cases hh28 : z = 28
  · subst hh28
    exact lv_tableIn (x := iI 28) (off := 830) (tgt := 862) hx hb dL_law_32 (by decide +kernel) (by decide +kernel) (by decide +kernel) (by decide) (law_28 C0 hI hX hbl hbA w hrel h0 h3 hL hl hcs hnext)
  by_cases hh29 : z = 29
  · subst hh29
    exact lv_tableIn (x := iI 29) (off := 853) (tgt := 885) hx hb dL_law_32 (by decide +kernel) (by decide +kernel) (by decide +kernel) (by decide) (law_29 C0 hI hX hbl hbA w hrel h0 h3 hL hl hcs hnext)
  exact lv_tableOut (tgt := 908) hx hb dL_law_32 (by rw [iI_toInt hz]; omega) (by decide) (hnext _ _ _ hrel w)
end LAW
