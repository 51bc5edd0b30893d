theorem df_X12 : ∀ j, j < 27 → defaultValue (tyX12 j) = vp_V [.null, .null, .null, .int (iI 0), .int (iI 0), .int (iI 0), .int (iI 0), .int (iI 0), .null, .int (iI 0), .null, .int (iI 0), .null, .null, .null, .null, .null, .null, .int (iI 0), .null, .null, .int (iI 0), .null, .int (iI 0), .int (iI 0), .int (iI 0), .null] j := by decide +kernel
theorem df_X11 : ∀ j, j < 13 → defaultValue (tyX11 j) = vp_V [.null, .null, .null, .null, .null, .null, .null, .null, .null, .null, .null, .null, .int (iI 0)] j := by decide +kernel
theorem kw_ass {D : va_G} {A : Nat → Prop} {H0 H : Heap} {locs : List Loc} {x y : Nat × va_E} {bag r : va_W} (w : kW D A H0 H locs ((x :: (bag ++ r)) ++ [y])) : kW D A H0 H locs (x :: (bag ++ (r ++ [y]))) := by
  rw [List.cons_append, List.append_assoc] at w
  exact w
theorem kw_nil {D : va_G} {A : Nat → Prop} {H0 H : Heap} {locs : List Loc} {x : Nat × va_E} {bag : va_W} (w : kW D A H0 H locs (x :: bag)) : kW D A H0 H locs (x :: (bag ++ [])) := by
  rw [List.append_nil]
  exact w
def adM (ad0 : Nat → Nat) (qs : List Nat) (c : Nat) : Nat := if c < 65 then ad0 c else qs.getD (c - 65) 0
def rM : Nat → Int := fun j => if j = 6 then -1 else 0
def sgM (σ0 : Mem) : Mem := fun c => if c < 65 then σ0 c else if c = 65 then rM else zr
theorem init_M {σ0 : Mem} (h : Init11 σ0) : Init11 (sgM σ0) := h
def bagOf (cA : Nat → ClassId) (a0 : Nat) (ad0 : Nat → Nat) (σ0 : Mem) (bag : va_W) : Prop := ∃ (f26 f30 : Nat → Option Nat), ad0 0 = a0 ∧ (f26 0 = some (ad0 27) ∧ f26 1 = some (ad0 28)) ∧ (f30 0 = some (ad0 33) ∧ f30 1 = some (ad0 36) ∧ f30 2 = some (ad0 39) ∧ f30 3 = some (ad0 42) ∧ f30 4 = some (ad0 45) ∧ f30 5 = some (ad0 48)) ∧ bag = (List.range 65).map (fun c => (ad0 c, kent cA ad0 σ0 f26 f30 c))
theorem model_laid {D : va_G} {cA : Nat → ClassId} {ad ad0 : Nat → Nat} {σ σ0 : Mem} {a0 h0 : Nat} {A : Nat → Prop} {H0 H : Heap} {locs : List Loc} {bag arrs : va_W} {eo : va_E} (w : kW D A H0 H locs ((h0, eo) :: (bag ++ arrs))) (hbag : bagOf cA a0 ad0 σ0 bag)
    (hlo : ∀ c, c < 65 → ad c = ad0 c) (hsl : ∀ c, c < 65 → σ c = σ0 c) (h65 : ad 65 = h0) (he : eo = wE cA ad (wsh 65) (σ 65)) (hhi : ∀ i, i < 15 → arrs[i]? = some (ad (66 + i), wE cA ad (wsh (66 + i)) (σ (66 + i)))) : kW D A H0 H locs (wl cA ad σ) ∧ wI ad := by
  obtain ⟨f26, f30, h0e, ⟨g0, g1⟩, ⟨k0, k1, k2, k3, k4, k5⟩, hb⟩ := hbag
  have hlen : bag.length = 65 := by rw [hb]; simp
  refine laid_of w (fun k hk => ?_)
  by_cases c : k < 65
  · have e1 : bag[k]? = some (ad0 k, kent cA ad0 σ0 f26 f30 k) := by rw [hb, List.getElem?_map, List.getElem?_range c]; rfl
    refine ⟨kent cA ad0 σ0 f26 f30 k, ?_, fun hv => ?_⟩
    · unfold posW
      rw [if_pos c, List.getElem?_cons_succ, app_get_l e1, hlo k c]
    · rw [hsl k c]
      unfold kent at hv
      by_cases c26 : k = 26
      · subst c26
        rw [if_pos rfl] at hv
        refine cell_q (g := fun j => some (ad (27 + j))) (fun j hj => ?_) hv
        match j, hj with
        | 0, _ => rw [g0]; show some (ad0 27) = some (ad 27); rw [hlo 27 (by decide)]
        | 1, _ => rw [g1]; show some (ad0 28) = some (ad 28); rw [hlo 28 (by decide)]
        | j + 2, hj => exact absurd hj (by omega)
      · rw [if_neg c26] at hv
        by_cases c30 : k = 30
        · subst c30
          rw [if_pos rfl] at hv
          refine cell_q (g := fun j => some (ad (33 + 3 * j))) (fun j hj => ?_) hv
          match j, hj with
          | 0, _ => rw [k0]; show some (ad0 33) = some (ad 33); rw [hlo 33 (by decide)]
          | 1, _ => rw [k1]; show some (ad0 36) = some (ad 36); rw [hlo 36 (by decide)]
          | 2, _ => rw [k2]; show some (ad0 39) = some (ad 39); rw [hlo 39 (by decide)]
          | 3, _ => rw [k3]; show some (ad0 42) = some (ad 42); rw [hlo 42 (by decide)]
          | 4, _ => rw [k4]; show some (ad0 45) = some (ad 45); rw [hlo 45 (by decide)]
          | 5, _ => rw [k5]; show some (ad0 48) = some (ad 48); rw [hlo 48 (by decide)]
          | j + 6, hj => exact absurd hj (by omega)
        · rw [if_neg c30] at hv
          rw [wE_congr hlo (wsh k) (shOk_class k c c26 c30)]
          exact hv
  · by_cases c2 : k = 65
    · subst c2
      exact ⟨eo, by unfold posW; rw [if_neg (by omega), if_pos rfl, h65]; rfl, fun hv => by rw [← he]; exact hv⟩
    · obtain ⟨i, rfl⟩ : ∃ i, k = 66 + i := ⟨k - 66, by omega⟩
      refine ⟨_, ?_, fun hv => hv⟩
      unfold posW
      rw [if_neg (by omega), if_neg (by omega), show 66 + i = (65 + i) + 1 by omega, List.getElem?_cons_succ, show 65 + i = bag.length + i by omega]
      have e1 := app_get_r (wr := bag) (hhi i (by omega))
      rw [show bag.length + i + 1 = 66 + i by omega]
      exact e1
def pX12 (cA : Nat → ClassId) (a0 h0 : Nat) (w : va_W) : Prop := ∃ (ad : Nat → Nat) (σ : Mem), ad 0 = a0 ∧ ad 65 = h0 ∧ Rel σ ∧ wI ad ∧ w = wl cA ad σ
set_option maxHeartbeats 4000000 in
set_option maxRecDepth 100000 in
theorem kn_X12 {l : Launch} {D : va_G} {cA : Nat → ClassId} {h0 : Nat} {ad0 : Nat → Nat} {σ0 : Mem} {bag : va_W} (hbag : bagOf cA (ad0 0) ad0 σ0 bag) (hin0 : Init11 σ0) : kM l D cA yX12_init cX12_init 1 2 15 3202 [.ref h0] ((h0, .inr (12, [.null, .null, .null, .int (iI 0), .int (iI 0), .int (iI 0), .int (iI 0), .int (iI 0), .null, .int (iI 0), .null, .int (iI 0), .null, .null, .null, .null, .null, .null, .int (iI 0), .null, .null, .int (iI 0), .null, .int (iI 0), .int (iI 0), .int (iI 0), .null])) :: bag) (pX12 cA (ad0 0) h0) := by
  refine kk_of (by decide) rfl (Nat.le_of_ble_eq_true rfl) ?_
  intro p e s m below meth c AA A QQ ls C0 hin w hret hl
  have hx := C0.1
  have hb := C0.2.1
  have hl : lv_has ls 1 [(0, .ref h0)] := hl
  have w := kw_nil w
  refine lv_aload_n hx hb dX12_init_0 rfl (lv_at hl 0 rfl) ?_
  refine kk_oi C0 hl.1 oi_X12 ⟨(Nat.le_of_ble_eq_true rfl), (Nat.le_of_ble_eq_true rfl)⟩ dX12_init_1 ?_
  refine lv_aload_n hx hb dX12_init_4 rfl (lv_at hl 0 rfl) ?_
  refine lv_bipush (v := iI 44) hx hb dX12_init_5 (by decide +kernel) ?_
  refine kk_ni (N := 44) C0 w (by decide +kernel) (by decide +kernel) (Nat.le_of_ble_eq_true rfl) (Nat.le_of_ble_eq_true rfl) (Nat.le_of_ble_eq_true rfl) dX12_init_7 (fun q1 H w => ?_)
  have w := kw_ass w
  have w : kW D A s.heap H _ ((h0, .inr (12, [.null, .null, .null, .int (iI 0), .int (iI 0), .int (iI 0), .int (iI 0), .int (iI 0), .null, .int (iI 0), .null, .int (iI 0), .null, .null, .null, .null, .null, .null, .int (iI 0), .null, .null, .int (iI 0), .null, .int (iI 0), .int (iI 0), .int (iI 0), .null])) :: (bag ++ [(q1, .inl (cA 0, 44, .inl (fun j => iI (zr j))))])) := w
  refine kk_putF C0 fl_X12_7 rfl hin rfl w 0 rfl rfl rfl (Nat.le_of_ble_eq_true rfl) dX12_init_9 (fun H locs w => ?_)
  have w : kW D A s.heap H _ ((h0, .inr (12, [.ref q1, .null, .null, .int (iI 0), .int (iI 0), .int (iI 0), .int (iI 0), .int (iI 0), .null, .int (iI 0), .null, .int (iI 0), .null, .null, .null, .null, .null, .null, .int (iI 0), .null, .null, .int (iI 0), .null, .int (iI 0), .int (iI 0), .int (iI 0), .null])) :: (bag ++ [(q1, .inl (cA 0, 44, .inl (fun j => iI (zr j))))])) := w
  refine lv_aload_n hx hb dX12_init_12 rfl (lv_at hl 0 rfl) ?_
  refine lv_bipush (v := iI 44) hx hb dX12_init_13 (by decide +kernel) ?_
  refine kk_ni (N := 44) C0 w (by decide +kernel) (by decide +kernel) (Nat.le_of_ble_eq_true rfl) (Nat.le_of_ble_eq_true rfl) (Nat.le_of_ble_eq_true rfl) dX12_init_15 (fun q2 H w => ?_)
  have w := kw_ass w
  have w : kW D A s.heap H _ ((h0, .inr (12, [.ref q1, .null, .null, .int (iI 0), .int (iI 0), .int (iI 0), .int (iI 0), .int (iI 0), .null, .int (iI 0), .null, .int (iI 0), .null, .null, .null, .null, .null, .null, .int (iI 0), .null, .null, .int (iI 0), .null, .int (iI 0), .int (iI 0), .int (iI 0), .null])) :: (bag ++ [(q1, .inl (cA 0, 44, .inl (fun j => iI (zr j)))), (q2, .inl (cA 0, 44, .inl (fun j => iI (zr j))))])) := w
  refine kk_putF C0 fl_X12_13 rfl hin rfl w 0 rfl rfl rfl (Nat.le_of_ble_eq_true rfl) dX12_init_17 (fun H locs w => ?_)
  have w : kW D A s.heap H _ ((h0, .inr (12, [.ref q1, .ref q2, .null, .int (iI 0), .int (iI 0), .int (iI 0), .int (iI 0), .int (iI 0), .null, .int (iI 0), .null, .int (iI 0), .null, .null, .null, .null, .null, .null, .int (iI 0), .null, .null, .int (iI 0), .null, .int (iI 0), .int (iI 0), .int (iI 0), .null])) :: (bag ++ [(q1, .inl (cA 0, 44, .inl (fun j => iI (zr j)))), (q2, .inl (cA 0, 44, .inl (fun j => iI (zr j))))])) := w
  refine lv_aload_n hx hb dX12_init_20 rfl (lv_at hl 0 rfl) ?_
  refine lv_sipush (v := iI 200) hx hb dX12_init_21 (by decide +kernel) ?_
  refine kk_ni (N := 200) C0 w (by decide +kernel) (by decide +kernel) (Nat.le_of_ble_eq_true rfl) (Nat.le_of_ble_eq_true rfl) (Nat.le_of_ble_eq_true rfl) dX12_init_24 (fun q3 H w => ?_)
  have w := kw_ass w
  have w : kW D A s.heap H _ ((h0, .inr (12, [.ref q1, .ref q2, .null, .int (iI 0), .int (iI 0), .int (iI 0), .int (iI 0), .int (iI 0), .null, .int (iI 0), .null, .int (iI 0), .null, .null, .null, .null, .null, .null, .int (iI 0), .null, .null, .int (iI 0), .null, .int (iI 0), .int (iI 0), .int (iI 0), .null])) :: (bag ++ [(q1, .inl (cA 0, 44, .inl (fun j => iI (zr j)))), (q2, .inl (cA 0, 44, .inl (fun j => iI (zr j)))), (q3, .inl (cA 0, 200, .inl (fun j => iI (zr j))))])) := w
  refine kk_putF C0 fl_X12_16 rfl hin rfl w 0 rfl rfl rfl (Nat.le_of_ble_eq_true rfl) dX12_init_26 (fun H locs w => ?_)
  have w : kW D A s.heap H _ ((h0, .inr (12, [.ref q1, .ref q2, .ref q3, .int (iI 0), .int (iI 0), .int (iI 0), .int (iI 0), .int (iI 0), .null, .int (iI 0), .null, .int (iI 0), .null, .null, .null, .null, .null, .null, .int (iI 0), .null, .null, .int (iI 0), .null, .int (iI 0), .int (iI 0), .int (iI 0), .null])) :: (bag ++ [(q1, .inl (cA 0, 44, .inl (fun j => iI (zr j)))), (q2, .inl (cA 0, 44, .inl (fun j => iI (zr j)))), (q3, .inl (cA 0, 200, .inl (fun j => iI (zr j))))])) := w
  refine lv_aload_n hx hb dX12_init_29 rfl (lv_at hl 0 rfl) ?_
  refine lv_bipush (v := iI 13) hx hb dX12_init_30 (by decide +kernel) ?_
  refine kk_ni (N := 13) C0 w (by decide +kernel) (by decide +kernel) (Nat.le_of_ble_eq_true rfl) (Nat.le_of_ble_eq_true rfl) (Nat.le_of_ble_eq_true rfl) dX12_init_32 (fun q4 H w => ?_)
  have w := kw_ass w
  have w : kW D A s.heap H _ ((h0, .inr (12, [.ref q1, .ref q2, .ref q3, .int (iI 0), .int (iI 0), .int (iI 0), .int (iI 0), .int (iI 0), .null, .int (iI 0), .null, .int (iI 0), .null, .null, .null, .null, .null, .null, .int (iI 0), .null, .null, .int (iI 0), .null, .int (iI 0), .int (iI 0), .int (iI 0), .null])) :: (bag ++ [(q1, .inl (cA 0, 44, .inl (fun j => iI (zr j)))), (q2, .inl (cA 0, 44, .inl (fun j => iI (zr j)))), (q3, .inl (cA 0, 200, .inl (fun j => iI (zr j)))), (q4, .inl (cA 0, 13, .inl (fun j => iI (zr j))))])) := w
  refine kk_putF C0 fl_X12_19 rfl hin rfl w 0 rfl rfl rfl (Nat.le_of_ble_eq_true rfl) dX12_init_34 (fun H locs w => ?_)
  have w : kW D A s.heap H _ ((h0, .inr (12, [.ref q1, .ref q2, .ref q3, .int (iI 0), .int (iI 0), .int (iI 0), .int (iI 0), .int (iI 0), .ref q4, .int (iI 0), .null, .int (iI 0), .null, .null, .null, .null, .null, .null, .int (iI 0), .null, .null, .int (iI 0), .null, .int (iI 0), .int (iI 0), .int (iI 0), .null])) :: (bag ++ [(q1, .inl (cA 0, 44, .inl (fun j => iI (zr j)))), (q2, .inl (cA 0, 44, .inl (fun j => iI (zr j)))), (q3, .inl (cA 0, 200, .inl (fun j => iI (zr j)))), (q4, .inl (cA 0, 13, .inl (fun j => iI (zr j))))])) := w
  refine lv_aload_n hx hb dX12_init_37 rfl (lv_at hl 0 rfl) ?_
  refine lv_bipush (v := iI 6) hx hb dX12_init_38 (by decide +kernel) ?_
  refine kk_ni (N := 6) C0 w (by decide +kernel) (by decide +kernel) (Nat.le_of_ble_eq_true rfl) (Nat.le_of_ble_eq_true rfl) (Nat.le_of_ble_eq_true rfl) dX12_init_40 (fun q5 H w => ?_)
  have w := kw_ass w
  have w : kW D A s.heap H _ ((h0, .inr (12, [.ref q1, .ref q2, .ref q3, .int (iI 0), .int (iI 0), .int (iI 0), .int (iI 0), .int (iI 0), .ref q4, .int (iI 0), .null, .int (iI 0), .null, .null, .null, .null, .null, .null, .int (iI 0), .null, .null, .int (iI 0), .null, .int (iI 0), .int (iI 0), .int (iI 0), .null])) :: (bag ++ [(q1, .inl (cA 0, 44, .inl (fun j => iI (zr j)))), (q2, .inl (cA 0, 44, .inl (fun j => iI (zr j)))), (q3, .inl (cA 0, 200, .inl (fun j => iI (zr j)))), (q4, .inl (cA 0, 13, .inl (fun j => iI (zr j)))), (q5, .inl (cA 0, 6, .inl (fun j => iI (zr j))))])) := w
  refine kk_putF C0 fl_X12_22 rfl hin rfl w 0 rfl rfl rfl (Nat.le_of_ble_eq_true rfl) dX12_init_42 (fun H locs w => ?_)
  have w : kW D A s.heap H _ ((h0, .inr (12, [.ref q1, .ref q2, .ref q3, .int (iI 0), .int (iI 0), .int (iI 0), .int (iI 0), .int (iI 0), .ref q4, .int (iI 0), .ref q5, .int (iI 0), .null, .null, .null, .null, .null, .null, .int (iI 0), .null, .null, .int (iI 0), .null, .int (iI 0), .int (iI 0), .int (iI 0), .null])) :: (bag ++ [(q1, .inl (cA 0, 44, .inl (fun j => iI (zr j)))), (q2, .inl (cA 0, 44, .inl (fun j => iI (zr j)))), (q3, .inl (cA 0, 200, .inl (fun j => iI (zr j)))), (q4, .inl (cA 0, 13, .inl (fun j => iI (zr j)))), (q5, .inl (cA 0, 6, .inl (fun j => iI (zr j))))])) := w
  refine lv_aload_n hx hb dX12_init_45 rfl (lv_at hl 0 rfl) ?_
  refine lv_sipush (v := iI 390) hx hb dX12_init_46 (by decide +kernel) ?_
  refine kk_ni (N := 390) C0 w (by decide +kernel) (by decide +kernel) (Nat.le_of_ble_eq_true rfl) (Nat.le_of_ble_eq_true rfl) (Nat.le_of_ble_eq_true rfl) dX12_init_49 (fun q6 H w => ?_)
  have w := kw_ass w
  have w : kW D A s.heap H _ ((h0, .inr (12, [.ref q1, .ref q2, .ref q3, .int (iI 0), .int (iI 0), .int (iI 0), .int (iI 0), .int (iI 0), .ref q4, .int (iI 0), .ref q5, .int (iI 0), .null, .null, .null, .null, .null, .null, .int (iI 0), .null, .null, .int (iI 0), .null, .int (iI 0), .int (iI 0), .int (iI 0), .null])) :: (bag ++ [(q1, .inl (cA 0, 44, .inl (fun j => iI (zr j)))), (q2, .inl (cA 0, 44, .inl (fun j => iI (zr j)))), (q3, .inl (cA 0, 200, .inl (fun j => iI (zr j)))), (q4, .inl (cA 0, 13, .inl (fun j => iI (zr j)))), (q5, .inl (cA 0, 6, .inl (fun j => iI (zr j)))), (q6, .inl (cA 0, 390, .inl (fun j => iI (zr j))))])) := w
  refine kk_putF C0 fl_X12_25 rfl hin rfl w 0 rfl rfl rfl (Nat.le_of_ble_eq_true rfl) dX12_init_51 (fun H locs w => ?_)
  have w : kW D A s.heap H _ ((h0, .inr (12, [.ref q1, .ref q2, .ref q3, .int (iI 0), .int (iI 0), .int (iI 0), .int (iI 0), .int (iI 0), .ref q4, .int (iI 0), .ref q5, .int (iI 0), .ref q6, .null, .null, .null, .null, .null, .int (iI 0), .null, .null, .int (iI 0), .null, .int (iI 0), .int (iI 0), .int (iI 0), .null])) :: (bag ++ [(q1, .inl (cA 0, 44, .inl (fun j => iI (zr j)))), (q2, .inl (cA 0, 44, .inl (fun j => iI (zr j)))), (q3, .inl (cA 0, 200, .inl (fun j => iI (zr j)))), (q4, .inl (cA 0, 13, .inl (fun j => iI (zr j)))), (q5, .inl (cA 0, 6, .inl (fun j => iI (zr j)))), (q6, .inl (cA 0, 390, .inl (fun j => iI (zr j))))])) := w
  refine lv_aload_n hx hb dX12_init_54 rfl (lv_at hl 0 rfl) ?_
  refine lv_bipush (v := iI 13) hx hb dX12_init_55 (by decide +kernel) ?_
  refine kk_ni (N := 13) C0 w (by decide +kernel) (by decide +kernel) (Nat.le_of_ble_eq_true rfl) (Nat.le_of_ble_eq_true rfl) (Nat.le_of_ble_eq_true rfl) dX12_init_57 (fun q7 H w => ?_)
  have w := kw_ass w
  have w : kW D A s.heap H _ ((h0, .inr (12, [.ref q1, .ref q2, .ref q3, .int (iI 0), .int (iI 0), .int (iI 0), .int (iI 0), .int (iI 0), .ref q4, .int (iI 0), .ref q5, .int (iI 0), .ref q6, .null, .null, .null, .null, .null, .int (iI 0), .null, .null, .int (iI 0), .null, .int (iI 0), .int (iI 0), .int (iI 0), .null])) :: (bag ++ [(q1, .inl (cA 0, 44, .inl (fun j => iI (zr j)))), (q2, .inl (cA 0, 44, .inl (fun j => iI (zr j)))), (q3, .inl (cA 0, 200, .inl (fun j => iI (zr j)))), (q4, .inl (cA 0, 13, .inl (fun j => iI (zr j)))), (q5, .inl (cA 0, 6, .inl (fun j => iI (zr j)))), (q6, .inl (cA 0, 390, .inl (fun j => iI (zr j)))), (q7, .inl (cA 0, 13, .inl (fun j => iI (zr j))))])) := w
  refine kk_putF C0 fl_X12_28 rfl hin rfl w 0 rfl rfl rfl (Nat.le_of_ble_eq_true rfl) dX12_init_59 (fun H locs w => ?_)
  have w : kW D A s.heap H _ ((h0, .inr (12, [.ref q1, .ref q2, .ref q3, .int (iI 0), .int (iI 0), .int (iI 0), .int (iI 0), .int (iI 0), .ref q4, .int (iI 0), .ref q5, .int (iI 0), .ref q6, .ref q7, .null, .null, .null, .null, .int (iI 0), .null, .null, .int (iI 0), .null, .int (iI 0), .int (iI 0), .int (iI 0), .null])) :: (bag ++ [(q1, .inl (cA 0, 44, .inl (fun j => iI (zr j)))), (q2, .inl (cA 0, 44, .inl (fun j => iI (zr j)))), (q3, .inl (cA 0, 200, .inl (fun j => iI (zr j)))), (q4, .inl (cA 0, 13, .inl (fun j => iI (zr j)))), (q5, .inl (cA 0, 6, .inl (fun j => iI (zr j)))), (q6, .inl (cA 0, 390, .inl (fun j => iI (zr j)))), (q7, .inl (cA 0, 13, .inl (fun j => iI (zr j))))])) := w
  refine lv_aload_n hx hb dX12_init_62 rfl (lv_at hl 0 rfl) ?_
  refine lv_bipush (v := iI 6) hx hb dX12_init_63 (by decide +kernel) ?_
  refine kk_ni (N := 6) C0 w (by decide +kernel) (by decide +kernel) (Nat.le_of_ble_eq_true rfl) (Nat.le_of_ble_eq_true rfl) (Nat.le_of_ble_eq_true rfl) dX12_init_65 (fun q8 H w => ?_)
  have w := kw_ass w
  have w : kW D A s.heap H _ ((h0, .inr (12, [.ref q1, .ref q2, .ref q3, .int (iI 0), .int (iI 0), .int (iI 0), .int (iI 0), .int (iI 0), .ref q4, .int (iI 0), .ref q5, .int (iI 0), .ref q6, .ref q7, .null, .null, .null, .null, .int (iI 0), .null, .null, .int (iI 0), .null, .int (iI 0), .int (iI 0), .int (iI 0), .null])) :: (bag ++ [(q1, .inl (cA 0, 44, .inl (fun j => iI (zr j)))), (q2, .inl (cA 0, 44, .inl (fun j => iI (zr j)))), (q3, .inl (cA 0, 200, .inl (fun j => iI (zr j)))), (q4, .inl (cA 0, 13, .inl (fun j => iI (zr j)))), (q5, .inl (cA 0, 6, .inl (fun j => iI (zr j)))), (q6, .inl (cA 0, 390, .inl (fun j => iI (zr j)))), (q7, .inl (cA 0, 13, .inl (fun j => iI (zr j)))), (q8, .inl (cA 0, 6, .inl (fun j => iI (zr j))))])) := w
  refine kk_putF C0 fl_X12_31 rfl hin rfl w 0 rfl rfl rfl (Nat.le_of_ble_eq_true rfl) dX12_init_67 (fun H locs w => ?_)
  have w : kW D A s.heap H _ ((h0, .inr (12, [.ref q1, .ref q2, .ref q3, .int (iI 0), .int (iI 0), .int (iI 0), .int (iI 0), .int (iI 0), .ref q4, .int (iI 0), .ref q5, .int (iI 0), .ref q6, .ref q7, .ref q8, .null, .null, .null, .int (iI 0), .null, .null, .int (iI 0), .null, .int (iI 0), .int (iI 0), .int (iI 0), .null])) :: (bag ++ [(q1, .inl (cA 0, 44, .inl (fun j => iI (zr j)))), (q2, .inl (cA 0, 44, .inl (fun j => iI (zr j)))), (q3, .inl (cA 0, 200, .inl (fun j => iI (zr j)))), (q4, .inl (cA 0, 13, .inl (fun j => iI (zr j)))), (q5, .inl (cA 0, 6, .inl (fun j => iI (zr j)))), (q6, .inl (cA 0, 390, .inl (fun j => iI (zr j)))), (q7, .inl (cA 0, 13, .inl (fun j => iI (zr j)))), (q8, .inl (cA 0, 6, .inl (fun j => iI (zr j))))])) := w
  refine lv_aload_n hx hb dX12_init_70 rfl (lv_at hl 0 rfl) ?_
  refine lv_bipush (v := iI 6) hx hb dX12_init_71 (by decide +kernel) ?_
  refine kk_ni (N := 6) C0 w (by decide +kernel) (by decide +kernel) (Nat.le_of_ble_eq_true rfl) (Nat.le_of_ble_eq_true rfl) (Nat.le_of_ble_eq_true rfl) dX12_init_73 (fun q9 H w => ?_)
  have w := kw_ass w
  have w : kW D A s.heap H _ ((h0, .inr (12, [.ref q1, .ref q2, .ref q3, .int (iI 0), .int (iI 0), .int (iI 0), .int (iI 0), .int (iI 0), .ref q4, .int (iI 0), .ref q5, .int (iI 0), .ref q6, .ref q7, .ref q8, .null, .null, .null, .int (iI 0), .null, .null, .int (iI 0), .null, .int (iI 0), .int (iI 0), .int (iI 0), .null])) :: (bag ++ [(q1, .inl (cA 0, 44, .inl (fun j => iI (zr j)))), (q2, .inl (cA 0, 44, .inl (fun j => iI (zr j)))), (q3, .inl (cA 0, 200, .inl (fun j => iI (zr j)))), (q4, .inl (cA 0, 13, .inl (fun j => iI (zr j)))), (q5, .inl (cA 0, 6, .inl (fun j => iI (zr j)))), (q6, .inl (cA 0, 390, .inl (fun j => iI (zr j)))), (q7, .inl (cA 0, 13, .inl (fun j => iI (zr j)))), (q8, .inl (cA 0, 6, .inl (fun j => iI (zr j)))), (q9, .inl (cA 0, 6, .inl (fun j => iI (zr j))))])) := w
  refine kk_putF C0 fl_X12_34 rfl hin rfl w 0 rfl rfl rfl (Nat.le_of_ble_eq_true rfl) dX12_init_75 (fun H locs w => ?_)
  have w : kW D A s.heap H _ ((h0, .inr (12, [.ref q1, .ref q2, .ref q3, .int (iI 0), .int (iI 0), .int (iI 0), .int (iI 0), .int (iI 0), .ref q4, .int (iI 0), .ref q5, .int (iI 0), .ref q6, .ref q7, .ref q8, .ref q9, .null, .null, .int (iI 0), .null, .null, .int (iI 0), .null, .int (iI 0), .int (iI 0), .int (iI 0), .null])) :: (bag ++ [(q1, .inl (cA 0, 44, .inl (fun j => iI (zr j)))), (q2, .inl (cA 0, 44, .inl (fun j => iI (zr j)))), (q3, .inl (cA 0, 200, .inl (fun j => iI (zr j)))), (q4, .inl (cA 0, 13, .inl (fun j => iI (zr j)))), (q5, .inl (cA 0, 6, .inl (fun j => iI (zr j)))), (q6, .inl (cA 0, 390, .inl (fun j => iI (zr j)))), (q7, .inl (cA 0, 13, .inl (fun j => iI (zr j)))), (q8, .inl (cA 0, 6, .inl (fun j => iI (zr j)))), (q9, .inl (cA 0, 6, .inl (fun j => iI (zr j))))])) := w
  refine lv_aload_n hx hb dX12_init_78 rfl (lv_at hl 0 rfl) ?_
  refine lv_bipush (v := iI 6) hx hb dX12_init_79 (by decide +kernel) ?_
  refine kk_ni (N := 6) C0 w (by decide +kernel) (by decide +kernel) (Nat.le_of_ble_eq_true rfl) (Nat.le_of_ble_eq_true rfl) (Nat.le_of_ble_eq_true rfl) dX12_init_81 (fun q10 H w => ?_)
  have w := kw_ass w
  have w : kW D A s.heap H _ ((h0, .inr (12, [.ref q1, .ref q2, .ref q3, .int (iI 0), .int (iI 0), .int (iI 0), .int (iI 0), .int (iI 0), .ref q4, .int (iI 0), .ref q5, .int (iI 0), .ref q6, .ref q7, .ref q8, .ref q9, .null, .null, .int (iI 0), .null, .null, .int (iI 0), .null, .int (iI 0), .int (iI 0), .int (iI 0), .null])) :: (bag ++ [(q1, .inl (cA 0, 44, .inl (fun j => iI (zr j)))), (q2, .inl (cA 0, 44, .inl (fun j => iI (zr j)))), (q3, .inl (cA 0, 200, .inl (fun j => iI (zr j)))), (q4, .inl (cA 0, 13, .inl (fun j => iI (zr j)))), (q5, .inl (cA 0, 6, .inl (fun j => iI (zr j)))), (q6, .inl (cA 0, 390, .inl (fun j => iI (zr j)))), (q7, .inl (cA 0, 13, .inl (fun j => iI (zr j)))), (q8, .inl (cA 0, 6, .inl (fun j => iI (zr j)))), (q9, .inl (cA 0, 6, .inl (fun j => iI (zr j)))), (q10, .inl (cA 0, 6, .inl (fun j => iI (zr j))))])) := w
  refine kk_putF C0 fl_X12_37 rfl hin rfl w 0 rfl rfl rfl (Nat.le_of_ble_eq_true rfl) dX12_init_83 (fun H locs w => ?_)
  have w : kW D A s.heap H _ ((h0, .inr (12, [.ref q1, .ref q2, .ref q3, .int (iI 0), .int (iI 0), .int (iI 0), .int (iI 0), .int (iI 0), .ref q4, .int (iI 0), .ref q5, .int (iI 0), .ref q6, .ref q7, .ref q8, .ref q9, .ref q10, .null, .int (iI 0), .null, .null, .int (iI 0), .null, .int (iI 0), .int (iI 0), .int (iI 0), .null])) :: (bag ++ [(q1, .inl (cA 0, 44, .inl (fun j => iI (zr j)))), (q2, .inl (cA 0, 44, .inl (fun j => iI (zr j)))), (q3, .inl (cA 0, 200, .inl (fun j => iI (zr j)))), (q4, .inl (cA 0, 13, .inl (fun j => iI (zr j)))), (q5, .inl (cA 0, 6, .inl (fun j => iI (zr j)))), (q6, .inl (cA 0, 390, .inl (fun j => iI (zr j)))), (q7, .inl (cA 0, 13, .inl (fun j => iI (zr j)))), (q8, .inl (cA 0, 6, .inl (fun j => iI (zr j)))), (q9, .inl (cA 0, 6, .inl (fun j => iI (zr j)))), (q10, .inl (cA 0, 6, .inl (fun j => iI (zr j))))])) := w
  refine lv_aload_n hx hb dX12_init_86 rfl (lv_at hl 0 rfl) ?_
  refine lv_sipush (v := iI 2412) hx hb dX12_init_87 (by decide +kernel) ?_
  refine kk_ni (N := 2412) C0 w (by decide +kernel) (by decide +kernel) (Nat.le_of_ble_eq_true rfl) (Nat.le_of_ble_eq_true rfl) (Nat.le_of_ble_eq_true rfl) dX12_init_90 (fun q11 H w => ?_)
  have w := kw_ass w
  have w : kW D A s.heap H _ ((h0, .inr (12, [.ref q1, .ref q2, .ref q3, .int (iI 0), .int (iI 0), .int (iI 0), .int (iI 0), .int (iI 0), .ref q4, .int (iI 0), .ref q5, .int (iI 0), .ref q6, .ref q7, .ref q8, .ref q9, .ref q10, .null, .int (iI 0), .null, .null, .int (iI 0), .null, .int (iI 0), .int (iI 0), .int (iI 0), .null])) :: (bag ++ [(q1, .inl (cA 0, 44, .inl (fun j => iI (zr j)))), (q2, .inl (cA 0, 44, .inl (fun j => iI (zr j)))), (q3, .inl (cA 0, 200, .inl (fun j => iI (zr j)))), (q4, .inl (cA 0, 13, .inl (fun j => iI (zr j)))), (q5, .inl (cA 0, 6, .inl (fun j => iI (zr j)))), (q6, .inl (cA 0, 390, .inl (fun j => iI (zr j)))), (q7, .inl (cA 0, 13, .inl (fun j => iI (zr j)))), (q8, .inl (cA 0, 6, .inl (fun j => iI (zr j)))), (q9, .inl (cA 0, 6, .inl (fun j => iI (zr j)))), (q10, .inl (cA 0, 6, .inl (fun j => iI (zr j)))), (q11, .inl (cA 0, 2412, .inl (fun j => iI (zr j))))])) := w
  refine kk_putF C0 fl_X12_40 rfl hin rfl w 0 rfl rfl rfl (Nat.le_of_ble_eq_true rfl) dX12_init_92 (fun H locs w => ?_)
  have w : kW D A s.heap H _ ((h0, .inr (12, [.ref q1, .ref q2, .ref q3, .int (iI 0), .int (iI 0), .int (iI 0), .int (iI 0), .int (iI 0), .ref q4, .int (iI 0), .ref q5, .int (iI 0), .ref q6, .ref q7, .ref q8, .ref q9, .ref q10, .ref q11, .int (iI 0), .null, .null, .int (iI 0), .null, .int (iI 0), .int (iI 0), .int (iI 0), .null])) :: (bag ++ [(q1, .inl (cA 0, 44, .inl (fun j => iI (zr j)))), (q2, .inl (cA 0, 44, .inl (fun j => iI (zr j)))), (q3, .inl (cA 0, 200, .inl (fun j => iI (zr j)))), (q4, .inl (cA 0, 13, .inl (fun j => iI (zr j)))), (q5, .inl (cA 0, 6, .inl (fun j => iI (zr j)))), (q6, .inl (cA 0, 390, .inl (fun j => iI (zr j)))), (q7, .inl (cA 0, 13, .inl (fun j => iI (zr j)))), (q8, .inl (cA 0, 6, .inl (fun j => iI (zr j)))), (q9, .inl (cA 0, 6, .inl (fun j => iI (zr j)))), (q10, .inl (cA 0, 6, .inl (fun j => iI (zr j)))), (q11, .inl (cA 0, 2412, .inl (fun j => iI (zr j))))])) := w
  refine lv_aload_n hx hb dX12_init_95 rfl (lv_at hl 0 rfl) ?_
  refine lv_bipush (v := iI 6) hx hb dX12_init_96 (by decide +kernel) ?_
  refine kk_ni (N := 6) C0 w (by decide +kernel) (by decide +kernel) (Nat.le_of_ble_eq_true rfl) (Nat.le_of_ble_eq_true rfl) (Nat.le_of_ble_eq_true rfl) dX12_init_98 (fun q12 H w => ?_)
  have w := kw_ass w
  have w : kW D A s.heap H _ ((h0, .inr (12, [.ref q1, .ref q2, .ref q3, .int (iI 0), .int (iI 0), .int (iI 0), .int (iI 0), .int (iI 0), .ref q4, .int (iI 0), .ref q5, .int (iI 0), .ref q6, .ref q7, .ref q8, .ref q9, .ref q10, .ref q11, .int (iI 0), .null, .null, .int (iI 0), .null, .int (iI 0), .int (iI 0), .int (iI 0), .null])) :: (bag ++ [(q1, .inl (cA 0, 44, .inl (fun j => iI (zr j)))), (q2, .inl (cA 0, 44, .inl (fun j => iI (zr j)))), (q3, .inl (cA 0, 200, .inl (fun j => iI (zr j)))), (q4, .inl (cA 0, 13, .inl (fun j => iI (zr j)))), (q5, .inl (cA 0, 6, .inl (fun j => iI (zr j)))), (q6, .inl (cA 0, 390, .inl (fun j => iI (zr j)))), (q7, .inl (cA 0, 13, .inl (fun j => iI (zr j)))), (q8, .inl (cA 0, 6, .inl (fun j => iI (zr j)))), (q9, .inl (cA 0, 6, .inl (fun j => iI (zr j)))), (q10, .inl (cA 0, 6, .inl (fun j => iI (zr j)))), (q11, .inl (cA 0, 2412, .inl (fun j => iI (zr j)))), (q12, .inl (cA 0, 6, .inl (fun j => iI (zr j))))])) := w
  refine kk_putF C0 fl_X12_43 rfl hin rfl w 0 rfl rfl rfl (Nat.le_of_ble_eq_true rfl) dX12_init_100 (fun H locs w => ?_)
  have w : kW D A s.heap H _ ((h0, .inr (12, [.ref q1, .ref q2, .ref q3, .int (iI 0), .int (iI 0), .int (iI 0), .int (iI 0), .int (iI 0), .ref q4, .int (iI 0), .ref q5, .int (iI 0), .ref q6, .ref q7, .ref q8, .ref q9, .ref q10, .ref q11, .int (iI 0), .ref q12, .null, .int (iI 0), .null, .int (iI 0), .int (iI 0), .int (iI 0), .null])) :: (bag ++ [(q1, .inl (cA 0, 44, .inl (fun j => iI (zr j)))), (q2, .inl (cA 0, 44, .inl (fun j => iI (zr j)))), (q3, .inl (cA 0, 200, .inl (fun j => iI (zr j)))), (q4, .inl (cA 0, 13, .inl (fun j => iI (zr j)))), (q5, .inl (cA 0, 6, .inl (fun j => iI (zr j)))), (q6, .inl (cA 0, 390, .inl (fun j => iI (zr j)))), (q7, .inl (cA 0, 13, .inl (fun j => iI (zr j)))), (q8, .inl (cA 0, 6, .inl (fun j => iI (zr j)))), (q9, .inl (cA 0, 6, .inl (fun j => iI (zr j)))), (q10, .inl (cA 0, 6, .inl (fun j => iI (zr j)))), (q11, .inl (cA 0, 2412, .inl (fun j => iI (zr j)))), (q12, .inl (cA 0, 6, .inl (fun j => iI (zr j))))])) := w
  refine lv_aload_n hx hb dX12_init_103 rfl (lv_at hl 0 rfl) ?_
  refine lv_bipush (v := iI 6) hx hb dX12_init_104 (by decide +kernel) ?_
  refine kk_ni (N := 6) C0 w (by decide +kernel) (by decide +kernel) (Nat.le_of_ble_eq_true rfl) (Nat.le_of_ble_eq_true rfl) (Nat.le_of_ble_eq_true rfl) dX12_init_106 (fun q13 H w => ?_)
  have w := kw_ass w
  have w : kW D A s.heap H _ ((h0, .inr (12, [.ref q1, .ref q2, .ref q3, .int (iI 0), .int (iI 0), .int (iI 0), .int (iI 0), .int (iI 0), .ref q4, .int (iI 0), .ref q5, .int (iI 0), .ref q6, .ref q7, .ref q8, .ref q9, .ref q10, .ref q11, .int (iI 0), .ref q12, .null, .int (iI 0), .null, .int (iI 0), .int (iI 0), .int (iI 0), .null])) :: (bag ++ [(q1, .inl (cA 0, 44, .inl (fun j => iI (zr j)))), (q2, .inl (cA 0, 44, .inl (fun j => iI (zr j)))), (q3, .inl (cA 0, 200, .inl (fun j => iI (zr j)))), (q4, .inl (cA 0, 13, .inl (fun j => iI (zr j)))), (q5, .inl (cA 0, 6, .inl (fun j => iI (zr j)))), (q6, .inl (cA 0, 390, .inl (fun j => iI (zr j)))), (q7, .inl (cA 0, 13, .inl (fun j => iI (zr j)))), (q8, .inl (cA 0, 6, .inl (fun j => iI (zr j)))), (q9, .inl (cA 0, 6, .inl (fun j => iI (zr j)))), (q10, .inl (cA 0, 6, .inl (fun j => iI (zr j)))), (q11, .inl (cA 0, 2412, .inl (fun j => iI (zr j)))), (q12, .inl (cA 0, 6, .inl (fun j => iI (zr j)))), (q13, .inl (cA 0, 6, .inl (fun j => iI (zr j))))])) := w
  refine kk_putF C0 fl_X12_46 rfl hin rfl w 0 rfl rfl rfl (Nat.le_of_ble_eq_true rfl) dX12_init_108 (fun H locs w => ?_)
  have w : kW D A s.heap H _ ((h0, .inr (12, [.ref q1, .ref q2, .ref q3, .int (iI 0), .int (iI 0), .int (iI 0), .int (iI 0), .int (iI 0), .ref q4, .int (iI 0), .ref q5, .int (iI 0), .ref q6, .ref q7, .ref q8, .ref q9, .ref q10, .ref q11, .int (iI 0), .ref q12, .ref q13, .int (iI 0), .null, .int (iI 0), .int (iI 0), .int (iI 0), .null])) :: (bag ++ [(q1, .inl (cA 0, 44, .inl (fun j => iI (zr j)))), (q2, .inl (cA 0, 44, .inl (fun j => iI (zr j)))), (q3, .inl (cA 0, 200, .inl (fun j => iI (zr j)))), (q4, .inl (cA 0, 13, .inl (fun j => iI (zr j)))), (q5, .inl (cA 0, 6, .inl (fun j => iI (zr j)))), (q6, .inl (cA 0, 390, .inl (fun j => iI (zr j)))), (q7, .inl (cA 0, 13, .inl (fun j => iI (zr j)))), (q8, .inl (cA 0, 6, .inl (fun j => iI (zr j)))), (q9, .inl (cA 0, 6, .inl (fun j => iI (zr j)))), (q10, .inl (cA 0, 6, .inl (fun j => iI (zr j)))), (q11, .inl (cA 0, 2412, .inl (fun j => iI (zr j)))), (q12, .inl (cA 0, 6, .inl (fun j => iI (zr j)))), (q13, .inl (cA 0, 6, .inl (fun j => iI (zr j))))])) := w
  refine lv_aload_n hx hb dX12_init_111 rfl (lv_at hl 0 rfl) ?_
  refine lv_bipush (v := iI 20) hx hb dX12_init_112 (by decide +kernel) ?_
  refine kk_ni (N := 20) C0 w (by decide +kernel) (by decide +kernel) (Nat.le_of_ble_eq_true rfl) (Nat.le_of_ble_eq_true rfl) (Nat.le_of_ble_eq_true rfl) dX12_init_114 (fun q14 H w => ?_)
  have w := kw_ass w
  have w : kW D A s.heap H _ ((h0, .inr (12, [.ref q1, .ref q2, .ref q3, .int (iI 0), .int (iI 0), .int (iI 0), .int (iI 0), .int (iI 0), .ref q4, .int (iI 0), .ref q5, .int (iI 0), .ref q6, .ref q7, .ref q8, .ref q9, .ref q10, .ref q11, .int (iI 0), .ref q12, .ref q13, .int (iI 0), .null, .int (iI 0), .int (iI 0), .int (iI 0), .null])) :: (bag ++ [(q1, .inl (cA 0, 44, .inl (fun j => iI (zr j)))), (q2, .inl (cA 0, 44, .inl (fun j => iI (zr j)))), (q3, .inl (cA 0, 200, .inl (fun j => iI (zr j)))), (q4, .inl (cA 0, 13, .inl (fun j => iI (zr j)))), (q5, .inl (cA 0, 6, .inl (fun j => iI (zr j)))), (q6, .inl (cA 0, 390, .inl (fun j => iI (zr j)))), (q7, .inl (cA 0, 13, .inl (fun j => iI (zr j)))), (q8, .inl (cA 0, 6, .inl (fun j => iI (zr j)))), (q9, .inl (cA 0, 6, .inl (fun j => iI (zr j)))), (q10, .inl (cA 0, 6, .inl (fun j => iI (zr j)))), (q11, .inl (cA 0, 2412, .inl (fun j => iI (zr j)))), (q12, .inl (cA 0, 6, .inl (fun j => iI (zr j)))), (q13, .inl (cA 0, 6, .inl (fun j => iI (zr j)))), (q14, .inl (cA 0, 20, .inl (fun j => iI (zr j))))])) := w
  refine kk_putF C0 fl_X12_49 rfl hin rfl w 0 rfl rfl rfl (Nat.le_of_ble_eq_true rfl) dX12_init_116 (fun H locs w => ?_)
  have w : kW D A s.heap H _ ((h0, .inr (12, [.ref q1, .ref q2, .ref q3, .int (iI 0), .int (iI 0), .int (iI 0), .int (iI 0), .int (iI 0), .ref q4, .int (iI 0), .ref q5, .int (iI 0), .ref q6, .ref q7, .ref q8, .ref q9, .ref q10, .ref q11, .int (iI 0), .ref q12, .ref q13, .int (iI 0), .ref q14, .int (iI 0), .int (iI 0), .int (iI 0), .null])) :: (bag ++ [(q1, .inl (cA 0, 44, .inl (fun j => iI (zr j)))), (q2, .inl (cA 0, 44, .inl (fun j => iI (zr j)))), (q3, .inl (cA 0, 200, .inl (fun j => iI (zr j)))), (q4, .inl (cA 0, 13, .inl (fun j => iI (zr j)))), (q5, .inl (cA 0, 6, .inl (fun j => iI (zr j)))), (q6, .inl (cA 0, 390, .inl (fun j => iI (zr j)))), (q7, .inl (cA 0, 13, .inl (fun j => iI (zr j)))), (q8, .inl (cA 0, 6, .inl (fun j => iI (zr j)))), (q9, .inl (cA 0, 6, .inl (fun j => iI (zr j)))), (q10, .inl (cA 0, 6, .inl (fun j => iI (zr j)))), (q11, .inl (cA 0, 2412, .inl (fun j => iI (zr j)))), (q12, .inl (cA 0, 6, .inl (fun j => iI (zr j)))), (q13, .inl (cA 0, 6, .inl (fun j => iI (zr j)))), (q14, .inl (cA 0, 20, .inl (fun j => iI (zr j))))])) := w
  refine lv_aload_n hx hb dX12_init_119 rfl (lv_at hl 0 rfl) ?_
  refine lv_bipush (v := iI 30) hx hb dX12_init_120 (by decide +kernel) ?_
  refine kk_ni (N := 30) C0 w (by decide +kernel) (by decide +kernel) (Nat.le_of_ble_eq_true rfl) (Nat.le_of_ble_eq_true rfl) (Nat.le_of_ble_eq_true rfl) dX12_init_122 (fun q15 H w => ?_)
  have w := kw_ass w
  have w : kW D A s.heap H _ ((h0, .inr (12, [.ref q1, .ref q2, .ref q3, .int (iI 0), .int (iI 0), .int (iI 0), .int (iI 0), .int (iI 0), .ref q4, .int (iI 0), .ref q5, .int (iI 0), .ref q6, .ref q7, .ref q8, .ref q9, .ref q10, .ref q11, .int (iI 0), .ref q12, .ref q13, .int (iI 0), .ref q14, .int (iI 0), .int (iI 0), .int (iI 0), .null])) :: (bag ++ [(q1, .inl (cA 0, 44, .inl (fun j => iI (zr j)))), (q2, .inl (cA 0, 44, .inl (fun j => iI (zr j)))), (q3, .inl (cA 0, 200, .inl (fun j => iI (zr j)))), (q4, .inl (cA 0, 13, .inl (fun j => iI (zr j)))), (q5, .inl (cA 0, 6, .inl (fun j => iI (zr j)))), (q6, .inl (cA 0, 390, .inl (fun j => iI (zr j)))), (q7, .inl (cA 0, 13, .inl (fun j => iI (zr j)))), (q8, .inl (cA 0, 6, .inl (fun j => iI (zr j)))), (q9, .inl (cA 0, 6, .inl (fun j => iI (zr j)))), (q10, .inl (cA 0, 6, .inl (fun j => iI (zr j)))), (q11, .inl (cA 0, 2412, .inl (fun j => iI (zr j)))), (q12, .inl (cA 0, 6, .inl (fun j => iI (zr j)))), (q13, .inl (cA 0, 6, .inl (fun j => iI (zr j)))), (q14, .inl (cA 0, 20, .inl (fun j => iI (zr j)))), (q15, .inl (cA 0, 30, .inl (fun j => iI (zr j))))])) := w
  refine kk_putF C0 fl_X12_52 rfl hin rfl w 0 rfl rfl rfl (Nat.le_of_ble_eq_true rfl) dX12_init_124 (fun H locs w => ?_)
  have w : kW D A s.heap H _ ((h0, .inr (12, [.ref q1, .ref q2, .ref q3, .int (iI 0), .int (iI 0), .int (iI 0), .int (iI 0), .int (iI 0), .ref q4, .int (iI 0), .ref q5, .int (iI 0), .ref q6, .ref q7, .ref q8, .ref q9, .ref q10, .ref q11, .int (iI 0), .ref q12, .ref q13, .int (iI 0), .ref q14, .int (iI 0), .int (iI 0), .int (iI 0), .ref q15])) :: (bag ++ [(q1, .inl (cA 0, 44, .inl (fun j => iI (zr j)))), (q2, .inl (cA 0, 44, .inl (fun j => iI (zr j)))), (q3, .inl (cA 0, 200, .inl (fun j => iI (zr j)))), (q4, .inl (cA 0, 13, .inl (fun j => iI (zr j)))), (q5, .inl (cA 0, 6, .inl (fun j => iI (zr j)))), (q6, .inl (cA 0, 390, .inl (fun j => iI (zr j)))), (q7, .inl (cA 0, 13, .inl (fun j => iI (zr j)))), (q8, .inl (cA 0, 6, .inl (fun j => iI (zr j)))), (q9, .inl (cA 0, 6, .inl (fun j => iI (zr j)))), (q10, .inl (cA 0, 6, .inl (fun j => iI (zr j)))), (q11, .inl (cA 0, 2412, .inl (fun j => iI (zr j)))), (q12, .inl (cA 0, 6, .inl (fun j => iI (zr j)))), (q13, .inl (cA 0, 6, .inl (fun j => iI (zr j)))), (q14, .inl (cA 0, 20, .inl (fun j => iI (zr j)))), (q15, .inl (cA 0, 30, .inl (fun j => iI (zr j))))])) := w
  refine lv_aload_n hx hb dX12_init_127 rfl (lv_at hl 0 rfl) ?_
  refine lv_iconst (v := iI (-1)) hx hb dX12_init_128 rfl ?_
  refine kk_put C0 fl_X12_55 rfl w 0 rfl rfl rfl (Nat.le_of_ble_eq_true rfl) dX12_init_129 (fun H locs w => ?_)
  have w : kW D A s.heap H _ ((h0, .inr (12, [.ref q1, .ref q2, .ref q3, .int (iI 0), .int (iI 0), .int (iI 0), .int (iI (-1)), .int (iI 0), .ref q4, .int (iI 0), .ref q5, .int (iI 0), .ref q6, .ref q7, .ref q8, .ref q9, .ref q10, .ref q11, .int (iI 0), .ref q12, .ref q13, .int (iI 0), .ref q14, .int (iI 0), .int (iI 0), .int (iI 0), .ref q15])) :: (bag ++ [(q1, .inl (cA 0, 44, .inl (fun j => iI (zr j)))), (q2, .inl (cA 0, 44, .inl (fun j => iI (zr j)))), (q3, .inl (cA 0, 200, .inl (fun j => iI (zr j)))), (q4, .inl (cA 0, 13, .inl (fun j => iI (zr j)))), (q5, .inl (cA 0, 6, .inl (fun j => iI (zr j)))), (q6, .inl (cA 0, 390, .inl (fun j => iI (zr j)))), (q7, .inl (cA 0, 13, .inl (fun j => iI (zr j)))), (q8, .inl (cA 0, 6, .inl (fun j => iI (zr j)))), (q9, .inl (cA 0, 6, .inl (fun j => iI (zr j)))), (q10, .inl (cA 0, 6, .inl (fun j => iI (zr j)))), (q11, .inl (cA 0, 2412, .inl (fun j => iI (zr j)))), (q12, .inl (cA 0, 6, .inl (fun j => iI (zr j)))), (q13, .inl (cA 0, 6, .inl (fun j => iI (zr j)))), (q14, .inl (cA 0, 20, .inl (fun j => iI (zr j)))), (q15, .inl (cA 0, 30, .inl (fun j => iI (zr j))))])) := w
  refine lv_aload_n hx hb dX12_init_132 rfl (lv_at hl 0 rfl) ?_
  obtain ⟨wm, hI⟩ := model_laid (ad := adM ad0 [h0, q1, q2, q3, q4, q5, q6, q7, q8, q9, q10, q11, q12, q13, q14, q15]) (σ := sgM σ0) w hbag
    (fun c hc => if_pos hc) (fun c hc => if_pos hc) rfl rfl (fun i hi => match i, hi with
      | 0, _ => rfl
      | 1, _ => rfl
      | 2, _ => rfl
      | 3, _ => rfl
      | 4, _ => rfl
      | 5, _ => rfl
      | 6, _ => rfl
      | 7, _ => rfl
      | 8, _ => rfl
      | 9, _ => rfl
      | 10, _ => rfl
      | 11, _ => rfl
      | 12, _ => rfl
      | 13, _ => rfl
      | 14, _ => rfl
      | i + 15, hi => absurd hi (by omega))
  have e65 : adM ad0 [h0, q1, q2, q3, q4, q5, q6, q7, q8, q9, q10, q11, q12, q13, q14, q15] 65 = h0 := rfl
  have e0 : adM ad0 [h0, q1, q2, q3, q4, q5, q6, q7, q8, q9, q10, q11, q12, q13, q14, q15] 0 = ad0 0 := rfl
  generalize adM ad0 [h0, q1, q2, q3, q4, q5, q6, q7, q8, q9, q10, q11, q12, q13, q14, q15] = ad at wm hI e65 e0
  subst e65
  have hw := rel_start (σ := sgM σ0) (init_M hin0) rfl rfl rfl
  generalize sgM σ0 = σ at wm hw
  refine kk_wv (n := 0) (As := []) (rest := []) C0 hI cl_X12_59 (ok_X12_plain hI hw) wm (by decide) sh_65 rfl rfl rfl (Nat.le_of_ble_eq_true rfl) ⟨(Nat.le_of_ble_eq_true rfl), (Nat.le_of_ble_eq_true rfl)⟩ hl.1 dX12_init_133 ⟨(Nat.le_of_ble_eq_true rfl), (Nat.le_of_ble_eq_true rfl)⟩ (fun u1 H locs hw wm => ?_)
  refine lv_aload_n hx hb dX12_init_136 rfl (lv_at hl 0 rfl) ?_
  refine kk_wv (n := 0) (As := []) (rest := []) C0 hI cl_X12_62 (ok_X12_starts hI hw) wm (by decide) sh_65 rfl rfl rfl (Nat.le_of_ble_eq_true rfl) ⟨(Nat.le_of_ble_eq_true rfl), (Nat.le_of_ble_eq_true rfl)⟩ hl.1 dX12_init_137 ⟨(Nat.le_of_ble_eq_true rfl), (Nat.le_of_ble_eq_true rfl)⟩ (fun u2 H locs hw wm => ?_)
  refine W.widen (k := 15) (n := 3202) (Nat.le_of_ble_eq_true rfl) (Nat.le_of_ble_eq_true rfl) ?_
  exact hret _ _ _ _ _ ⟨ad, u2, e0, rfl, hw, hI, rfl⟩ wm dX12_init_140
