abbrev zr : Nat → Int := fun _ => 0
theorem df_X0 : ∀ j, j < 10 → defaultValue (tyX0 j) = vp_V [.int (iI 0), .int (iI 0), .int (iI 0), .int (iI 0), .null, .null, .null, .null, .null, .null] j := by decide +kernel
theorem df_X1 : ∀ j, j < 2 → defaultValue (tyX1 j) = vp_V [.null, .int (iI 0)] j := by decide +kernel
theorem df_X2 : ∀ j, j < 4 → defaultValue (tyX2 j) = vp_V [.int (iI 0), .long (iL 0), .int (iI 0), .int (iI 0)] j := by decide +kernel
theorem df_X3 : ∀ j, j < 9 → defaultValue (tyX3 j) = vp_V [.null, .null, .null, .null, .int (iI 0), .int (iI 0), .null, .null, .int (iI 0)] j := by decide +kernel
theorem df_X4 : ∀ j, j < 4 → defaultValue (tyX4 j) = vp_V [.null, .null, .null, .int (iI 0)] j := by decide +kernel
theorem df_X5 : ∀ j, j < 4 → defaultValue (tyX5 j) = vp_V [.null, .null, .int (iI 0), .int (iI 0)] j := by decide +kernel
theorem df_X6 : ∀ j, j < 9 → defaultValue (tyX6 j) = vp_V [.null, .null, .int (iI 0), .int (iI 0), .int (iI 0), .int (iI 0), .int (iI 0), .int (iI 0), .int (iI 0)] j := by decide +kernel
theorem df_X7 : ∀ j, j < 3 → defaultValue (tyX7 j) = vp_V [.null, .int (iI 0), .int (iI 0)] j := by decide +kernel
theorem df_X8 : ∀ j, j < 4 → defaultValue (tyX8 j) = vp_V [.null, .null, .int (iI 0), .int (iI 0)] j := by decide +kernel
theorem df_X9 : ∀ j, j < 6 → defaultValue (tyX9 j) = vp_V [.null, .null, .int (iI 0), .int (iI 0), .int (iI 0), .int (iI 0)] j := by decide +kernel
theorem df_X10 : ∀ j, j < 5 → defaultValue (tyX10 j) = vp_V [.null, .null, .null, .int (iI 0), .int (iI 0)] j := by decide +kernel
def pX0 (cA : Nat → ClassId) (h0 : Nat) (w : va_W) : Prop := ∃ (q1 q2 q3 q4 q5 q6 : Nat), w = [(h0, .inr (0, [.int (iI 0), .int (iI 0), .int (iI 0), .int (iI 1), .ref q1, .ref q2, .ref q3, .ref q4, .ref q5, .ref q6])), (q1, .inl (cA 0, 6, .inl (fun j => iI (zr j)))), (q2, .inl (cA 0, 6, .inl (fun j => iI (zr j)))), (q3, .inl (cA 0, 6, .inl (fun j => iI (zr j)))), (q4, .inl (cA 0, 6, .inl (fun j => iI (zr j)))), (q5, .inl (cA 0, 6, .inl (fun j => iI (zr j)))), (q6, .inl (cA 0, 8, .inl (fun j => iI (zr j))))]
set_option maxHeartbeats 4000000 in
theorem kn_X0 {l : Launch} {D : va_G} {cA : Nat → ClassId} {h0 : Nat} : kM l D cA yX0_init cX0_init 1 1 6 38 [.ref h0] [(h0, .inr (0, [.int (iI 0), .int (iI 0), .int (iI 0), .int (iI 0), .null, .null, .null, .null, .null, .null]))] (pX0 cA h0) := by
  refine kk_of (by decide) rfl (Nat.le_of_ble_eq_true rfl) ?_
  intro p e s m below meth c AA A QQ ls C0 hin w hret hl
  have hx := C0.1
  have hb := C0.2.1
  have hl : lv_has ls 1 [(0, .ref h0)] := hl
  refine lv_aload_n hx hb dX0_init_0 rfl (lv_at hl 0 rfl) ?_
  refine kk_oi C0 hl.1 oi_X0 ⟨(Nat.le_of_ble_eq_true rfl), (Nat.le_of_ble_eq_true rfl)⟩ dX0_init_1 ?_
  refine lv_aload_n hx hb dX0_init_4 rfl (lv_at hl 0 rfl) ?_
  refine lv_bipush (v := iI 6) hx hb dX0_init_5 (by decide +kernel) ?_
  refine kk_ni (N := 6) C0 w (by decide +kernel) (by decide +kernel) (Nat.le_of_ble_eq_true rfl) (Nat.le_of_ble_eq_true rfl) (Nat.le_of_ble_eq_true rfl) dX0_init_7 (fun q1 H w => ?_)
  have w : kW D A s.heap H _ [(h0, .inr (0, [.int (iI 0), .int (iI 0), .int (iI 0), .int (iI 0), .null, .null, .null, .null, .null, .null])), (q1, .inl (cA 0, 6, .inl (fun j => iI (zr j))))] := w
  refine kk_putF C0 fl_X0_9 rfl hin rfl w 0 rfl rfl rfl (Nat.le_of_ble_eq_true rfl) dX0_init_9 (fun H locs w => ?_)
  have w : kW D A s.heap H _ [(h0, .inr (0, [.int (iI 0), .int (iI 0), .int (iI 0), .int (iI 0), .ref q1, .null, .null, .null, .null, .null])), (q1, .inl (cA 0, 6, .inl (fun j => iI (zr j))))] := w
  refine lv_aload_n hx hb dX0_init_12 rfl (lv_at hl 0 rfl) ?_
  refine lv_bipush (v := iI 6) hx hb dX0_init_13 (by decide +kernel) ?_
  refine kk_ni (N := 6) C0 w (by decide +kernel) (by decide +kernel) (Nat.le_of_ble_eq_true rfl) (Nat.le_of_ble_eq_true rfl) (Nat.le_of_ble_eq_true rfl) dX0_init_15 (fun q2 H w => ?_)
  have w : kW D A s.heap H _ [(h0, .inr (0, [.int (iI 0), .int (iI 0), .int (iI 0), .int (iI 0), .ref q1, .null, .null, .null, .null, .null])), (q1, .inl (cA 0, 6, .inl (fun j => iI (zr j)))), (q2, .inl (cA 0, 6, .inl (fun j => iI (zr j))))] := w
  refine kk_putF C0 fl_X0_15 rfl hin rfl w 0 rfl rfl rfl (Nat.le_of_ble_eq_true rfl) dX0_init_17 (fun H locs w => ?_)
  have w : kW D A s.heap H _ [(h0, .inr (0, [.int (iI 0), .int (iI 0), .int (iI 0), .int (iI 0), .ref q1, .ref q2, .null, .null, .null, .null])), (q1, .inl (cA 0, 6, .inl (fun j => iI (zr j)))), (q2, .inl (cA 0, 6, .inl (fun j => iI (zr j))))] := w
  refine lv_aload_n hx hb dX0_init_20 rfl (lv_at hl 0 rfl) ?_
  refine lv_bipush (v := iI 6) hx hb dX0_init_21 (by decide +kernel) ?_
  refine kk_ni (N := 6) C0 w (by decide +kernel) (by decide +kernel) (Nat.le_of_ble_eq_true rfl) (Nat.le_of_ble_eq_true rfl) (Nat.le_of_ble_eq_true rfl) dX0_init_23 (fun q3 H w => ?_)
  have w : kW D A s.heap H _ [(h0, .inr (0, [.int (iI 0), .int (iI 0), .int (iI 0), .int (iI 0), .ref q1, .ref q2, .null, .null, .null, .null])), (q1, .inl (cA 0, 6, .inl (fun j => iI (zr j)))), (q2, .inl (cA 0, 6, .inl (fun j => iI (zr j)))), (q3, .inl (cA 0, 6, .inl (fun j => iI (zr j))))] := w
  refine kk_putF C0 fl_X0_18 rfl hin rfl w 0 rfl rfl rfl (Nat.le_of_ble_eq_true rfl) dX0_init_25 (fun H locs w => ?_)
  have w : kW D A s.heap H _ [(h0, .inr (0, [.int (iI 0), .int (iI 0), .int (iI 0), .int (iI 0), .ref q1, .ref q2, .ref q3, .null, .null, .null])), (q1, .inl (cA 0, 6, .inl (fun j => iI (zr j)))), (q2, .inl (cA 0, 6, .inl (fun j => iI (zr j)))), (q3, .inl (cA 0, 6, .inl (fun j => iI (zr j))))] := w
  refine lv_aload_n hx hb dX0_init_28 rfl (lv_at hl 0 rfl) ?_
  refine lv_bipush (v := iI 6) hx hb dX0_init_29 (by decide +kernel) ?_
  refine kk_ni (N := 6) C0 w (by decide +kernel) (by decide +kernel) (Nat.le_of_ble_eq_true rfl) (Nat.le_of_ble_eq_true rfl) (Nat.le_of_ble_eq_true rfl) dX0_init_31 (fun q4 H w => ?_)
  have w : kW D A s.heap H _ [(h0, .inr (0, [.int (iI 0), .int (iI 0), .int (iI 0), .int (iI 0), .ref q1, .ref q2, .ref q3, .null, .null, .null])), (q1, .inl (cA 0, 6, .inl (fun j => iI (zr j)))), (q2, .inl (cA 0, 6, .inl (fun j => iI (zr j)))), (q3, .inl (cA 0, 6, .inl (fun j => iI (zr j)))), (q4, .inl (cA 0, 6, .inl (fun j => iI (zr j))))] := w
  refine kk_putF C0 fl_X0_21 rfl hin rfl w 0 rfl rfl rfl (Nat.le_of_ble_eq_true rfl) dX0_init_33 (fun H locs w => ?_)
  have w : kW D A s.heap H _ [(h0, .inr (0, [.int (iI 0), .int (iI 0), .int (iI 0), .int (iI 0), .ref q1, .ref q2, .ref q3, .ref q4, .null, .null])), (q1, .inl (cA 0, 6, .inl (fun j => iI (zr j)))), (q2, .inl (cA 0, 6, .inl (fun j => iI (zr j)))), (q3, .inl (cA 0, 6, .inl (fun j => iI (zr j)))), (q4, .inl (cA 0, 6, .inl (fun j => iI (zr j))))] := w
  refine lv_aload_n hx hb dX0_init_36 rfl (lv_at hl 0 rfl) ?_
  refine lv_bipush (v := iI 6) hx hb dX0_init_37 (by decide +kernel) ?_
  refine kk_ni (N := 6) C0 w (by decide +kernel) (by decide +kernel) (Nat.le_of_ble_eq_true rfl) (Nat.le_of_ble_eq_true rfl) (Nat.le_of_ble_eq_true rfl) dX0_init_39 (fun q5 H w => ?_)
  have w : kW D A s.heap H _ [(h0, .inr (0, [.int (iI 0), .int (iI 0), .int (iI 0), .int (iI 0), .ref q1, .ref q2, .ref q3, .ref q4, .null, .null])), (q1, .inl (cA 0, 6, .inl (fun j => iI (zr j)))), (q2, .inl (cA 0, 6, .inl (fun j => iI (zr j)))), (q3, .inl (cA 0, 6, .inl (fun j => iI (zr j)))), (q4, .inl (cA 0, 6, .inl (fun j => iI (zr j)))), (q5, .inl (cA 0, 6, .inl (fun j => iI (zr j))))] := w
  refine kk_putF C0 fl_X0_24 rfl hin rfl w 0 rfl rfl rfl (Nat.le_of_ble_eq_true rfl) dX0_init_41 (fun H locs w => ?_)
  have w : kW D A s.heap H _ [(h0, .inr (0, [.int (iI 0), .int (iI 0), .int (iI 0), .int (iI 0), .ref q1, .ref q2, .ref q3, .ref q4, .ref q5, .null])), (q1, .inl (cA 0, 6, .inl (fun j => iI (zr j)))), (q2, .inl (cA 0, 6, .inl (fun j => iI (zr j)))), (q3, .inl (cA 0, 6, .inl (fun j => iI (zr j)))), (q4, .inl (cA 0, 6, .inl (fun j => iI (zr j)))), (q5, .inl (cA 0, 6, .inl (fun j => iI (zr j))))] := w
  refine lv_aload_n hx hb dX0_init_44 rfl (lv_at hl 0 rfl) ?_
  refine lv_bipush (v := iI 8) hx hb dX0_init_45 (by decide +kernel) ?_
  refine kk_ni (N := 8) C0 w (by decide +kernel) (by decide +kernel) (Nat.le_of_ble_eq_true rfl) (Nat.le_of_ble_eq_true rfl) (Nat.le_of_ble_eq_true rfl) dX0_init_47 (fun q6 H w => ?_)
  have w : kW D A s.heap H _ [(h0, .inr (0, [.int (iI 0), .int (iI 0), .int (iI 0), .int (iI 0), .ref q1, .ref q2, .ref q3, .ref q4, .ref q5, .null])), (q1, .inl (cA 0, 6, .inl (fun j => iI (zr j)))), (q2, .inl (cA 0, 6, .inl (fun j => iI (zr j)))), (q3, .inl (cA 0, 6, .inl (fun j => iI (zr j)))), (q4, .inl (cA 0, 6, .inl (fun j => iI (zr j)))), (q5, .inl (cA 0, 6, .inl (fun j => iI (zr j)))), (q6, .inl (cA 0, 8, .inl (fun j => iI (zr j))))] := w
  refine kk_putF C0 fl_X0_27 rfl hin rfl w 0 rfl rfl rfl (Nat.le_of_ble_eq_true rfl) dX0_init_49 (fun H locs w => ?_)
  have w : kW D A s.heap H _ [(h0, .inr (0, [.int (iI 0), .int (iI 0), .int (iI 0), .int (iI 0), .ref q1, .ref q2, .ref q3, .ref q4, .ref q5, .ref q6])), (q1, .inl (cA 0, 6, .inl (fun j => iI (zr j)))), (q2, .inl (cA 0, 6, .inl (fun j => iI (zr j)))), (q3, .inl (cA 0, 6, .inl (fun j => iI (zr j)))), (q4, .inl (cA 0, 6, .inl (fun j => iI (zr j)))), (q5, .inl (cA 0, 6, .inl (fun j => iI (zr j)))), (q6, .inl (cA 0, 8, .inl (fun j => iI (zr j))))] := w
  refine lv_aload_n hx hb dX0_init_52 rfl (lv_at hl 0 rfl) ?_
  refine lv_iconst (v := iI 1) hx hb dX0_init_53 rfl ?_
  refine kk_put C0 fl_X0_30 rfl w 0 rfl rfl rfl (Nat.le_of_ble_eq_true rfl) dX0_init_54 (fun H locs w => ?_)
  have w : kW D A s.heap H _ [(h0, .inr (0, [.int (iI 0), .int (iI 0), .int (iI 0), .int (iI 1), .ref q1, .ref q2, .ref q3, .ref q4, .ref q5, .ref q6])), (q1, .inl (cA 0, 6, .inl (fun j => iI (zr j)))), (q2, .inl (cA 0, 6, .inl (fun j => iI (zr j)))), (q3, .inl (cA 0, 6, .inl (fun j => iI (zr j)))), (q4, .inl (cA 0, 6, .inl (fun j => iI (zr j)))), (q5, .inl (cA 0, 6, .inl (fun j => iI (zr j)))), (q6, .inl (cA 0, 8, .inl (fun j => iI (zr j))))] := w
  refine W.widen (k := 6) (n := 38) (Nat.le_of_ble_eq_true rfl) (Nat.le_of_ble_eq_true rfl) ?_
  exact hret _ _ _ _ _ ⟨q1, q2, q3, q4, q5, q6, rfl⟩ w dX0_init_57
def pX1 (cA : Nat → ClassId) (h0 : Nat) (w : va_W) : Prop := ∃ (q1 : Nat), w = [(h0, .inr (1, [.ref q1, .int (iI 0)])), (q1, .inl (cA 0, 20, .inl (fun j => iI (zr j))))]
set_option maxHeartbeats 4000000 in
theorem kn_X1 {l : Launch} {D : va_G} {cA : Nat → ClassId} {h0 : Nat} : kM l D cA yX1_init cX1_init 1 1 1 20 [.ref h0] [(h0, .inr (1, [.null, .int (iI 0)]))] (pX1 cA h0) := by
  refine kk_of (by decide) rfl (Nat.le_of_ble_eq_true rfl) ?_
  intro p e s m below meth c AA A QQ ls C0 hin w hret hl
  have hx := C0.1
  have hb := C0.2.1
  have hl : lv_has ls 1 [(0, .ref h0)] := hl
  refine lv_aload_n hx hb dX1_init_0 rfl (lv_at hl 0 rfl) ?_
  refine kk_oi C0 hl.1 oi_X1 ⟨(Nat.le_of_ble_eq_true rfl), (Nat.le_of_ble_eq_true rfl)⟩ dX1_init_1 ?_
  refine lv_aload_n hx hb dX1_init_4 rfl (lv_at hl 0 rfl) ?_
  refine lv_bipush (v := iI 20) hx hb dX1_init_5 (by decide +kernel) ?_
  refine kk_ni (N := 20) C0 w (by decide +kernel) (by decide +kernel) (Nat.le_of_ble_eq_true rfl) (Nat.le_of_ble_eq_true rfl) (Nat.le_of_ble_eq_true rfl) dX1_init_7 (fun q1 H w => ?_)
  have w : kW D A s.heap H _ [(h0, .inr (1, [.null, .int (iI 0)])), (q1, .inl (cA 0, 20, .inl (fun j => iI (zr j))))] := w
  refine kk_putF C0 fl_X1_9 rfl hin rfl w 0 rfl rfl rfl (Nat.le_of_ble_eq_true rfl) dX1_init_9 (fun H locs w => ?_)
  have w : kW D A s.heap H _ [(h0, .inr (1, [.ref q1, .int (iI 0)])), (q1, .inl (cA 0, 20, .inl (fun j => iI (zr j))))] := w
  refine W.widen (k := 1) (n := 20) (Nat.le_of_ble_eq_true rfl) (Nat.le_of_ble_eq_true rfl) ?_
  exact hret _ _ _ _ _ ⟨q1, rfl⟩ w dX1_init_12
def pX2 (cA : Nat → ClassId) (h0 : Nat) (w : va_W) : Prop := w = [(h0, .inr (2, [.int (iI 0), .long (iL 0), .int (iI 0), .int (iI 0)]))]
set_option maxHeartbeats 4000000 in
theorem kn_X2 {l : Launch} {D : va_G} {cA : Nat → ClassId} {h0 : Nat} : kM l D cA yX2_init cX2_init 1 1 0 0 [.ref h0] [(h0, .inr (2, [.int (iI 0), .long (iL 0), .int (iI 0), .int (iI 0)]))] (pX2 cA h0) := by
  refine kk_of (by decide) rfl (Nat.le_of_ble_eq_true rfl) ?_
  intro p e s m below meth c AA A QQ ls C0 hin w hret hl
  have hx := C0.1
  have hb := C0.2.1
  have hl : lv_has ls 1 [(0, .ref h0)] := hl
  refine lv_aload_n hx hb dX2_init_0 rfl (lv_at hl 0 rfl) ?_
  refine kk_oi C0 hl.1 oi_X2 ⟨(Nat.le_of_ble_eq_true rfl), (Nat.le_of_ble_eq_true rfl)⟩ dX2_init_1 ?_
  refine W.widen (k := 0) (n := 0) (Nat.le_of_ble_eq_true rfl) (Nat.le_of_ble_eq_true rfl) ?_
  exact hret _ _ _ _ _ rfl w dX2_init_4
def pX3 (cA : Nat → ClassId) (h0 t0 : Nat) (w : va_W) : Prop := ∃ (q1 q2 q3 q4 q5 : Nat), w = [(h0, .inr (3, [.ref t0, .ref q1, .ref q2, .ref q3, .int (iI 0), .int (iI 0), .ref q4, .ref q5, .int (iI 0)])), (q1, .inl (cA 0, 6, .inl (fun j => iI (zr j)))), (q2, .inl (cA 0, 6, .inl (fun j => iI (zr j)))), (q3, .inl (cA 0, 6, .inl (fun j => iI (zr j)))), (q4, .inl (cA 0, 6, .inl (fun j => iI (zr j)))), (q5, .inl (cA 0, 36, .inl (fun j => iI (zr j))))]
set_option maxHeartbeats 4000000 in
theorem kn_X3 {l : Launch} {D : va_G} {cA : Nat → ClassId} {h0 t0 : Nat} : kM l D cA yX3_init cX3_init 2 1 5 60 [.ref h0, .ref t0] [(h0, .inr (3, [.null, .null, .null, .null, .int (iI 0), .int (iI 0), .null, .null, .int (iI 0)]))] (pX3 cA h0 t0) := by
  refine kk_of (by decide) rfl (Nat.le_of_ble_eq_true rfl) ?_
  intro p e s m below meth c AA A QQ ls C0 hin w hret hl
  have hx := C0.1
  have hb := C0.2.1
  have hl : lv_has ls 2 [(0, .ref h0), (1, .ref t0)] := hl
  refine lv_aload_n hx hb dX3_init_0 rfl (lv_at hl 0 rfl) ?_
  refine kk_oi C0 hl.1 oi_X3 ⟨(Nat.le_of_ble_eq_true rfl), (Nat.le_of_ble_eq_true rfl)⟩ dX3_init_1 ?_
  refine lv_aload_n hx hb dX3_init_4 rfl (lv_at hl 0 rfl) ?_
  refine lv_bipush (v := iI 6) hx hb dX3_init_5 (by decide +kernel) ?_
  refine kk_ni (N := 6) C0 w (by decide +kernel) (by decide +kernel) (Nat.le_of_ble_eq_true rfl) (Nat.le_of_ble_eq_true rfl) (Nat.le_of_ble_eq_true rfl) dX3_init_7 (fun q1 H w => ?_)
  have w : kW D A s.heap H _ [(h0, .inr (3, [.null, .null, .null, .null, .int (iI 0), .int (iI 0), .null, .null, .int (iI 0)])), (q1, .inl (cA 0, 6, .inl (fun j => iI (zr j))))] := w
  refine kk_putF C0 fl_X3_9 rfl hin rfl w 0 rfl rfl rfl (Nat.le_of_ble_eq_true rfl) dX3_init_9 (fun H locs w => ?_)
  have w : kW D A s.heap H _ [(h0, .inr (3, [.null, .ref q1, .null, .null, .int (iI 0), .int (iI 0), .null, .null, .int (iI 0)])), (q1, .inl (cA 0, 6, .inl (fun j => iI (zr j))))] := w
  refine lv_aload_n hx hb dX3_init_12 rfl (lv_at hl 0 rfl) ?_
  refine lv_bipush (v := iI 6) hx hb dX3_init_13 (by decide +kernel) ?_
  refine kk_ni (N := 6) C0 w (by decide +kernel) (by decide +kernel) (Nat.le_of_ble_eq_true rfl) (Nat.le_of_ble_eq_true rfl) (Nat.le_of_ble_eq_true rfl) dX3_init_15 (fun q2 H w => ?_)
  have w : kW D A s.heap H _ [(h0, .inr (3, [.null, .ref q1, .null, .null, .int (iI 0), .int (iI 0), .null, .null, .int (iI 0)])), (q1, .inl (cA 0, 6, .inl (fun j => iI (zr j)))), (q2, .inl (cA 0, 6, .inl (fun j => iI (zr j))))] := w
  refine kk_putF C0 fl_X3_15 rfl hin rfl w 0 rfl rfl rfl (Nat.le_of_ble_eq_true rfl) dX3_init_17 (fun H locs w => ?_)
  have w : kW D A s.heap H _ [(h0, .inr (3, [.null, .ref q1, .ref q2, .null, .int (iI 0), .int (iI 0), .null, .null, .int (iI 0)])), (q1, .inl (cA 0, 6, .inl (fun j => iI (zr j)))), (q2, .inl (cA 0, 6, .inl (fun j => iI (zr j))))] := w
  refine lv_aload_n hx hb dX3_init_20 rfl (lv_at hl 0 rfl) ?_
  refine lv_bipush (v := iI 6) hx hb dX3_init_21 (by decide +kernel) ?_
  refine kk_ni (N := 6) C0 w (by decide +kernel) (by decide +kernel) (Nat.le_of_ble_eq_true rfl) (Nat.le_of_ble_eq_true rfl) (Nat.le_of_ble_eq_true rfl) dX3_init_23 (fun q3 H w => ?_)
  have w : kW D A s.heap H _ [(h0, .inr (3, [.null, .ref q1, .ref q2, .null, .int (iI 0), .int (iI 0), .null, .null, .int (iI 0)])), (q1, .inl (cA 0, 6, .inl (fun j => iI (zr j)))), (q2, .inl (cA 0, 6, .inl (fun j => iI (zr j)))), (q3, .inl (cA 0, 6, .inl (fun j => iI (zr j))))] := w
  refine kk_putF C0 fl_X3_18 rfl hin rfl w 0 rfl rfl rfl (Nat.le_of_ble_eq_true rfl) dX3_init_25 (fun H locs w => ?_)
  have w : kW D A s.heap H _ [(h0, .inr (3, [.null, .ref q1, .ref q2, .ref q3, .int (iI 0), .int (iI 0), .null, .null, .int (iI 0)])), (q1, .inl (cA 0, 6, .inl (fun j => iI (zr j)))), (q2, .inl (cA 0, 6, .inl (fun j => iI (zr j)))), (q3, .inl (cA 0, 6, .inl (fun j => iI (zr j))))] := w
  refine lv_aload_n hx hb dX3_init_28 rfl (lv_at hl 0 rfl) ?_
  refine lv_bipush (v := iI 6) hx hb dX3_init_29 (by decide +kernel) ?_
  refine kk_ni (N := 6) C0 w (by decide +kernel) (by decide +kernel) (Nat.le_of_ble_eq_true rfl) (Nat.le_of_ble_eq_true rfl) (Nat.le_of_ble_eq_true rfl) dX3_init_31 (fun q4 H w => ?_)
  have w : kW D A s.heap H _ [(h0, .inr (3, [.null, .ref q1, .ref q2, .ref q3, .int (iI 0), .int (iI 0), .null, .null, .int (iI 0)])), (q1, .inl (cA 0, 6, .inl (fun j => iI (zr j)))), (q2, .inl (cA 0, 6, .inl (fun j => iI (zr j)))), (q3, .inl (cA 0, 6, .inl (fun j => iI (zr j)))), (q4, .inl (cA 0, 6, .inl (fun j => iI (zr j))))] := w
  refine kk_putF C0 fl_X3_21 rfl hin rfl w 0 rfl rfl rfl (Nat.le_of_ble_eq_true rfl) dX3_init_33 (fun H locs w => ?_)
  have w : kW D A s.heap H _ [(h0, .inr (3, [.null, .ref q1, .ref q2, .ref q3, .int (iI 0), .int (iI 0), .ref q4, .null, .int (iI 0)])), (q1, .inl (cA 0, 6, .inl (fun j => iI (zr j)))), (q2, .inl (cA 0, 6, .inl (fun j => iI (zr j)))), (q3, .inl (cA 0, 6, .inl (fun j => iI (zr j)))), (q4, .inl (cA 0, 6, .inl (fun j => iI (zr j))))] := w
  refine lv_aload_n hx hb dX3_init_36 rfl (lv_at hl 0 rfl) ?_
  refine lv_bipush (v := iI 36) hx hb dX3_init_37 (by decide +kernel) ?_
  refine kk_ni (N := 36) C0 w (by decide +kernel) (by decide +kernel) (Nat.le_of_ble_eq_true rfl) (Nat.le_of_ble_eq_true rfl) (Nat.le_of_ble_eq_true rfl) dX3_init_39 (fun q5 H w => ?_)
  have w : kW D A s.heap H _ [(h0, .inr (3, [.null, .ref q1, .ref q2, .ref q3, .int (iI 0), .int (iI 0), .ref q4, .null, .int (iI 0)])), (q1, .inl (cA 0, 6, .inl (fun j => iI (zr j)))), (q2, .inl (cA 0, 6, .inl (fun j => iI (zr j)))), (q3, .inl (cA 0, 6, .inl (fun j => iI (zr j)))), (q4, .inl (cA 0, 6, .inl (fun j => iI (zr j)))), (q5, .inl (cA 0, 36, .inl (fun j => iI (zr j))))] := w
  refine kk_putF C0 fl_X3_24 rfl hin rfl w 0 rfl rfl rfl (Nat.le_of_ble_eq_true rfl) dX3_init_41 (fun H locs w => ?_)
  have w : kW D A s.heap H _ [(h0, .inr (3, [.null, .ref q1, .ref q2, .ref q3, .int (iI 0), .int (iI 0), .ref q4, .ref q5, .int (iI 0)])), (q1, .inl (cA 0, 6, .inl (fun j => iI (zr j)))), (q2, .inl (cA 0, 6, .inl (fun j => iI (zr j)))), (q3, .inl (cA 0, 6, .inl (fun j => iI (zr j)))), (q4, .inl (cA 0, 6, .inl (fun j => iI (zr j)))), (q5, .inl (cA 0, 36, .inl (fun j => iI (zr j))))] := w
  refine lv_aload_n hx hb dX3_init_44 rfl (lv_at hl 0 rfl) ?_
  refine lv_aload_n hx hb dX3_init_45 rfl (lv_at hl 1 rfl) ?_
  refine kk_putF C0 fl_X3_27 rfl hin rfl w 0 rfl rfl rfl (Nat.le_of_ble_eq_true rfl) dX3_init_46 (fun H locs w => ?_)
  have w : kW D A s.heap H _ [(h0, .inr (3, [.ref t0, .ref q1, .ref q2, .ref q3, .int (iI 0), .int (iI 0), .ref q4, .ref q5, .int (iI 0)])), (q1, .inl (cA 0, 6, .inl (fun j => iI (zr j)))), (q2, .inl (cA 0, 6, .inl (fun j => iI (zr j)))), (q3, .inl (cA 0, 6, .inl (fun j => iI (zr j)))), (q4, .inl (cA 0, 6, .inl (fun j => iI (zr j)))), (q5, .inl (cA 0, 36, .inl (fun j => iI (zr j))))] := w
  refine W.widen (k := 5) (n := 60) (Nat.le_of_ble_eq_true rfl) (Nat.le_of_ble_eq_true rfl) ?_
  exact hret _ _ _ _ _ ⟨q1, q2, q3, q4, q5, rfl⟩ w dX3_init_49
def pX4 (cA : Nat → ClassId) (h0 b0 : Nat) (w : va_W) : Prop := ∃ (q1 q2 : Nat), ∃ r1 : Nat → Int, (∀ j : Nat, j < 6 → r1 j = -1) ∧ w = [(h0, .inr (4, [.ref b0, .ref q1, .ref q2, .int (iI 0)])), (q1, .inl (cA 0, 6, .inl (fun j => iI (r1 j)))), (q2, .inl (cA 0, 6, .inl (fun j => iI (zr j))))]
set_option maxHeartbeats 4000000 in
theorem kn_X4 {l : Launch} {D : va_G} {cA : Nat → ClassId} {h0 b0 : Nat} : kM l D cA yX4_init cX4_init 3 1 2 12 [.ref h0, .ref b0] [(h0, .inr (4, [.null, .null, .null, .int (iI 0)]))] (pX4 cA h0 b0) := by
  refine kk_of (by decide) rfl (Nat.le_of_ble_eq_true rfl) ?_
  intro p e s m below meth c AA A QQ ls C0 hin w hret hl
  have hx := C0.1
  have hb := C0.2.1
  have hl : lv_has ls 3 [(0, .ref h0), (1, .ref b0)] := hl
  refine lv_aload_n hx hb dX4_init_0 rfl (lv_at hl 0 rfl) ?_
  refine kk_oi C0 hl.1 oi_X4 ⟨(Nat.le_of_ble_eq_true rfl), (Nat.le_of_ble_eq_true rfl)⟩ dX4_init_1 ?_
  refine lv_aload_n hx hb dX4_init_4 rfl (lv_at hl 0 rfl) ?_
  refine lv_bipush (v := iI 6) hx hb dX4_init_5 (by decide +kernel) ?_
  refine kk_ni (N := 6) C0 w (by decide +kernel) (by decide +kernel) (Nat.le_of_ble_eq_true rfl) (Nat.le_of_ble_eq_true rfl) (Nat.le_of_ble_eq_true rfl) dX4_init_7 (fun q1 H w => ?_)
  have w : kW D A s.heap H _ [(h0, .inr (4, [.null, .null, .null, .int (iI 0)])), (q1, .inl (cA 0, 6, .inl (fun j => iI (zr j))))] := w
  refine kk_putF C0 fl_X4_9 rfl hin rfl w 0 rfl rfl rfl (Nat.le_of_ble_eq_true rfl) dX4_init_9 (fun H locs w => ?_)
  have w : kW D A s.heap H _ [(h0, .inr (4, [.null, .ref q1, .null, .int (iI 0)])), (q1, .inl (cA 0, 6, .inl (fun j => iI (zr j))))] := w
  refine lv_aload_n hx hb dX4_init_12 rfl (lv_at hl 0 rfl) ?_
  refine lv_bipush (v := iI 6) hx hb dX4_init_13 (by decide +kernel) ?_
  refine kk_ni (N := 6) C0 w (by decide +kernel) (by decide +kernel) (Nat.le_of_ble_eq_true rfl) (Nat.le_of_ble_eq_true rfl) (Nat.le_of_ble_eq_true rfl) dX4_init_15 (fun q2 H w => ?_)
  have w : kW D A s.heap H _ [(h0, .inr (4, [.null, .ref q1, .null, .int (iI 0)])), (q1, .inl (cA 0, 6, .inl (fun j => iI (zr j)))), (q2, .inl (cA 0, 6, .inl (fun j => iI (zr j))))] := w
  refine kk_putF C0 fl_X4_15 rfl hin rfl w 0 rfl rfl rfl (Nat.le_of_ble_eq_true rfl) dX4_init_17 (fun H locs w => ?_)
  have w : kW D A s.heap H _ [(h0, .inr (4, [.null, .ref q1, .ref q2, .int (iI 0)])), (q1, .inl (cA 0, 6, .inl (fun j => iI (zr j)))), (q2, .inl (cA 0, 6, .inl (fun j => iI (zr j))))] := w
  refine lv_aload_n hx hb dX4_init_20 rfl (lv_at hl 0 rfl) ?_
  refine lv_aload_n hx hb dX4_init_21 rfl (lv_at hl 1 rfl) ?_
  refine kk_putF C0 fl_X4_18 rfl hin rfl w 0 rfl rfl rfl (Nat.le_of_ble_eq_true rfl) dX4_init_22 (fun H locs w => ?_)
  have w : kW D A s.heap H _ [(h0, .inr (4, [.ref b0, .ref q1, .ref q2, .int (iI 0)])), (q1, .inl (cA 0, 6, .inl (fun j => iI (zr j)))), (q2, .inl (cA 0, 6, .inl (fun j => iI (zr j))))] := w
  refine lv_iconst (v := iI 0) hx hb dX4_init_25 rfl ?_
  refine lv_istore_n (lv' := [(2, .int (iI 0)), (0, .ref h0), (1, .ref b0)]) hx hb dX4_init_26 rfl hl (by decide) rfl (fun ls hl => ?_)
  refine lv_iload_n hx hb dX4_init_27 rfl (lv_at hl 0 rfl) ?_
  refine lv_bipush (v := iI 6) hx hb dX4_init_28 (by decide +kernel) ?_
  refine wk_icmp_ge hx hb (x := 0) (y := 6) ⟨by decide, by decide⟩ ⟨by decide, by decide⟩ (tgt := 46) dX4_init_30 (by decide) (fun hh => absurd hh (by decide)) (fun hh => ?_)
  refine lv_aload_n hx hb dX4_init_33 rfl (lv_at hl 1 rfl) ?_
  refine kk_get C0 fl_X4_9 w 0 rfl rfl dX4_init_34 ?_
  refine lv_iload_n hx hb dX4_init_37 rfl (lv_at hl 0 rfl) ?_
  refine lv_iconst (v := iI (-1)) hx hb dX4_init_38 rfl ?_
  refine kk_ias (i := 0) (z := (-1)) (r := zr) C0 w 1 rfl (by decide) (by decide) (Nat.le_of_ble_eq_true rfl) dX4_init_39 (fun H locs w => ?_)
  have w : kW D A s.heap H _ [(h0, .inr (4, [.ref b0, .ref q1, .ref q2, .int (iI 0)])), (q1, .inl (cA 0, 6, .inl (fun j => iI ((up1 zr 0 (-1)) j)))), (q2, .inl (cA 0, 6, .inl (fun j => iI (zr j))))] := w
  refine wk_iinc (lv' := fun z9 => [(2, .int (iI z9)), (0, .ref h0), (1, .ref b0)]) hx hb dX4_init_40 hl (k := 0) rfl (by decide) (fun _ => rfl) (fun z9 ls ez hl => ?_)
  have ez : z9 = 1 := ez
  subst ez
  refine lv_goto (tgt := 27) hx hb dX4_init_43 (by decide) ?_
  refine lv_iload_n hx hb dX4_init_27 rfl (lv_at hl 0 rfl) ?_
  refine lv_bipush (v := iI 6) hx hb dX4_init_28 (by decide +kernel) ?_
  refine wk_icmp_ge hx hb (x := 1) (y := 6) ⟨by decide, by decide⟩ ⟨by decide, by decide⟩ (tgt := 46) dX4_init_30 (by decide) (fun hh => absurd hh (by decide)) (fun hh => ?_)
  refine lv_aload_n hx hb dX4_init_33 rfl (lv_at hl 1 rfl) ?_
  refine kk_get C0 fl_X4_9 w 0 rfl rfl dX4_init_34 ?_
  refine lv_iload_n hx hb dX4_init_37 rfl (lv_at hl 0 rfl) ?_
  refine lv_iconst (v := iI (-1)) hx hb dX4_init_38 rfl ?_
  refine kk_ias (i := 1) (z := (-1)) (r := (up1 zr 0 (-1))) C0 w 1 rfl (by decide) (by decide) (Nat.le_of_ble_eq_true rfl) dX4_init_39 (fun H locs w => ?_)
  have w : kW D A s.heap H _ [(h0, .inr (4, [.ref b0, .ref q1, .ref q2, .int (iI 0)])), (q1, .inl (cA 0, 6, .inl (fun j => iI ((up1 (up1 zr 0 (-1)) 1 (-1)) j)))), (q2, .inl (cA 0, 6, .inl (fun j => iI (zr j))))] := w
  refine wk_iinc (lv' := fun z9 => [(2, .int (iI z9)), (0, .ref h0), (1, .ref b0)]) hx hb dX4_init_40 hl (k := 0) rfl (by decide) (fun _ => rfl) (fun z9 ls ez hl => ?_)
  have ez : z9 = 2 := ez
  subst ez
  refine lv_goto (tgt := 27) hx hb dX4_init_43 (by decide) ?_
  refine lv_iload_n hx hb dX4_init_27 rfl (lv_at hl 0 rfl) ?_
  refine lv_bipush (v := iI 6) hx hb dX4_init_28 (by decide +kernel) ?_
  refine wk_icmp_ge hx hb (x := 2) (y := 6) ⟨by decide, by decide⟩ ⟨by decide, by decide⟩ (tgt := 46) dX4_init_30 (by decide) (fun hh => absurd hh (by decide)) (fun hh => ?_)
  refine lv_aload_n hx hb dX4_init_33 rfl (lv_at hl 1 rfl) ?_
  refine kk_get C0 fl_X4_9 w 0 rfl rfl dX4_init_34 ?_
  refine lv_iload_n hx hb dX4_init_37 rfl (lv_at hl 0 rfl) ?_
  refine lv_iconst (v := iI (-1)) hx hb dX4_init_38 rfl ?_
  refine kk_ias (i := 2) (z := (-1)) (r := (up1 (up1 zr 0 (-1)) 1 (-1))) C0 w 1 rfl (by decide) (by decide) (Nat.le_of_ble_eq_true rfl) dX4_init_39 (fun H locs w => ?_)
  have w : kW D A s.heap H _ [(h0, .inr (4, [.ref b0, .ref q1, .ref q2, .int (iI 0)])), (q1, .inl (cA 0, 6, .inl (fun j => iI ((up1 (up1 (up1 zr 0 (-1)) 1 (-1)) 2 (-1)) j)))), (q2, .inl (cA 0, 6, .inl (fun j => iI (zr j))))] := w
  refine wk_iinc (lv' := fun z9 => [(2, .int (iI z9)), (0, .ref h0), (1, .ref b0)]) hx hb dX4_init_40 hl (k := 0) rfl (by decide) (fun _ => rfl) (fun z9 ls ez hl => ?_)
  have ez : z9 = 3 := ez
  subst ez
  refine lv_goto (tgt := 27) hx hb dX4_init_43 (by decide) ?_
  refine lv_iload_n hx hb dX4_init_27 rfl (lv_at hl 0 rfl) ?_
  refine lv_bipush (v := iI 6) hx hb dX4_init_28 (by decide +kernel) ?_
  refine wk_icmp_ge hx hb (x := 3) (y := 6) ⟨by decide, by decide⟩ ⟨by decide, by decide⟩ (tgt := 46) dX4_init_30 (by decide) (fun hh => absurd hh (by decide)) (fun hh => ?_)
  refine lv_aload_n hx hb dX4_init_33 rfl (lv_at hl 1 rfl) ?_
  refine kk_get C0 fl_X4_9 w 0 rfl rfl dX4_init_34 ?_
  refine lv_iload_n hx hb dX4_init_37 rfl (lv_at hl 0 rfl) ?_
  refine lv_iconst (v := iI (-1)) hx hb dX4_init_38 rfl ?_
  refine kk_ias (i := 3) (z := (-1)) (r := (up1 (up1 (up1 zr 0 (-1)) 1 (-1)) 2 (-1))) C0 w 1 rfl (by decide) (by decide) (Nat.le_of_ble_eq_true rfl) dX4_init_39 (fun H locs w => ?_)
  have w : kW D A s.heap H _ [(h0, .inr (4, [.ref b0, .ref q1, .ref q2, .int (iI 0)])), (q1, .inl (cA 0, 6, .inl (fun j => iI ((up1 (up1 (up1 (up1 zr 0 (-1)) 1 (-1)) 2 (-1)) 3 (-1)) j)))), (q2, .inl (cA 0, 6, .inl (fun j => iI (zr j))))] := w
  refine wk_iinc (lv' := fun z9 => [(2, .int (iI z9)), (0, .ref h0), (1, .ref b0)]) hx hb dX4_init_40 hl (k := 0) rfl (by decide) (fun _ => rfl) (fun z9 ls ez hl => ?_)
  have ez : z9 = 4 := ez
  subst ez
  refine lv_goto (tgt := 27) hx hb dX4_init_43 (by decide) ?_
  refine lv_iload_n hx hb dX4_init_27 rfl (lv_at hl 0 rfl) ?_
  refine lv_bipush (v := iI 6) hx hb dX4_init_28 (by decide +kernel) ?_
  refine wk_icmp_ge hx hb (x := 4) (y := 6) ⟨by decide, by decide⟩ ⟨by decide, by decide⟩ (tgt := 46) dX4_init_30 (by decide) (fun hh => absurd hh (by decide)) (fun hh => ?_)
  refine lv_aload_n hx hb dX4_init_33 rfl (lv_at hl 1 rfl) ?_
  refine kk_get C0 fl_X4_9 w 0 rfl rfl dX4_init_34 ?_
  refine lv_iload_n hx hb dX4_init_37 rfl (lv_at hl 0 rfl) ?_
  refine lv_iconst (v := iI (-1)) hx hb dX4_init_38 rfl ?_
  refine kk_ias (i := 4) (z := (-1)) (r := (up1 (up1 (up1 (up1 zr 0 (-1)) 1 (-1)) 2 (-1)) 3 (-1))) C0 w 1 rfl (by decide) (by decide) (Nat.le_of_ble_eq_true rfl) dX4_init_39 (fun H locs w => ?_)
  have w : kW D A s.heap H _ [(h0, .inr (4, [.ref b0, .ref q1, .ref q2, .int (iI 0)])), (q1, .inl (cA 0, 6, .inl (fun j => iI ((up1 (up1 (up1 (up1 (up1 zr 0 (-1)) 1 (-1)) 2 (-1)) 3 (-1)) 4 (-1)) j)))), (q2, .inl (cA 0, 6, .inl (fun j => iI (zr j))))] := w
  refine wk_iinc (lv' := fun z9 => [(2, .int (iI z9)), (0, .ref h0), (1, .ref b0)]) hx hb dX4_init_40 hl (k := 0) rfl (by decide) (fun _ => rfl) (fun z9 ls ez hl => ?_)
  have ez : z9 = 5 := ez
  subst ez
  refine lv_goto (tgt := 27) hx hb dX4_init_43 (by decide) ?_
  refine lv_iload_n hx hb dX4_init_27 rfl (lv_at hl 0 rfl) ?_
  refine lv_bipush (v := iI 6) hx hb dX4_init_28 (by decide +kernel) ?_
  refine wk_icmp_ge hx hb (x := 5) (y := 6) ⟨by decide, by decide⟩ ⟨by decide, by decide⟩ (tgt := 46) dX4_init_30 (by decide) (fun hh => absurd hh (by decide)) (fun hh => ?_)
  refine lv_aload_n hx hb dX4_init_33 rfl (lv_at hl 1 rfl) ?_
  refine kk_get C0 fl_X4_9 w 0 rfl rfl dX4_init_34 ?_
  refine lv_iload_n hx hb dX4_init_37 rfl (lv_at hl 0 rfl) ?_
  refine lv_iconst (v := iI (-1)) hx hb dX4_init_38 rfl ?_
  refine kk_ias (i := 5) (z := (-1)) (r := (up1 (up1 (up1 (up1 (up1 zr 0 (-1)) 1 (-1)) 2 (-1)) 3 (-1)) 4 (-1))) C0 w 1 rfl (by decide) (by decide) (Nat.le_of_ble_eq_true rfl) dX4_init_39 (fun H locs w => ?_)
  have w : kW D A s.heap H _ [(h0, .inr (4, [.ref b0, .ref q1, .ref q2, .int (iI 0)])), (q1, .inl (cA 0, 6, .inl (fun j => iI ((up1 (up1 (up1 (up1 (up1 (up1 zr 0 (-1)) 1 (-1)) 2 (-1)) 3 (-1)) 4 (-1)) 5 (-1)) j)))), (q2, .inl (cA 0, 6, .inl (fun j => iI (zr j))))] := w
  refine wk_iinc (lv' := fun z9 => [(2, .int (iI z9)), (0, .ref h0), (1, .ref b0)]) hx hb dX4_init_40 hl (k := 0) rfl (by decide) (fun _ => rfl) (fun z9 ls ez hl => ?_)
  have ez : z9 = 6 := ez
  subst ez
  refine lv_goto (tgt := 27) hx hb dX4_init_43 (by decide) ?_
  refine lv_iload_n hx hb dX4_init_27 rfl (lv_at hl 0 rfl) ?_
  refine lv_bipush (v := iI 6) hx hb dX4_init_28 (by decide +kernel) ?_
  refine wk_icmp_ge hx hb (x := 6) (y := 6) ⟨by decide, by decide⟩ ⟨by decide, by decide⟩ (tgt := 46) dX4_init_30 (by decide) (fun hh => ?_) (fun hh => absurd (by decide) hh)
  refine W.widen (k := 2) (n := 12) (Nat.le_of_ble_eq_true rfl) (Nat.le_of_ble_eq_true rfl) ?_
  exact hret _ _ _ _ _ ⟨q1, q2, _, by decide, rfl⟩ w dX4_init_46
def pX5 (cA : Nat → ClassId) (h0 : Nat) (w : va_W) : Prop := ∃ (q1 q2 : Nat), w = [(h0, .inr (5, [.ref q1, .ref q2, .int (iI 0), .int (iI 0)])), (q1, .inl (cA 1, 30, .inr (.inl (fun j => iL (zr j))))), (q2, .inl (cA 0, 30, .inl (fun j => iI (zr j))))]
set_option maxHeartbeats 4000000 in
theorem kn_X5 {l : Launch} {D : va_G} {cA : Nat → ClassId} {h0 : Nat} : kM l D cA yX5_init cX5_init 1 1 2 60 [.ref h0] [(h0, .inr (5, [.null, .null, .int (iI 0), .int (iI 0)]))] (pX5 cA h0) := by
  refine kk_of (by decide) rfl (Nat.le_of_ble_eq_true rfl) ?_
  intro p e s m below meth c AA A QQ ls C0 hin w hret hl
  have hx := C0.1
  have hb := C0.2.1
  have hl : lv_has ls 1 [(0, .ref h0)] := hl
  refine lv_aload_n hx hb dX5_init_0 rfl (lv_at hl 0 rfl) ?_
  refine kk_oi C0 hl.1 oi_X5 ⟨(Nat.le_of_ble_eq_true rfl), (Nat.le_of_ble_eq_true rfl)⟩ dX5_init_1 ?_
  refine lv_aload_n hx hb dX5_init_4 rfl (lv_at hl 0 rfl) ?_
  refine lv_bipush (v := iI 30) hx hb dX5_init_5 (by decide +kernel) ?_
  refine kk_nl (N := 30) C0 w (by decide +kernel) (by decide +kernel) (Nat.le_of_ble_eq_true rfl) (Nat.le_of_ble_eq_true rfl) (Nat.le_of_ble_eq_true rfl) dX5_init_7 (fun q1 H w => ?_)
  have w : kW D A s.heap H _ [(h0, .inr (5, [.null, .null, .int (iI 0), .int (iI 0)])), (q1, .inl (cA 1, 30, .inr (.inl (fun j => iL (zr j)))))] := w
  refine kk_putF C0 fl_X5_9 rfl hin rfl w 0 rfl rfl rfl (Nat.le_of_ble_eq_true rfl) dX5_init_9 (fun H locs w => ?_)
  have w : kW D A s.heap H _ [(h0, .inr (5, [.ref q1, .null, .int (iI 0), .int (iI 0)])), (q1, .inl (cA 1, 30, .inr (.inl (fun j => iL (zr j)))))] := w
  refine lv_aload_n hx hb dX5_init_12 rfl (lv_at hl 0 rfl) ?_
  refine lv_bipush (v := iI 30) hx hb dX5_init_13 (by decide +kernel) ?_
  refine kk_ni (N := 30) C0 w (by decide +kernel) (by decide +kernel) (Nat.le_of_ble_eq_true rfl) (Nat.le_of_ble_eq_true rfl) (Nat.le_of_ble_eq_true rfl) dX5_init_15 (fun q2 H w => ?_)
  have w : kW D A s.heap H _ [(h0, .inr (5, [.ref q1, .null, .int (iI 0), .int (iI 0)])), (q1, .inl (cA 1, 30, .inr (.inl (fun j => iL (zr j))))), (q2, .inl (cA 0, 30, .inl (fun j => iI (zr j))))] := w
  refine kk_putF C0 fl_X5_15 rfl hin rfl w 0 rfl rfl rfl (Nat.le_of_ble_eq_true rfl) dX5_init_17 (fun H locs w => ?_)
  have w : kW D A s.heap H _ [(h0, .inr (5, [.ref q1, .ref q2, .int (iI 0), .int (iI 0)])), (q1, .inl (cA 1, 30, .inr (.inl (fun j => iL (zr j))))), (q2, .inl (cA 0, 30, .inl (fun j => iI (zr j))))] := w
  refine W.widen (k := 2) (n := 60) (Nat.le_of_ble_eq_true rfl) (Nat.le_of_ble_eq_true rfl) ?_
  exact hret _ _ _ _ _ ⟨q1, q2, rfl⟩ w dX5_init_20
def pX6 (cA : Nat → ClassId) (h0 : Nat) (w : va_W) : Prop := ∃ (q1 q2 q3 q4 q5 q6 q7 q8 : Nat), w = [(h0, .inr (6, [.ref q1, .ref q2, .int (iI 0), .int (iI (-1)), .int (iI 0), .int (iI 0), .int (iI 0), .int (iI 0), .int (iI 0)])), (q1, .inl (cA 0, 200, .inl (fun j => iI (zr j)))), (q2, .inr (0, [.int (iI 0), .int (iI 0), .int (iI 0), .int (iI 1), .ref q3, .ref q4, .ref q5, .ref q6, .ref q7, .ref q8])), (q3, .inl (cA 0, 6, .inl (fun j => iI (zr j)))), (q4, .inl (cA 0, 6, .inl (fun j => iI (zr j)))), (q5, .inl (cA 0, 6, .inl (fun j => iI (zr j)))), (q6, .inl (cA 0, 6, .inl (fun j => iI (zr j)))), (q7, .inl (cA 0, 6, .inl (fun j => iI (zr j)))), (q8, .inl (cA 0, 8, .inl (fun j => iI (zr j))))]
set_option maxHeartbeats 4000000 in
theorem kn_X6 {l : Launch} {D : va_G} {cA : Nat → ClassId} {h0 : Nat} : kM l D cA yX6_init cX6_init 1 2 8 248 [.ref h0] [(h0, .inr (6, [.null, .null, .int (iI 0), .int (iI 0), .int (iI 0), .int (iI 0), .int (iI 0), .int (iI 0), .int (iI 0)]))] (pX6 cA h0) := by
  refine kk_of (by decide) rfl (Nat.le_of_ble_eq_true rfl) ?_
  intro p e s m below meth c AA A QQ ls C0 hin w hret hl
  have hx := C0.1
  have hb := C0.2.1
  have hl : lv_has ls 1 [(0, .ref h0)] := hl
  refine lv_aload_n hx hb dX6_init_0 rfl (lv_at hl 0 rfl) ?_
  refine kk_oi C0 hl.1 oi_X6 ⟨(Nat.le_of_ble_eq_true rfl), (Nat.le_of_ble_eq_true rfl)⟩ dX6_init_1 ?_
  refine lv_aload_n hx hb dX6_init_4 rfl (lv_at hl 0 rfl) ?_
  refine lv_sipush (v := iI 200) hx hb dX6_init_5 (by decide +kernel) ?_
  refine kk_ni (N := 200) C0 w (by decide +kernel) (by decide +kernel) (Nat.le_of_ble_eq_true rfl) (Nat.le_of_ble_eq_true rfl) (Nat.le_of_ble_eq_true rfl) dX6_init_8 (fun q1 H w => ?_)
  have w : kW D A s.heap H _ [(h0, .inr (6, [.null, .null, .int (iI 0), .int (iI 0), .int (iI 0), .int (iI 0), .int (iI 0), .int (iI 0), .int (iI 0)])), (q1, .inl (cA 0, 200, .inl (fun j => iI (zr j))))] := w
  refine kk_putF C0 fl_X6_9 rfl hin rfl w 0 rfl rfl rfl (Nat.le_of_ble_eq_true rfl) dX6_init_10 (fun H locs w => ?_)
  have w : kW D A s.heap H _ [(h0, .inr (6, [.ref q1, .null, .int (iI 0), .int (iI 0), .int (iI 0), .int (iI 0), .int (iI 0), .int (iI 0), .int (iI 0)])), (q1, .inl (cA 0, 200, .inl (fun j => iI (zr j))))] := w
  refine lv_aload_n hx hb dX6_init_13 rfl (lv_at hl 0 rfl) ?_
  refine kk_new (ci := 0) (fs := [.int (iI 0), .int (iI 0), .int (iI 0), .int (iI 0), .null, .null, .null, .null, .null, .null]) C0 w rfl in_X0 tyX0_ok ck_X6_15 it_X0 ini_X0 df_X0 (Nat.le_of_ble_eq_true rfl) (Nat.le_of_ble_eq_true rfl) dX6_init_14 (fun q2 H w => ?_)
  have w : kW D A s.heap H _ [(h0, .inr (6, [.ref q1, .null, .int (iI 0), .int (iI 0), .int (iI 0), .int (iI 0), .int (iI 0), .int (iI 0), .int (iI 0)])), (q1, .inl (cA 0, 200, .inl (fun j => iI (zr j)))), (q2, .inr (0, [.int (iI 0), .int (iI 0), .int (iI 0), .int (iI 0), .null, .null, .null, .null, .null, .null]))] := w
  refine lv_dup hx hb dX6_init_17 rfl ?_
  refine kk_callI (n := 0) (wr := [(h0, .inr (6, [.ref q1, .null, .int (iI 0), .int (iI 0), .int (iI 0), .int (iI 0), .int (iI 0), .int (iI 0), .int (iI 0)])), (q1, .inl (cA 0, 200, .inl (fun j => iI (zr j))))]) (wc := [(q2, .inr (0, [.int (iI 0), .int (iI 0), .int (iI 0), .int (iI 0), .null, .null, .null, .null, .null, .null]))]) (As := []) (rest := [.ref q2, .ref h0]) C0 kn_X0 lk_X6_17 cd_X0_init im_X0_init ini_X0 (by decide +kernel) rfl w rfl rfl (Nat.le_of_ble_eq_true rfl) ⟨(Nat.le_of_ble_eq_true rfl), (Nat.le_of_ble_eq_true rfl)⟩ hl.1 dX6_init_18 ⟨(Nat.le_of_ble_eq_true rfl), (Nat.le_of_ble_eq_true rfl)⟩ (fun w1 H locs hw w => ?_)
  obtain ⟨q3, q4, q5, q6, q7, q8, rfl⟩ := hw
  have w : kW D A s.heap H _ [(h0, .inr (6, [.ref q1, .null, .int (iI 0), .int (iI 0), .int (iI 0), .int (iI 0), .int (iI 0), .int (iI 0), .int (iI 0)])), (q1, .inl (cA 0, 200, .inl (fun j => iI (zr j)))), (q2, .inr (0, [.int (iI 0), .int (iI 0), .int (iI 0), .int (iI 1), .ref q3, .ref q4, .ref q5, .ref q6, .ref q7, .ref q8])), (q3, .inl (cA 0, 6, .inl (fun j => iI (zr j)))), (q4, .inl (cA 0, 6, .inl (fun j => iI (zr j)))), (q5, .inl (cA 0, 6, .inl (fun j => iI (zr j)))), (q6, .inl (cA 0, 6, .inl (fun j => iI (zr j)))), (q7, .inl (cA 0, 6, .inl (fun j => iI (zr j)))), (q8, .inl (cA 0, 8, .inl (fun j => iI (zr j))))] := w
  refine kk_putF C0 fl_X6_18 rfl hin rfl w 0 rfl rfl rfl (Nat.le_of_ble_eq_true rfl) dX6_init_21 (fun H locs w => ?_)
  have w : kW D A s.heap H _ [(h0, .inr (6, [.ref q1, .ref q2, .int (iI 0), .int (iI 0), .int (iI 0), .int (iI 0), .int (iI 0), .int (iI 0), .int (iI 0)])), (q1, .inl (cA 0, 200, .inl (fun j => iI (zr j)))), (q2, .inr (0, [.int (iI 0), .int (iI 0), .int (iI 0), .int (iI 1), .ref q3, .ref q4, .ref q5, .ref q6, .ref q7, .ref q8])), (q3, .inl (cA 0, 6, .inl (fun j => iI (zr j)))), (q4, .inl (cA 0, 6, .inl (fun j => iI (zr j)))), (q5, .inl (cA 0, 6, .inl (fun j => iI (zr j)))), (q6, .inl (cA 0, 6, .inl (fun j => iI (zr j)))), (q7, .inl (cA 0, 6, .inl (fun j => iI (zr j)))), (q8, .inl (cA 0, 8, .inl (fun j => iI (zr j))))] := w
  refine lv_aload_n hx hb dX6_init_24 rfl (lv_at hl 0 rfl) ?_
  refine lv_iconst (v := iI (-1)) hx hb dX6_init_25 rfl ?_
  refine kk_put C0 fl_X6_22 rfl w 0 rfl rfl rfl (Nat.le_of_ble_eq_true rfl) dX6_init_26 (fun H locs w => ?_)
  have w : kW D A s.heap H _ [(h0, .inr (6, [.ref q1, .ref q2, .int (iI 0), .int (iI (-1)), .int (iI 0), .int (iI 0), .int (iI 0), .int (iI 0), .int (iI 0)])), (q1, .inl (cA 0, 200, .inl (fun j => iI (zr j)))), (q2, .inr (0, [.int (iI 0), .int (iI 0), .int (iI 0), .int (iI 1), .ref q3, .ref q4, .ref q5, .ref q6, .ref q7, .ref q8])), (q3, .inl (cA 0, 6, .inl (fun j => iI (zr j)))), (q4, .inl (cA 0, 6, .inl (fun j => iI (zr j)))), (q5, .inl (cA 0, 6, .inl (fun j => iI (zr j)))), (q6, .inl (cA 0, 6, .inl (fun j => iI (zr j)))), (q7, .inl (cA 0, 6, .inl (fun j => iI (zr j)))), (q8, .inl (cA 0, 8, .inl (fun j => iI (zr j))))] := w
  refine W.widen (k := 8) (n := 248) (Nat.le_of_ble_eq_true rfl) (Nat.le_of_ble_eq_true rfl) ?_
  exact hret _ _ _ _ _ ⟨q1, q2, q3, q4, q5, q6, q7, q8, rfl⟩ w dX6_init_29
def pX7 (cA : Nat → ClassId) (h0 t0 : Nat) (w : va_W) : Prop := w = [(h0, .inr (7, [.ref t0, .int (iI 0), .int (iI 0)]))]
set_option maxHeartbeats 4000000 in
theorem kn_X7 {l : Launch} {D : va_G} {cA : Nat → ClassId} {h0 t0 : Nat} : kM l D cA yX7_init cX7_init 2 1 0 0 [.ref h0, .ref t0] [(h0, .inr (7, [.null, .int (iI 0), .int (iI 0)]))] (pX7 cA h0 t0) := by
  refine kk_of (by decide) rfl (Nat.le_of_ble_eq_true rfl) ?_
  intro p e s m below meth c AA A QQ ls C0 hin w hret hl
  have hx := C0.1
  have hb := C0.2.1
  have hl : lv_has ls 2 [(0, .ref h0), (1, .ref t0)] := hl
  refine lv_aload_n hx hb dX7_init_0 rfl (lv_at hl 0 rfl) ?_
  refine kk_oi C0 hl.1 oi_X7 ⟨(Nat.le_of_ble_eq_true rfl), (Nat.le_of_ble_eq_true rfl)⟩ dX7_init_1 ?_
  refine lv_aload_n hx hb dX7_init_4 rfl (lv_at hl 0 rfl) ?_
  refine lv_aload_n hx hb dX7_init_5 rfl (lv_at hl 1 rfl) ?_
  refine kk_putF C0 fl_X7_9 rfl hin rfl w 0 rfl rfl rfl (Nat.le_of_ble_eq_true rfl) dX7_init_6 (fun H locs w => ?_)
  have w : kW D A s.heap H _ [(h0, .inr (7, [.ref t0, .int (iI 0), .int (iI 0)]))] := w
  refine W.widen (k := 0) (n := 0) (Nat.le_of_ble_eq_true rfl) (Nat.le_of_ble_eq_true rfl) ?_
  exact hret _ _ _ _ _ rfl w dX7_init_9
def pX8 (cA : Nat → ClassId) (h0 t0 : Nat) (w : va_W) : Prop := ∃ (q1 : Nat), w = [(h0, .inr (8, [.ref t0, .ref q1, .int (iI 0), .int (iI 0)])), (q1, .inl (cA 1, 201, .inr (.inl (fun j => iL (zr j)))))]
set_option maxHeartbeats 4000000 in
theorem kn_X8 {l : Launch} {D : va_G} {cA : Nat → ClassId} {h0 t0 : Nat} : kM l D cA yX8_init cX8_init 2 1 1 201 [.ref h0, .ref t0] [(h0, .inr (8, [.null, .null, .int (iI 0), .int (iI 0)]))] (pX8 cA h0 t0) := by
  refine kk_of (by decide) rfl (Nat.le_of_ble_eq_true rfl) ?_
  intro p e s m below meth c AA A QQ ls C0 hin w hret hl
  have hx := C0.1
  have hb := C0.2.1
  have hl : lv_has ls 2 [(0, .ref h0), (1, .ref t0)] := hl
  refine lv_aload_n hx hb dX8_init_0 rfl (lv_at hl 0 rfl) ?_
  refine kk_oi C0 hl.1 oi_X8 ⟨(Nat.le_of_ble_eq_true rfl), (Nat.le_of_ble_eq_true rfl)⟩ dX8_init_1 ?_
  refine lv_aload_n hx hb dX8_init_4 rfl (lv_at hl 0 rfl) ?_
  refine lv_sipush (v := iI 201) hx hb dX8_init_5 (by decide +kernel) ?_
  refine kk_nl (N := 201) C0 w (by decide +kernel) (by decide +kernel) (Nat.le_of_ble_eq_true rfl) (Nat.le_of_ble_eq_true rfl) (Nat.le_of_ble_eq_true rfl) dX8_init_8 (fun q1 H w => ?_)
  have w : kW D A s.heap H _ [(h0, .inr (8, [.null, .null, .int (iI 0), .int (iI 0)])), (q1, .inl (cA 1, 201, .inr (.inl (fun j => iL (zr j)))))] := w
  refine kk_putF C0 fl_X8_9 rfl hin rfl w 0 rfl rfl rfl (Nat.le_of_ble_eq_true rfl) dX8_init_10 (fun H locs w => ?_)
  have w : kW D A s.heap H _ [(h0, .inr (8, [.null, .ref q1, .int (iI 0), .int (iI 0)])), (q1, .inl (cA 1, 201, .inr (.inl (fun j => iL (zr j)))))] := w
  refine lv_aload_n hx hb dX8_init_13 rfl (lv_at hl 0 rfl) ?_
  refine lv_aload_n hx hb dX8_init_14 rfl (lv_at hl 1 rfl) ?_
  refine kk_putF C0 fl_X8_15 rfl hin rfl w 0 rfl rfl rfl (Nat.le_of_ble_eq_true rfl) dX8_init_15 (fun H locs w => ?_)
  have w : kW D A s.heap H _ [(h0, .inr (8, [.ref t0, .ref q1, .int (iI 0), .int (iI 0)])), (q1, .inl (cA 1, 201, .inr (.inl (fun j => iL (zr j)))))] := w
  refine W.widen (k := 1) (n := 201) (Nat.le_of_ble_eq_true rfl) (Nat.le_of_ble_eq_true rfl) ?_
  exact hret _ _ _ _ _ ⟨q1, rfl⟩ w dX8_init_18
def pX9 (cA : Nat → ClassId) (h0 : Nat) (w : va_W) : Prop := ∃ (q1 q2 : Nat), w = [(h0, .inr (9, [.ref q1, .ref q2, .int (iI 0), .int (iI 0), .int (iI 0), .int (iI 0)])), (q1, .inl (cA 0, 6, .inl (fun j => iI (zr j)))), (q2, .inl (cA 0, 6, .inl (fun j => iI (zr j))))]
set_option maxHeartbeats 4000000 in
theorem kn_X9 {l : Launch} {D : va_G} {cA : Nat → ClassId} {h0 : Nat} : kM l D cA yX9_init cX9_init 1 1 2 12 [.ref h0] [(h0, .inr (9, [.null, .null, .int (iI 0), .int (iI 0), .int (iI 0), .int (iI 0)]))] (pX9 cA h0) := by
  refine kk_of (by decide) rfl (Nat.le_of_ble_eq_true rfl) ?_
  intro p e s m below meth c AA A QQ ls C0 hin w hret hl
  have hx := C0.1
  have hb := C0.2.1
  have hl : lv_has ls 1 [(0, .ref h0)] := hl
  refine lv_aload_n hx hb dX9_init_0 rfl (lv_at hl 0 rfl) ?_
  refine kk_oi C0 hl.1 oi_X9 ⟨(Nat.le_of_ble_eq_true rfl), (Nat.le_of_ble_eq_true rfl)⟩ dX9_init_1 ?_
  refine lv_aload_n hx hb dX9_init_4 rfl (lv_at hl 0 rfl) ?_
  refine lv_bipush (v := iI 6) hx hb dX9_init_5 (by decide +kernel) ?_
  refine kk_ni (N := 6) C0 w (by decide +kernel) (by decide +kernel) (Nat.le_of_ble_eq_true rfl) (Nat.le_of_ble_eq_true rfl) (Nat.le_of_ble_eq_true rfl) dX9_init_7 (fun q1 H w => ?_)
  have w : kW D A s.heap H _ [(h0, .inr (9, [.null, .null, .int (iI 0), .int (iI 0), .int (iI 0), .int (iI 0)])), (q1, .inl (cA 0, 6, .inl (fun j => iI (zr j))))] := w
  refine kk_putF C0 fl_X9_9 rfl hin rfl w 0 rfl rfl rfl (Nat.le_of_ble_eq_true rfl) dX9_init_9 (fun H locs w => ?_)
  have w : kW D A s.heap H _ [(h0, .inr (9, [.ref q1, .null, .int (iI 0), .int (iI 0), .int (iI 0), .int (iI 0)])), (q1, .inl (cA 0, 6, .inl (fun j => iI (zr j))))] := w
  refine lv_aload_n hx hb dX9_init_12 rfl (lv_at hl 0 rfl) ?_
  refine lv_bipush (v := iI 6) hx hb dX9_init_13 (by decide +kernel) ?_
  refine kk_ni (N := 6) C0 w (by decide +kernel) (by decide +kernel) (Nat.le_of_ble_eq_true rfl) (Nat.le_of_ble_eq_true rfl) (Nat.le_of_ble_eq_true rfl) dX9_init_15 (fun q2 H w => ?_)
  have w : kW D A s.heap H _ [(h0, .inr (9, [.ref q1, .null, .int (iI 0), .int (iI 0), .int (iI 0), .int (iI 0)])), (q1, .inl (cA 0, 6, .inl (fun j => iI (zr j)))), (q2, .inl (cA 0, 6, .inl (fun j => iI (zr j))))] := w
  refine kk_putF C0 fl_X9_15 rfl hin rfl w 0 rfl rfl rfl (Nat.le_of_ble_eq_true rfl) dX9_init_17 (fun H locs w => ?_)
  have w : kW D A s.heap H _ [(h0, .inr (9, [.ref q1, .ref q2, .int (iI 0), .int (iI 0), .int (iI 0), .int (iI 0)])), (q1, .inl (cA 0, 6, .inl (fun j => iI (zr j)))), (q2, .inl (cA 0, 6, .inl (fun j => iI (zr j))))] := w
  refine W.widen (k := 2) (n := 12) (Nat.le_of_ble_eq_true rfl) (Nat.le_of_ble_eq_true rfl) ?_
  exact hret _ _ _ _ _ ⟨q1, q2, rfl⟩ w dX9_init_20
def pX10 (cA : Nat → ClassId) (h0 b0 : Nat) (w : va_W) : Prop := ∃ (q1 q2 q3 q4 q5 q6 q9 q10 q11 q14 q15 q16 q19 q20 q21 q24 q25 q26 q29 q30 q31 : Nat), ∃ f1 : Nat → Option Nat, ∃ r2 : Nat → Int, ∃ r3 : Nat → Int, ∃ r4 : Nat → Int, ∃ r5 : Nat → Int, ∃ r6 : Nat → Int, ∃ r7 : Nat → Int, (f1 0 = some q4 ∧ f1 1 = some q9 ∧ f1 2 = some q14 ∧ f1 3 = some q19 ∧ f1 4 = some q24 ∧ f1 5 = some q29) ∧ (∀ j : Nat, j < 6 → r2 j = -1) ∧ (∀ j : Nat, j < 6 → r3 j = -1) ∧ (∀ j : Nat, j < 6 → r4 j = -1) ∧ (∀ j : Nat, j < 6 → r5 j = -1) ∧ (∀ j : Nat, j < 6 → r6 j = -1) ∧ (∀ j : Nat, j < 6 → r7 j = -1) ∧ w = [(h0, .inr (10, [.ref q1, .ref q2, .ref q3, .int (iI 0), .int (iI 0)])), (q1, .inl (cA 3, 6, .inr (.inr (.inr (.inr f1))))), (q2, .inl (cA 0, 5, .inl (fun j => iI (zr j)))), (q3, .inl (cA 0, 5, .inl (fun j => iI (zr j)))), (q4, .inr (4, [.ref b0, .ref q5, .ref q6, .int (iI 0)])), (q5, .inl (cA 0, 6, .inl (fun j => iI (r2 j)))), (q6, .inl (cA 0, 6, .inl (fun j => iI (zr j)))), (q9, .inr (4, [.ref b0, .ref q10, .ref q11, .int (iI 0)])), (q10, .inl (cA 0, 6, .inl (fun j => iI (r3 j)))), (q11, .inl (cA 0, 6, .inl (fun j => iI (zr j)))), (q14, .inr (4, [.ref b0, .ref q15, .ref q16, .int (iI 0)])), (q15, .inl (cA 0, 6, .inl (fun j => iI (r4 j)))), (q16, .inl (cA 0, 6, .inl (fun j => iI (zr j)))), (q19, .inr (4, [.ref b0, .ref q20, .ref q21, .int (iI 0)])), (q20, .inl (cA 0, 6, .inl (fun j => iI (r5 j)))), (q21, .inl (cA 0, 6, .inl (fun j => iI (zr j)))), (q24, .inr (4, [.ref b0, .ref q25, .ref q26, .int (iI 0)])), (q25, .inl (cA 0, 6, .inl (fun j => iI (r6 j)))), (q26, .inl (cA 0, 6, .inl (fun j => iI (zr j)))), (q29, .inr (4, [.ref b0, .ref q30, .ref q31, .int (iI 0)])), (q30, .inl (cA 0, 6, .inl (fun j => iI (r7 j)))), (q31, .inl (cA 0, 6, .inl (fun j => iI (zr j))))]
set_option maxHeartbeats 4000000 in
theorem kn_X10 {l : Launch} {D : va_G} {cA : Nat → ClassId} {h0 b0 : Nat} : kM l D cA yX10_init cX10_init 3 2 21 112 [.ref h0, .ref b0] [(h0, .inr (10, [.null, .null, .null, .int (iI 0), .int (iI 0)]))] (pX10 cA h0 b0) := by
  refine kk_of (by decide) rfl (Nat.le_of_ble_eq_true rfl) ?_
  intro p e s m below meth c AA A QQ ls C0 hin w hret hl
  have hx := C0.1
  have hb := C0.2.1
  have hl : lv_has ls 3 [(0, .ref h0), (1, .ref b0)] := hl
  refine lv_aload_n hx hb dX10_init_0 rfl (lv_at hl 0 rfl) ?_
  refine kk_oi C0 hl.1 oi_X10 ⟨(Nat.le_of_ble_eq_true rfl), (Nat.le_of_ble_eq_true rfl)⟩ dX10_init_1 ?_
  refine lv_aload_n hx hb dX10_init_4 rfl (lv_at hl 0 rfl) ?_
  refine lv_bipush (v := iI 6) hx hb dX10_init_5 (by decide +kernel) ?_
  refine kk_nq (N := 6) (j := 3) C0 w rfl C0.2.2.2.2.2.2.2.2.2.2.2.2.2 ck_X10_9 (by decide +kernel) (by decide +kernel) (Nat.le_of_ble_eq_true rfl) (Nat.le_of_ble_eq_true rfl) (Nat.le_of_ble_eq_true rfl) dX10_init_7 (fun q1 H w => ?_)
  have w : kW D A s.heap H _ [(h0, .inr (10, [.null, .null, .null, .int (iI 0), .int (iI 0)])), (q1, .inl (cA 3, 6, .inr (.inr (.inr (.inr (fun _ => none))))))] := w
  refine kk_putF C0 fl_X10_11 rfl hin rfl w 0 rfl rfl rfl (Nat.le_of_ble_eq_true rfl) dX10_init_10 (fun H locs w => ?_)
  have w : kW D A s.heap H _ [(h0, .inr (10, [.ref q1, .null, .null, .int (iI 0), .int (iI 0)])), (q1, .inl (cA 3, 6, .inr (.inr (.inr (.inr (fun _ => none))))))] := w
  refine lv_aload_n hx hb dX10_init_13 rfl (lv_at hl 0 rfl) ?_
  refine lv_iconst (v := iI 5) hx hb dX10_init_14 rfl ?_
  refine kk_ni (N := 5) C0 w (by decide +kernel) (by decide +kernel) (Nat.le_of_ble_eq_true rfl) (Nat.le_of_ble_eq_true rfl) (Nat.le_of_ble_eq_true rfl) dX10_init_15 (fun q2 H w => ?_)
  have w : kW D A s.heap H _ [(h0, .inr (10, [.ref q1, .null, .null, .int (iI 0), .int (iI 0)])), (q1, .inl (cA 3, 6, .inr (.inr (.inr (.inr (fun _ => none)))))), (q2, .inl (cA 0, 5, .inl (fun j => iI (zr j))))] := w
  refine kk_putF C0 fl_X10_17 rfl hin rfl w 0 rfl rfl rfl (Nat.le_of_ble_eq_true rfl) dX10_init_17 (fun H locs w => ?_)
  have w : kW D A s.heap H _ [(h0, .inr (10, [.ref q1, .ref q2, .null, .int (iI 0), .int (iI 0)])), (q1, .inl (cA 3, 6, .inr (.inr (.inr (.inr (fun _ => none)))))), (q2, .inl (cA 0, 5, .inl (fun j => iI (zr j))))] := w
  refine lv_aload_n hx hb dX10_init_20 rfl (lv_at hl 0 rfl) ?_
  refine lv_iconst (v := iI 5) hx hb dX10_init_21 rfl ?_
  refine kk_ni (N := 5) C0 w (by decide +kernel) (by decide +kernel) (Nat.le_of_ble_eq_true rfl) (Nat.le_of_ble_eq_true rfl) (Nat.le_of_ble_eq_true rfl) dX10_init_22 (fun q3 H w => ?_)
  have w : kW D A s.heap H _ [(h0, .inr (10, [.ref q1, .ref q2, .null, .int (iI 0), .int (iI 0)])), (q1, .inl (cA 3, 6, .inr (.inr (.inr (.inr (fun _ => none)))))), (q2, .inl (cA 0, 5, .inl (fun j => iI (zr j)))), (q3, .inl (cA 0, 5, .inl (fun j => iI (zr j))))] := w
  refine kk_putF C0 fl_X10_21 rfl hin rfl w 0 rfl rfl rfl (Nat.le_of_ble_eq_true rfl) dX10_init_24 (fun H locs w => ?_)
  have w : kW D A s.heap H _ [(h0, .inr (10, [.ref q1, .ref q2, .ref q3, .int (iI 0), .int (iI 0)])), (q1, .inl (cA 3, 6, .inr (.inr (.inr (.inr (fun _ => none)))))), (q2, .inl (cA 0, 5, .inl (fun j => iI (zr j)))), (q3, .inl (cA 0, 5, .inl (fun j => iI (zr j))))] := w
  refine lv_iconst (v := iI 0) hx hb dX10_init_27 rfl ?_
  refine lv_istore_n (lv' := [(2, .int (iI 0)), (0, .ref h0), (1, .ref b0)]) hx hb dX10_init_28 rfl hl (by decide) rfl (fun ls hl => ?_)
  refine lv_iload_n hx hb dX10_init_29 rfl (lv_at hl 0 rfl) ?_
  refine lv_iconst (v := iI 5) hx hb dX10_init_30 rfl ?_
  refine wk_icmp_gt hx hb (x := 0) (y := 5) ⟨by decide, by decide⟩ ⟨by decide, by decide⟩ (tgt := 54) dX10_init_31 (by decide) (fun hh => absurd hh (by decide)) (fun hh => ?_)
  refine lv_aload_n hx hb dX10_init_34 rfl (lv_at hl 1 rfl) ?_
  refine kk_get C0 fl_X10_11 w 0 rfl rfl dX10_init_35 ?_
  refine lv_iload_n hx hb dX10_init_38 rfl (lv_at hl 0 rfl) ?_
  refine kk_new (ci := 4) (fs := [.null, .null, .null, .int (iI 0)]) C0 w rfl in_X4 tyX4_ok ck_X10_9 it_X4 ini_X4 df_X4 (Nat.le_of_ble_eq_true rfl) (Nat.le_of_ble_eq_true rfl) dX10_init_39 (fun q4 H w => ?_)
  have w : kW D A s.heap H _ [(h0, .inr (10, [.ref q1, .ref q2, .ref q3, .int (iI 0), .int (iI 0)])), (q1, .inl (cA 3, 6, .inr (.inr (.inr (.inr (fun _ => none)))))), (q2, .inl (cA 0, 5, .inl (fun j => iI (zr j)))), (q3, .inl (cA 0, 5, .inl (fun j => iI (zr j)))), (q4, .inr (4, [.null, .null, .null, .int (iI 0)]))] := w
  refine lv_dup hx hb dX10_init_42 rfl ?_
  refine lv_aload_n hx hb dX10_init_43 rfl (lv_at hl 2 rfl) ?_
  refine kk_callI (n := 1) (wr := [(h0, .inr (10, [.ref q1, .ref q2, .ref q3, .int (iI 0), .int (iI 0)])), (q1, .inl (cA 3, 6, .inr (.inr (.inr (.inr (fun _ => none)))))), (q2, .inl (cA 0, 5, .inl (fun j => iI (zr j)))), (q3, .inl (cA 0, 5, .inl (fun j => iI (zr j))))]) (wc := [(q4, .inr (4, [.null, .null, .null, .int (iI 0)]))]) (As := [.ref b0]) (rest := [.ref q4, .int (iI 0), .ref q1]) C0 kn_X4 lk_X10_24 cd_X4_init im_X4_init ini_X4 (by decide +kernel) rfl w rfl rfl (Nat.le_of_ble_eq_true rfl) ⟨(Nat.le_of_ble_eq_true rfl), (Nat.le_of_ble_eq_true rfl)⟩ hl.1 dX10_init_44 ⟨(Nat.le_of_ble_eq_true rfl), (Nat.le_of_ble_eq_true rfl)⟩ (fun w1 H locs hw w => ?_)
  obtain ⟨q5, q6, r7, hf8, rfl⟩ := hw
  have w : kW D A s.heap H _ [(h0, .inr (10, [.ref q1, .ref q2, .ref q3, .int (iI 0), .int (iI 0)])), (q1, .inl (cA 3, 6, .inr (.inr (.inr (.inr (fun _ => none)))))), (q2, .inl (cA 0, 5, .inl (fun j => iI (zr j)))), (q3, .inl (cA 0, 5, .inl (fun j => iI (zr j)))), (q4, .inr (4, [.ref b0, .ref q5, .ref q6, .int (iI 0)])), (q5, .inl (cA 0, 6, .inl (fun j => iI (r7 j)))), (q6, .inl (cA 0, 6, .inl (fun j => iI (zr j))))] := w
  refine kk_aas (i := 0) (j := 3) (qk := 4) (ci := 4) C0 w 1 rfl rfl rfl rfl (by decide) (by decide) (Nat.le_of_ble_eq_true rfl) dX10_init_47 (fun H locs w => ?_)
  have w : kW D A s.heap H _ [(h0, .inr (10, [.ref q1, .ref q2, .ref q3, .int (iI 0), .int (iI 0)])), (q1, .inl (cA 3, 6, .inr (.inr (.inr (.inr (va_up (fun _ => none) 0 (some q4))))))), (q2, .inl (cA 0, 5, .inl (fun j => iI (zr j)))), (q3, .inl (cA 0, 5, .inl (fun j => iI (zr j)))), (q4, .inr (4, [.ref b0, .ref q5, .ref q6, .int (iI 0)])), (q5, .inl (cA 0, 6, .inl (fun j => iI (r7 j)))), (q6, .inl (cA 0, 6, .inl (fun j => iI (zr j))))] := w
  refine wk_iinc (lv' := fun z9 => [(2, .int (iI z9)), (0, .ref h0), (1, .ref b0)]) hx hb dX10_init_48 hl (k := 0) rfl (by decide) (fun _ => rfl) (fun z9 ls ez hl => ?_)
  have ez : z9 = 1 := ez
  subst ez
  refine lv_goto (tgt := 29) hx hb dX10_init_51 (by decide) ?_
  refine lv_iload_n hx hb dX10_init_29 rfl (lv_at hl 0 rfl) ?_
  refine lv_iconst (v := iI 5) hx hb dX10_init_30 rfl ?_
  refine wk_icmp_gt hx hb (x := 1) (y := 5) ⟨by decide, by decide⟩ ⟨by decide, by decide⟩ (tgt := 54) dX10_init_31 (by decide) (fun hh => absurd hh (by decide)) (fun hh => ?_)
  refine lv_aload_n hx hb dX10_init_34 rfl (lv_at hl 1 rfl) ?_
  refine kk_get C0 fl_X10_11 w 0 rfl rfl dX10_init_35 ?_
  refine lv_iload_n hx hb dX10_init_38 rfl (lv_at hl 0 rfl) ?_
  refine kk_new (ci := 4) (fs := [.null, .null, .null, .int (iI 0)]) C0 w rfl in_X4 tyX4_ok ck_X10_9 it_X4 ini_X4 df_X4 (Nat.le_of_ble_eq_true rfl) (Nat.le_of_ble_eq_true rfl) dX10_init_39 (fun q9 H w => ?_)
  have w : kW D A s.heap H _ [(h0, .inr (10, [.ref q1, .ref q2, .ref q3, .int (iI 0), .int (iI 0)])), (q1, .inl (cA 3, 6, .inr (.inr (.inr (.inr (va_up (fun _ => none) 0 (some q4))))))), (q2, .inl (cA 0, 5, .inl (fun j => iI (zr j)))), (q3, .inl (cA 0, 5, .inl (fun j => iI (zr j)))), (q4, .inr (4, [.ref b0, .ref q5, .ref q6, .int (iI 0)])), (q5, .inl (cA 0, 6, .inl (fun j => iI (r7 j)))), (q6, .inl (cA 0, 6, .inl (fun j => iI (zr j)))), (q9, .inr (4, [.null, .null, .null, .int (iI 0)]))] := w
  refine lv_dup hx hb dX10_init_42 rfl ?_
  refine lv_aload_n hx hb dX10_init_43 rfl (lv_at hl 2 rfl) ?_
  refine kk_callI (n := 1) (wr := [(h0, .inr (10, [.ref q1, .ref q2, .ref q3, .int (iI 0), .int (iI 0)])), (q1, .inl (cA 3, 6, .inr (.inr (.inr (.inr (va_up (fun _ => none) 0 (some q4))))))), (q2, .inl (cA 0, 5, .inl (fun j => iI (zr j)))), (q3, .inl (cA 0, 5, .inl (fun j => iI (zr j)))), (q4, .inr (4, [.ref b0, .ref q5, .ref q6, .int (iI 0)])), (q5, .inl (cA 0, 6, .inl (fun j => iI (r7 j)))), (q6, .inl (cA 0, 6, .inl (fun j => iI (zr j))))]) (wc := [(q9, .inr (4, [.null, .null, .null, .int (iI 0)]))]) (As := [.ref b0]) (rest := [.ref q9, .int (iI 1), .ref q1]) C0 kn_X4 lk_X10_24 cd_X4_init im_X4_init ini_X4 (by decide +kernel) rfl w rfl rfl (Nat.le_of_ble_eq_true rfl) ⟨(Nat.le_of_ble_eq_true rfl), (Nat.le_of_ble_eq_true rfl)⟩ hl.1 dX10_init_44 ⟨(Nat.le_of_ble_eq_true rfl), (Nat.le_of_ble_eq_true rfl)⟩ (fun w1 H locs hw w => ?_)
  obtain ⟨q10, q11, r12, hf13, rfl⟩ := hw
  have w : kW D A s.heap H _ [(h0, .inr (10, [.ref q1, .ref q2, .ref q3, .int (iI 0), .int (iI 0)])), (q1, .inl (cA 3, 6, .inr (.inr (.inr (.inr (va_up (fun _ => none) 0 (some q4))))))), (q2, .inl (cA 0, 5, .inl (fun j => iI (zr j)))), (q3, .inl (cA 0, 5, .inl (fun j => iI (zr j)))), (q4, .inr (4, [.ref b0, .ref q5, .ref q6, .int (iI 0)])), (q5, .inl (cA 0, 6, .inl (fun j => iI (r7 j)))), (q6, .inl (cA 0, 6, .inl (fun j => iI (zr j)))), (q9, .inr (4, [.ref b0, .ref q10, .ref q11, .int (iI 0)])), (q10, .inl (cA 0, 6, .inl (fun j => iI (r12 j)))), (q11, .inl (cA 0, 6, .inl (fun j => iI (zr j))))] := w
  refine kk_aas (i := 1) (j := 3) (qk := 7) (ci := 4) C0 w 1 rfl rfl rfl rfl (by decide) (by decide) (Nat.le_of_ble_eq_true rfl) dX10_init_47 (fun H locs w => ?_)
  have w : kW D A s.heap H _ [(h0, .inr (10, [.ref q1, .ref q2, .ref q3, .int (iI 0), .int (iI 0)])), (q1, .inl (cA 3, 6, .inr (.inr (.inr (.inr (va_up (va_up (fun _ => none) 0 (some q4)) 1 (some q9))))))), (q2, .inl (cA 0, 5, .inl (fun j => iI (zr j)))), (q3, .inl (cA 0, 5, .inl (fun j => iI (zr j)))), (q4, .inr (4, [.ref b0, .ref q5, .ref q6, .int (iI 0)])), (q5, .inl (cA 0, 6, .inl (fun j => iI (r7 j)))), (q6, .inl (cA 0, 6, .inl (fun j => iI (zr j)))), (q9, .inr (4, [.ref b0, .ref q10, .ref q11, .int (iI 0)])), (q10, .inl (cA 0, 6, .inl (fun j => iI (r12 j)))), (q11, .inl (cA 0, 6, .inl (fun j => iI (zr j))))] := w
  refine wk_iinc (lv' := fun z9 => [(2, .int (iI z9)), (0, .ref h0), (1, .ref b0)]) hx hb dX10_init_48 hl (k := 0) rfl (by decide) (fun _ => rfl) (fun z9 ls ez hl => ?_)
  have ez : z9 = 2 := ez
  subst ez
  refine lv_goto (tgt := 29) hx hb dX10_init_51 (by decide) ?_
  refine lv_iload_n hx hb dX10_init_29 rfl (lv_at hl 0 rfl) ?_
  refine lv_iconst (v := iI 5) hx hb dX10_init_30 rfl ?_
  refine wk_icmp_gt hx hb (x := 2) (y := 5) ⟨by decide, by decide⟩ ⟨by decide, by decide⟩ (tgt := 54) dX10_init_31 (by decide) (fun hh => absurd hh (by decide)) (fun hh => ?_)
  refine lv_aload_n hx hb dX10_init_34 rfl (lv_at hl 1 rfl) ?_
  refine kk_get C0 fl_X10_11 w 0 rfl rfl dX10_init_35 ?_
  refine lv_iload_n hx hb dX10_init_38 rfl (lv_at hl 0 rfl) ?_
  refine kk_new (ci := 4) (fs := [.null, .null, .null, .int (iI 0)]) C0 w rfl in_X4 tyX4_ok ck_X10_9 it_X4 ini_X4 df_X4 (Nat.le_of_ble_eq_true rfl) (Nat.le_of_ble_eq_true rfl) dX10_init_39 (fun q14 H w => ?_)
  have w : kW D A s.heap H _ [(h0, .inr (10, [.ref q1, .ref q2, .ref q3, .int (iI 0), .int (iI 0)])), (q1, .inl (cA 3, 6, .inr (.inr (.inr (.inr (va_up (va_up (fun _ => none) 0 (some q4)) 1 (some q9))))))), (q2, .inl (cA 0, 5, .inl (fun j => iI (zr j)))), (q3, .inl (cA 0, 5, .inl (fun j => iI (zr j)))), (q4, .inr (4, [.ref b0, .ref q5, .ref q6, .int (iI 0)])), (q5, .inl (cA 0, 6, .inl (fun j => iI (r7 j)))), (q6, .inl (cA 0, 6, .inl (fun j => iI (zr j)))), (q9, .inr (4, [.ref b0, .ref q10, .ref q11, .int (iI 0)])), (q10, .inl (cA 0, 6, .inl (fun j => iI (r12 j)))), (q11, .inl (cA 0, 6, .inl (fun j => iI (zr j)))), (q14, .inr (4, [.null, .null, .null, .int (iI 0)]))] := w
  refine lv_dup hx hb dX10_init_42 rfl ?_
  refine lv_aload_n hx hb dX10_init_43 rfl (lv_at hl 2 rfl) ?_
  refine kk_callI (n := 1) (wr := [(h0, .inr (10, [.ref q1, .ref q2, .ref q3, .int (iI 0), .int (iI 0)])), (q1, .inl (cA 3, 6, .inr (.inr (.inr (.inr (va_up (va_up (fun _ => none) 0 (some q4)) 1 (some q9))))))), (q2, .inl (cA 0, 5, .inl (fun j => iI (zr j)))), (q3, .inl (cA 0, 5, .inl (fun j => iI (zr j)))), (q4, .inr (4, [.ref b0, .ref q5, .ref q6, .int (iI 0)])), (q5, .inl (cA 0, 6, .inl (fun j => iI (r7 j)))), (q6, .inl (cA 0, 6, .inl (fun j => iI (zr j)))), (q9, .inr (4, [.ref b0, .ref q10, .ref q11, .int (iI 0)])), (q10, .inl (cA 0, 6, .inl (fun j => iI (r12 j)))), (q11, .inl (cA 0, 6, .inl (fun j => iI (zr j))))]) (wc := [(q14, .inr (4, [.null, .null, .null, .int (iI 0)]))]) (As := [.ref b0]) (rest := [.ref q14, .int (iI 2), .ref q1]) C0 kn_X4 lk_X10_24 cd_X4_init im_X4_init ini_X4 (by decide +kernel) rfl w rfl rfl (Nat.le_of_ble_eq_true rfl) ⟨(Nat.le_of_ble_eq_true rfl), (Nat.le_of_ble_eq_true rfl)⟩ hl.1 dX10_init_44 ⟨(Nat.le_of_ble_eq_true rfl), (Nat.le_of_ble_eq_true rfl)⟩ (fun w1 H locs hw w => ?_)
  obtain ⟨q15, q16, r17, hf18, rfl⟩ := hw
  have w : kW D A s.heap H _ [(h0, .inr (10, [.ref q1, .ref q2, .ref q3, .int (iI 0), .int (iI 0)])), (q1, .inl (cA 3, 6, .inr (.inr (.inr (.inr (va_up (va_up (fun _ => none) 0 (some q4)) 1 (some q9))))))), (q2, .inl (cA 0, 5, .inl (fun j => iI (zr j)))), (q3, .inl (cA 0, 5, .inl (fun j => iI (zr j)))), (q4, .inr (4, [.ref b0, .ref q5, .ref q6, .int (iI 0)])), (q5, .inl (cA 0, 6, .inl (fun j => iI (r7 j)))), (q6, .inl (cA 0, 6, .inl (fun j => iI (zr j)))), (q9, .inr (4, [.ref b0, .ref q10, .ref q11, .int (iI 0)])), (q10, .inl (cA 0, 6, .inl (fun j => iI (r12 j)))), (q11, .inl (cA 0, 6, .inl (fun j => iI (zr j)))), (q14, .inr (4, [.ref b0, .ref q15, .ref q16, .int (iI 0)])), (q15, .inl (cA 0, 6, .inl (fun j => iI (r17 j)))), (q16, .inl (cA 0, 6, .inl (fun j => iI (zr j))))] := w
  refine kk_aas (i := 2) (j := 3) (qk := 10) (ci := 4) C0 w 1 rfl rfl rfl rfl (by decide) (by decide) (Nat.le_of_ble_eq_true rfl) dX10_init_47 (fun H locs w => ?_)
  have w : kW D A s.heap H _ [(h0, .inr (10, [.ref q1, .ref q2, .ref q3, .int (iI 0), .int (iI 0)])), (q1, .inl (cA 3, 6, .inr (.inr (.inr (.inr (va_up (va_up (va_up (fun _ => none) 0 (some q4)) 1 (some q9)) 2 (some q14))))))), (q2, .inl (cA 0, 5, .inl (fun j => iI (zr j)))), (q3, .inl (cA 0, 5, .inl (fun j => iI (zr j)))), (q4, .inr (4, [.ref b0, .ref q5, .ref q6, .int (iI 0)])), (q5, .inl (cA 0, 6, .inl (fun j => iI (r7 j)))), (q6, .inl (cA 0, 6, .inl (fun j => iI (zr j)))), (q9, .inr (4, [.ref b0, .ref q10, .ref q11, .int (iI 0)])), (q10, .inl (cA 0, 6, .inl (fun j => iI (r12 j)))), (q11, .inl (cA 0, 6, .inl (fun j => iI (zr j)))), (q14, .inr (4, [.ref b0, .ref q15, .ref q16, .int (iI 0)])), (q15, .inl (cA 0, 6, .inl (fun j => iI (r17 j)))), (q16, .inl (cA 0, 6, .inl (fun j => iI (zr j))))] := w
  refine wk_iinc (lv' := fun z9 => [(2, .int (iI z9)), (0, .ref h0), (1, .ref b0)]) hx hb dX10_init_48 hl (k := 0) rfl (by decide) (fun _ => rfl) (fun z9 ls ez hl => ?_)
  have ez : z9 = 3 := ez
  subst ez
  refine lv_goto (tgt := 29) hx hb dX10_init_51 (by decide) ?_
  refine lv_iload_n hx hb dX10_init_29 rfl (lv_at hl 0 rfl) ?_
  refine lv_iconst (v := iI 5) hx hb dX10_init_30 rfl ?_
  refine wk_icmp_gt hx hb (x := 3) (y := 5) ⟨by decide, by decide⟩ ⟨by decide, by decide⟩ (tgt := 54) dX10_init_31 (by decide) (fun hh => absurd hh (by decide)) (fun hh => ?_)
  refine lv_aload_n hx hb dX10_init_34 rfl (lv_at hl 1 rfl) ?_
  refine kk_get C0 fl_X10_11 w 0 rfl rfl dX10_init_35 ?_
  refine lv_iload_n hx hb dX10_init_38 rfl (lv_at hl 0 rfl) ?_
  refine kk_new (ci := 4) (fs := [.null, .null, .null, .int (iI 0)]) C0 w rfl in_X4 tyX4_ok ck_X10_9 it_X4 ini_X4 df_X4 (Nat.le_of_ble_eq_true rfl) (Nat.le_of_ble_eq_true rfl) dX10_init_39 (fun q19 H w => ?_)
  have w : kW D A s.heap H _ [(h0, .inr (10, [.ref q1, .ref q2, .ref q3, .int (iI 0), .int (iI 0)])), (q1, .inl (cA 3, 6, .inr (.inr (.inr (.inr (va_up (va_up (va_up (fun _ => none) 0 (some q4)) 1 (some q9)) 2 (some q14))))))), (q2, .inl (cA 0, 5, .inl (fun j => iI (zr j)))), (q3, .inl (cA 0, 5, .inl (fun j => iI (zr j)))), (q4, .inr (4, [.ref b0, .ref q5, .ref q6, .int (iI 0)])), (q5, .inl (cA 0, 6, .inl (fun j => iI (r7 j)))), (q6, .inl (cA 0, 6, .inl (fun j => iI (zr j)))), (q9, .inr (4, [.ref b0, .ref q10, .ref q11, .int (iI 0)])), (q10, .inl (cA 0, 6, .inl (fun j => iI (r12 j)))), (q11, .inl (cA 0, 6, .inl (fun j => iI (zr j)))), (q14, .inr (4, [.ref b0, .ref q15, .ref q16, .int (iI 0)])), (q15, .inl (cA 0, 6, .inl (fun j => iI (r17 j)))), (q16, .inl (cA 0, 6, .inl (fun j => iI (zr j)))), (q19, .inr (4, [.null, .null, .null, .int (iI 0)]))] := w
  refine lv_dup hx hb dX10_init_42 rfl ?_
  refine lv_aload_n hx hb dX10_init_43 rfl (lv_at hl 2 rfl) ?_
  refine kk_callI (n := 1) (wr := [(h0, .inr (10, [.ref q1, .ref q2, .ref q3, .int (iI 0), .int (iI 0)])), (q1, .inl (cA 3, 6, .inr (.inr (.inr (.inr (va_up (va_up (va_up (fun _ => none) 0 (some q4)) 1 (some q9)) 2 (some q14))))))), (q2, .inl (cA 0, 5, .inl (fun j => iI (zr j)))), (q3, .inl (cA 0, 5, .inl (fun j => iI (zr j)))), (q4, .inr (4, [.ref b0, .ref q5, .ref q6, .int (iI 0)])), (q5, .inl (cA 0, 6, .inl (fun j => iI (r7 j)))), (q6, .inl (cA 0, 6, .inl (fun j => iI (zr j)))), (q9, .inr (4, [.ref b0, .ref q10, .ref q11, .int (iI 0)])), (q10, .inl (cA 0, 6, .inl (fun j => iI (r12 j)))), (q11, .inl (cA 0, 6, .inl (fun j => iI (zr j)))), (q14, .inr (4, [.ref b0, .ref q15, .ref q16, .int (iI 0)])), (q15, .inl (cA 0, 6, .inl (fun j => iI (r17 j)))), (q16, .inl (cA 0, 6, .inl (fun j => iI (zr j))))]) (wc := [(q19, .inr (4, [.null, .null, .null, .int (iI 0)]))]) (As := [.ref b0]) (rest := [.ref q19, .int (iI 3), .ref q1]) C0 kn_X4 lk_X10_24 cd_X4_init im_X4_init ini_X4 (by decide +kernel) rfl w rfl rfl (Nat.le_of_ble_eq_true rfl) ⟨(Nat.le_of_ble_eq_true rfl), (Nat.le_of_ble_eq_true rfl)⟩ hl.1 dX10_init_44 ⟨(Nat.le_of_ble_eq_true rfl), (Nat.le_of_ble_eq_true rfl)⟩ (fun w1 H locs hw w => ?_)
  obtain ⟨q20, q21, r22, hf23, rfl⟩ := hw
  have w : kW D A s.heap H _ [(h0, .inr (10, [.ref q1, .ref q2, .ref q3, .int (iI 0), .int (iI 0)])), (q1, .inl (cA 3, 6, .inr (.inr (.inr (.inr (va_up (va_up (va_up (fun _ => none) 0 (some q4)) 1 (some q9)) 2 (some q14))))))), (q2, .inl (cA 0, 5, .inl (fun j => iI (zr j)))), (q3, .inl (cA 0, 5, .inl (fun j => iI (zr j)))), (q4, .inr (4, [.ref b0, .ref q5, .ref q6, .int (iI 0)])), (q5, .inl (cA 0, 6, .inl (fun j => iI (r7 j)))), (q6, .inl (cA 0, 6, .inl (fun j => iI (zr j)))), (q9, .inr (4, [.ref b0, .ref q10, .ref q11, .int (iI 0)])), (q10, .inl (cA 0, 6, .inl (fun j => iI (r12 j)))), (q11, .inl (cA 0, 6, .inl (fun j => iI (zr j)))), (q14, .inr (4, [.ref b0, .ref q15, .ref q16, .int (iI 0)])), (q15, .inl (cA 0, 6, .inl (fun j => iI (r17 j)))), (q16, .inl (cA 0, 6, .inl (fun j => iI (zr j)))), (q19, .inr (4, [.ref b0, .ref q20, .ref q21, .int (iI 0)])), (q20, .inl (cA 0, 6, .inl (fun j => iI (r22 j)))), (q21, .inl (cA 0, 6, .inl (fun j => iI (zr j))))] := w
  refine kk_aas (i := 3) (j := 3) (qk := 13) (ci := 4) C0 w 1 rfl rfl rfl rfl (by decide) (by decide) (Nat.le_of_ble_eq_true rfl) dX10_init_47 (fun H locs w => ?_)
  have w : kW D A s.heap H _ [(h0, .inr (10, [.ref q1, .ref q2, .ref q3, .int (iI 0), .int (iI 0)])), (q1, .inl (cA 3, 6, .inr (.inr (.inr (.inr (va_up (va_up (va_up (va_up (fun _ => none) 0 (some q4)) 1 (some q9)) 2 (some q14)) 3 (some q19))))))), (q2, .inl (cA 0, 5, .inl (fun j => iI (zr j)))), (q3, .inl (cA 0, 5, .inl (fun j => iI (zr j)))), (q4, .inr (4, [.ref b0, .ref q5, .ref q6, .int (iI 0)])), (q5, .inl (cA 0, 6, .inl (fun j => iI (r7 j)))), (q6, .inl (cA 0, 6, .inl (fun j => iI (zr j)))), (q9, .inr (4, [.ref b0, .ref q10, .ref q11, .int (iI 0)])), (q10, .inl (cA 0, 6, .inl (fun j => iI (r12 j)))), (q11, .inl (cA 0, 6, .inl (fun j => iI (zr j)))), (q14, .inr (4, [.ref b0, .ref q15, .ref q16, .int (iI 0)])), (q15, .inl (cA 0, 6, .inl (fun j => iI (r17 j)))), (q16, .inl (cA 0, 6, .inl (fun j => iI (zr j)))), (q19, .inr (4, [.ref b0, .ref q20, .ref q21, .int (iI 0)])), (q20, .inl (cA 0, 6, .inl (fun j => iI (r22 j)))), (q21, .inl (cA 0, 6, .inl (fun j => iI (zr j))))] := w
  refine wk_iinc (lv' := fun z9 => [(2, .int (iI z9)), (0, .ref h0), (1, .ref b0)]) hx hb dX10_init_48 hl (k := 0) rfl (by decide) (fun _ => rfl) (fun z9 ls ez hl => ?_)
  have ez : z9 = 4 := ez
  subst ez
  refine lv_goto (tgt := 29) hx hb dX10_init_51 (by decide) ?_
  refine lv_iload_n hx hb dX10_init_29 rfl (lv_at hl 0 rfl) ?_
  refine lv_iconst (v := iI 5) hx hb dX10_init_30 rfl ?_
  refine wk_icmp_gt hx hb (x := 4) (y := 5) ⟨by decide, by decide⟩ ⟨by decide, by decide⟩ (tgt := 54) dX10_init_31 (by decide) (fun hh => absurd hh (by decide)) (fun hh => ?_)
  refine lv_aload_n hx hb dX10_init_34 rfl (lv_at hl 1 rfl) ?_
  refine kk_get C0 fl_X10_11 w 0 rfl rfl dX10_init_35 ?_
  refine lv_iload_n hx hb dX10_init_38 rfl (lv_at hl 0 rfl) ?_
  refine kk_new (ci := 4) (fs := [.null, .null, .null, .int (iI 0)]) C0 w rfl in_X4 tyX4_ok ck_X10_9 it_X4 ini_X4 df_X4 (Nat.le_of_ble_eq_true rfl) (Nat.le_of_ble_eq_true rfl) dX10_init_39 (fun q24 H w => ?_)
  have w : kW D A s.heap H _ [(h0, .inr (10, [.ref q1, .ref q2, .ref q3, .int (iI 0), .int (iI 0)])), (q1, .inl (cA 3, 6, .inr (.inr (.inr (.inr (va_up (va_up (va_up (va_up (fun _ => none) 0 (some q4)) 1 (some q9)) 2 (some q14)) 3 (some q19))))))), (q2, .inl (cA 0, 5, .inl (fun j => iI (zr j)))), (q3, .inl (cA 0, 5, .inl (fun j => iI (zr j)))), (q4, .inr (4, [.ref b0, .ref q5, .ref q6, .int (iI 0)])), (q5, .inl (cA 0, 6, .inl (fun j => iI (r7 j)))), (q6, .inl (cA 0, 6, .inl (fun j => iI (zr j)))), (q9, .inr (4, [.ref b0, .ref q10, .ref q11, .int (iI 0)])), (q10, .inl (cA 0, 6, .inl (fun j => iI (r12 j)))), (q11, .inl (cA 0, 6, .inl (fun j => iI (zr j)))), (q14, .inr (4, [.ref b0, .ref q15, .ref q16, .int (iI 0)])), (q15, .inl (cA 0, 6, .inl (fun j => iI (r17 j)))), (q16, .inl (cA 0, 6, .inl (fun j => iI (zr j)))), (q19, .inr (4, [.ref b0, .ref q20, .ref q21, .int (iI 0)])), (q20, .inl (cA 0, 6, .inl (fun j => iI (r22 j)))), (q21, .inl (cA 0, 6, .inl (fun j => iI (zr j)))), (q24, .inr (4, [.null, .null, .null, .int (iI 0)]))] := w
  refine lv_dup hx hb dX10_init_42 rfl ?_
  refine lv_aload_n hx hb dX10_init_43 rfl (lv_at hl 2 rfl) ?_
  refine kk_callI (n := 1) (wr := [(h0, .inr (10, [.ref q1, .ref q2, .ref q3, .int (iI 0), .int (iI 0)])), (q1, .inl (cA 3, 6, .inr (.inr (.inr (.inr (va_up (va_up (va_up (va_up (fun _ => none) 0 (some q4)) 1 (some q9)) 2 (some q14)) 3 (some q19))))))), (q2, .inl (cA 0, 5, .inl (fun j => iI (zr j)))), (q3, .inl (cA 0, 5, .inl (fun j => iI (zr j)))), (q4, .inr (4, [.ref b0, .ref q5, .ref q6, .int (iI 0)])), (q5, .inl (cA 0, 6, .inl (fun j => iI (r7 j)))), (q6, .inl (cA 0, 6, .inl (fun j => iI (zr j)))), (q9, .inr (4, [.ref b0, .ref q10, .ref q11, .int (iI 0)])), (q10, .inl (cA 0, 6, .inl (fun j => iI (r12 j)))), (q11, .inl (cA 0, 6, .inl (fun j => iI (zr j)))), (q14, .inr (4, [.ref b0, .ref q15, .ref q16, .int (iI 0)])), (q15, .inl (cA 0, 6, .inl (fun j => iI (r17 j)))), (q16, .inl (cA 0, 6, .inl (fun j => iI (zr j)))), (q19, .inr (4, [.ref b0, .ref q20, .ref q21, .int (iI 0)])), (q20, .inl (cA 0, 6, .inl (fun j => iI (r22 j)))), (q21, .inl (cA 0, 6, .inl (fun j => iI (zr j))))]) (wc := [(q24, .inr (4, [.null, .null, .null, .int (iI 0)]))]) (As := [.ref b0]) (rest := [.ref q24, .int (iI 4), .ref q1]) C0 kn_X4 lk_X10_24 cd_X4_init im_X4_init ini_X4 (by decide +kernel) rfl w rfl rfl (Nat.le_of_ble_eq_true rfl) ⟨(Nat.le_of_ble_eq_true rfl), (Nat.le_of_ble_eq_true rfl)⟩ hl.1 dX10_init_44 ⟨(Nat.le_of_ble_eq_true rfl), (Nat.le_of_ble_eq_true rfl)⟩ (fun w1 H locs hw w => ?_)
  obtain ⟨q25, q26, r27, hf28, rfl⟩ := hw
  have w : kW D A s.heap H _ [(h0, .inr (10, [.ref q1, .ref q2, .ref q3, .int (iI 0), .int (iI 0)])), (q1, .inl (cA 3, 6, .inr (.inr (.inr (.inr (va_up (va_up (va_up (va_up (fun _ => none) 0 (some q4)) 1 (some q9)) 2 (some q14)) 3 (some q19))))))), (q2, .inl (cA 0, 5, .inl (fun j => iI (zr j)))), (q3, .inl (cA 0, 5, .inl (fun j => iI (zr j)))), (q4, .inr (4, [.ref b0, .ref q5, .ref q6, .int (iI 0)])), (q5, .inl (cA 0, 6, .inl (fun j => iI (r7 j)))), (q6, .inl (cA 0, 6, .inl (fun j => iI (zr j)))), (q9, .inr (4, [.ref b0, .ref q10, .ref q11, .int (iI 0)])), (q10, .inl (cA 0, 6, .inl (fun j => iI (r12 j)))), (q11, .inl (cA 0, 6, .inl (fun j => iI (zr j)))), (q14, .inr (4, [.ref b0, .ref q15, .ref q16, .int (iI 0)])), (q15, .inl (cA 0, 6, .inl (fun j => iI (r17 j)))), (q16, .inl (cA 0, 6, .inl (fun j => iI (zr j)))), (q19, .inr (4, [.ref b0, .ref q20, .ref q21, .int (iI 0)])), (q20, .inl (cA 0, 6, .inl (fun j => iI (r22 j)))), (q21, .inl (cA 0, 6, .inl (fun j => iI (zr j)))), (q24, .inr (4, [.ref b0, .ref q25, .ref q26, .int (iI 0)])), (q25, .inl (cA 0, 6, .inl (fun j => iI (r27 j)))), (q26, .inl (cA 0, 6, .inl (fun j => iI (zr j))))] := w
  refine kk_aas (i := 4) (j := 3) (qk := 16) (ci := 4) C0 w 1 rfl rfl rfl rfl (by decide) (by decide) (Nat.le_of_ble_eq_true rfl) dX10_init_47 (fun H locs w => ?_)
  have w : kW D A s.heap H _ [(h0, .inr (10, [.ref q1, .ref q2, .ref q3, .int (iI 0), .int (iI 0)])), (q1, .inl (cA 3, 6, .inr (.inr (.inr (.inr (va_up (va_up (va_up (va_up (va_up (fun _ => none) 0 (some q4)) 1 (some q9)) 2 (some q14)) 3 (some q19)) 4 (some q24))))))), (q2, .inl (cA 0, 5, .inl (fun j => iI (zr j)))), (q3, .inl (cA 0, 5, .inl (fun j => iI (zr j)))), (q4, .inr (4, [.ref b0, .ref q5, .ref q6, .int (iI 0)])), (q5, .inl (cA 0, 6, .inl (fun j => iI (r7 j)))), (q6, .inl (cA 0, 6, .inl (fun j => iI (zr j)))), (q9, .inr (4, [.ref b0, .ref q10, .ref q11, .int (iI 0)])), (q10, .inl (cA 0, 6, .inl (fun j => iI (r12 j)))), (q11, .inl (cA 0, 6, .inl (fun j => iI (zr j)))), (q14, .inr (4, [.ref b0, .ref q15, .ref q16, .int (iI 0)])), (q15, .inl (cA 0, 6, .inl (fun j => iI (r17 j)))), (q16, .inl (cA 0, 6, .inl (fun j => iI (zr j)))), (q19, .inr (4, [.ref b0, .ref q20, .ref q21, .int (iI 0)])), (q20, .inl (cA 0, 6, .inl (fun j => iI (r22 j)))), (q21, .inl (cA 0, 6, .inl (fun j => iI (zr j)))), (q24, .inr (4, [.ref b0, .ref q25, .ref q26, .int (iI 0)])), (q25, .inl (cA 0, 6, .inl (fun j => iI (r27 j)))), (q26, .inl (cA 0, 6, .inl (fun j => iI (zr j))))] := w
  refine wk_iinc (lv' := fun z9 => [(2, .int (iI z9)), (0, .ref h0), (1, .ref b0)]) hx hb dX10_init_48 hl (k := 0) rfl (by decide) (fun _ => rfl) (fun z9 ls ez hl => ?_)
  have ez : z9 = 5 := ez
  subst ez
  refine lv_goto (tgt := 29) hx hb dX10_init_51 (by decide) ?_
  refine lv_iload_n hx hb dX10_init_29 rfl (lv_at hl 0 rfl) ?_
  refine lv_iconst (v := iI 5) hx hb dX10_init_30 rfl ?_
  refine wk_icmp_gt hx hb (x := 5) (y := 5) ⟨by decide, by decide⟩ ⟨by decide, by decide⟩ (tgt := 54) dX10_init_31 (by decide) (fun hh => absurd hh (by decide)) (fun hh => ?_)
  refine lv_aload_n hx hb dX10_init_34 rfl (lv_at hl 1 rfl) ?_
  refine kk_get C0 fl_X10_11 w 0 rfl rfl dX10_init_35 ?_
  refine lv_iload_n hx hb dX10_init_38 rfl (lv_at hl 0 rfl) ?_
  refine kk_new (ci := 4) (fs := [.null, .null, .null, .int (iI 0)]) C0 w rfl in_X4 tyX4_ok ck_X10_9 it_X4 ini_X4 df_X4 (Nat.le_of_ble_eq_true rfl) (Nat.le_of_ble_eq_true rfl) dX10_init_39 (fun q29 H w => ?_)
  have w : kW D A s.heap H _ [(h0, .inr (10, [.ref q1, .ref q2, .ref q3, .int (iI 0), .int (iI 0)])), (q1, .inl (cA 3, 6, .inr (.inr (.inr (.inr (va_up (va_up (va_up (va_up (va_up (fun _ => none) 0 (some q4)) 1 (some q9)) 2 (some q14)) 3 (some q19)) 4 (some q24))))))), (q2, .inl (cA 0, 5, .inl (fun j => iI (zr j)))), (q3, .inl (cA 0, 5, .inl (fun j => iI (zr j)))), (q4, .inr (4, [.ref b0, .ref q5, .ref q6, .int (iI 0)])), (q5, .inl (cA 0, 6, .inl (fun j => iI (r7 j)))), (q6, .inl (cA 0, 6, .inl (fun j => iI (zr j)))), (q9, .inr (4, [.ref b0, .ref q10, .ref q11, .int (iI 0)])), (q10, .inl (cA 0, 6, .inl (fun j => iI (r12 j)))), (q11, .inl (cA 0, 6, .inl (fun j => iI (zr j)))), (q14, .inr (4, [.ref b0, .ref q15, .ref q16, .int (iI 0)])), (q15, .inl (cA 0, 6, .inl (fun j => iI (r17 j)))), (q16, .inl (cA 0, 6, .inl (fun j => iI (zr j)))), (q19, .inr (4, [.ref b0, .ref q20, .ref q21, .int (iI 0)])), (q20, .inl (cA 0, 6, .inl (fun j => iI (r22 j)))), (q21, .inl (cA 0, 6, .inl (fun j => iI (zr j)))), (q24, .inr (4, [.ref b0, .ref q25, .ref q26, .int (iI 0)])), (q25, .inl (cA 0, 6, .inl (fun j => iI (r27 j)))), (q26, .inl (cA 0, 6, .inl (fun j => iI (zr j)))), (q29, .inr (4, [.null, .null, .null, .int (iI 0)]))] := w
  refine lv_dup hx hb dX10_init_42 rfl ?_
  refine lv_aload_n hx hb dX10_init_43 rfl (lv_at hl 2 rfl) ?_
  refine kk_callI (n := 1) (wr := [(h0, .inr (10, [.ref q1, .ref q2, .ref q3, .int (iI 0), .int (iI 0)])), (q1, .inl (cA 3, 6, .inr (.inr (.inr (.inr (va_up (va_up (va_up (va_up (va_up (fun _ => none) 0 (some q4)) 1 (some q9)) 2 (some q14)) 3 (some q19)) 4 (some q24))))))), (q2, .inl (cA 0, 5, .inl (fun j => iI (zr j)))), (q3, .inl (cA 0, 5, .inl (fun j => iI (zr j)))), (q4, .inr (4, [.ref b0, .ref q5, .ref q6, .int (iI 0)])), (q5, .inl (cA 0, 6, .inl (fun j => iI (r7 j)))), (q6, .inl (cA 0, 6, .inl (fun j => iI (zr j)))), (q9, .inr (4, [.ref b0, .ref q10, .ref q11, .int (iI 0)])), (q10, .inl (cA 0, 6, .inl (fun j => iI (r12 j)))), (q11, .inl (cA 0, 6, .inl (fun j => iI (zr j)))), (q14, .inr (4, [.ref b0, .ref q15, .ref q16, .int (iI 0)])), (q15, .inl (cA 0, 6, .inl (fun j => iI (r17 j)))), (q16, .inl (cA 0, 6, .inl (fun j => iI (zr j)))), (q19, .inr (4, [.ref b0, .ref q20, .ref q21, .int (iI 0)])), (q20, .inl (cA 0, 6, .inl (fun j => iI (r22 j)))), (q21, .inl (cA 0, 6, .inl (fun j => iI (zr j)))), (q24, .inr (4, [.ref b0, .ref q25, .ref q26, .int (iI 0)])), (q25, .inl (cA 0, 6, .inl (fun j => iI (r27 j)))), (q26, .inl (cA 0, 6, .inl (fun j => iI (zr j))))]) (wc := [(q29, .inr (4, [.null, .null, .null, .int (iI 0)]))]) (As := [.ref b0]) (rest := [.ref q29, .int (iI 5), .ref q1]) C0 kn_X4 lk_X10_24 cd_X4_init im_X4_init ini_X4 (by decide +kernel) rfl w rfl rfl (Nat.le_of_ble_eq_true rfl) ⟨(Nat.le_of_ble_eq_true rfl), (Nat.le_of_ble_eq_true rfl)⟩ hl.1 dX10_init_44 ⟨(Nat.le_of_ble_eq_true rfl), (Nat.le_of_ble_eq_true rfl)⟩ (fun w1 H locs hw w => ?_)
  obtain ⟨q30, q31, r32, hf33, rfl⟩ := hw
  have w : kW D A s.heap H _ [(h0, .inr (10, [.ref q1, .ref q2, .ref q3, .int (iI 0), .int (iI 0)])), (q1, .inl (cA 3, 6, .inr (.inr (.inr (.inr (va_up (va_up (va_up (va_up (va_up (fun _ => none) 0 (some q4)) 1 (some q9)) 2 (some q14)) 3 (some q19)) 4 (some q24))))))), (q2, .inl (cA 0, 5, .inl (fun j => iI (zr j)))), (q3, .inl (cA 0, 5, .inl (fun j => iI (zr j)))), (q4, .inr (4, [.ref b0, .ref q5, .ref q6, .int (iI 0)])), (q5, .inl (cA 0, 6, .inl (fun j => iI (r7 j)))), (q6, .inl (cA 0, 6, .inl (fun j => iI (zr j)))), (q9, .inr (4, [.ref b0, .ref q10, .ref q11, .int (iI 0)])), (q10, .inl (cA 0, 6, .inl (fun j => iI (r12 j)))), (q11, .inl (cA 0, 6, .inl (fun j => iI (zr j)))), (q14, .inr (4, [.ref b0, .ref q15, .ref q16, .int (iI 0)])), (q15, .inl (cA 0, 6, .inl (fun j => iI (r17 j)))), (q16, .inl (cA 0, 6, .inl (fun j => iI (zr j)))), (q19, .inr (4, [.ref b0, .ref q20, .ref q21, .int (iI 0)])), (q20, .inl (cA 0, 6, .inl (fun j => iI (r22 j)))), (q21, .inl (cA 0, 6, .inl (fun j => iI (zr j)))), (q24, .inr (4, [.ref b0, .ref q25, .ref q26, .int (iI 0)])), (q25, .inl (cA 0, 6, .inl (fun j => iI (r27 j)))), (q26, .inl (cA 0, 6, .inl (fun j => iI (zr j)))), (q29, .inr (4, [.ref b0, .ref q30, .ref q31, .int (iI 0)])), (q30, .inl (cA 0, 6, .inl (fun j => iI (r32 j)))), (q31, .inl (cA 0, 6, .inl (fun j => iI (zr j))))] := w
  refine kk_aas (i := 5) (j := 3) (qk := 19) (ci := 4) C0 w 1 rfl rfl rfl rfl (by decide) (by decide) (Nat.le_of_ble_eq_true rfl) dX10_init_47 (fun H locs w => ?_)
  have w : kW D A s.heap H _ [(h0, .inr (10, [.ref q1, .ref q2, .ref q3, .int (iI 0), .int (iI 0)])), (q1, .inl (cA 3, 6, .inr (.inr (.inr (.inr (va_up (va_up (va_up (va_up (va_up (va_up (fun _ => none) 0 (some q4)) 1 (some q9)) 2 (some q14)) 3 (some q19)) 4 (some q24)) 5 (some q29))))))), (q2, .inl (cA 0, 5, .inl (fun j => iI (zr j)))), (q3, .inl (cA 0, 5, .inl (fun j => iI (zr j)))), (q4, .inr (4, [.ref b0, .ref q5, .ref q6, .int (iI 0)])), (q5, .inl (cA 0, 6, .inl (fun j => iI (r7 j)))), (q6, .inl (cA 0, 6, .inl (fun j => iI (zr j)))), (q9, .inr (4, [.ref b0, .ref q10, .ref q11, .int (iI 0)])), (q10, .inl (cA 0, 6, .inl (fun j => iI (r12 j)))), (q11, .inl (cA 0, 6, .inl (fun j => iI (zr j)))), (q14, .inr (4, [.ref b0, .ref q15, .ref q16, .int (iI 0)])), (q15, .inl (cA 0, 6, .inl (fun j => iI (r17 j)))), (q16, .inl (cA 0, 6, .inl (fun j => iI (zr j)))), (q19, .inr (4, [.ref b0, .ref q20, .ref q21, .int (iI 0)])), (q20, .inl (cA 0, 6, .inl (fun j => iI (r22 j)))), (q21, .inl (cA 0, 6, .inl (fun j => iI (zr j)))), (q24, .inr (4, [.ref b0, .ref q25, .ref q26, .int (iI 0)])), (q25, .inl (cA 0, 6, .inl (fun j => iI (r27 j)))), (q26, .inl (cA 0, 6, .inl (fun j => iI (zr j)))), (q29, .inr (4, [.ref b0, .ref q30, .ref q31, .int (iI 0)])), (q30, .inl (cA 0, 6, .inl (fun j => iI (r32 j)))), (q31, .inl (cA 0, 6, .inl (fun j => iI (zr j))))] := w
  refine wk_iinc (lv' := fun z9 => [(2, .int (iI z9)), (0, .ref h0), (1, .ref b0)]) hx hb dX10_init_48 hl (k := 0) rfl (by decide) (fun _ => rfl) (fun z9 ls ez hl => ?_)
  have ez : z9 = 6 := ez
  subst ez
  refine lv_goto (tgt := 29) hx hb dX10_init_51 (by decide) ?_
  refine lv_iload_n hx hb dX10_init_29 rfl (lv_at hl 0 rfl) ?_
  refine lv_iconst (v := iI 5) hx hb dX10_init_30 rfl ?_
  refine wk_icmp_gt hx hb (x := 6) (y := 5) ⟨by decide, by decide⟩ ⟨by decide, by decide⟩ (tgt := 54) dX10_init_31 (by decide) (fun hh => ?_) (fun hh => absurd (by decide) hh)
  refine W.widen (k := 21) (n := 112) (Nat.le_of_ble_eq_true rfl) (Nat.le_of_ble_eq_true rfl) ?_
  exact hret _ _ _ _ _ ⟨q1, q2, q3, q4, q5, q6, q9, q10, q11, q14, q15, q16, q19, q20, q21, q24, q25, q26, q29, q30, q31, _, r7, r12, r17, r22, r27, r32, ⟨rfl, rfl, rfl, rfl, rfl, rfl⟩, hf8, hf13, hf18, hf23, hf28, hf33, rfl⟩ w dX10_init_54
